noncomputable def f_X5_become (i0 : Nat) (p0 : Nat) (mem : mi_M) : Option (mi_M) := mi_let (mi_wI mem 5 i0 0 (mem.1 5 p0 0)) fun m1 => mi_let (mi_wI m1 5 i0 1 (m1.1 5 p0 1)) fun m2 => mi_let (mi_wI m2 5 i0 2 (m2.1 5 p0 2)) fun m3 => mi_let (mi_wI m3 5 i0 3 (m3.1 5 p0 3)) fun m4 => mi_let (mi_cp m4 34 p0 34 i0 8) fun m5 => mi_let (mi_cp m5 35 p0 35 i0 6) fun m6 => mi_let (mi_cp m6 36 p0 36 i0 6) fun m7 => some m7
set_option maxRecDepth 100000 in
set_option maxHeartbeats 4000000 in
theorem w_X5_become (i0 : Nat) (p0 : Nat) (hi0 : i0 < mi_n 5) (hp0 : p0 < mi_n 5) (mem : mi_M) (a : mi_M) (e : f_X5_become i0 p0 mem = some a) : mi_Cv (1) mX5_become [vr 5 i0, vr 5 p0] mem (fun m' => m' = a) := by
  unfold mi_Cv
  refine mi_C_intro (ls := [(0, vr 5 i0), (1, vr 5 p0)]) (by decide) rfl rfl ?_
  obtain ⟨Q0, hq0, h⟩ : ∃ Q0 : mi_M → Prop, (∀ b, Q0 b → b = a) ∧ wo (f_X5_become i0 p0 mem) Q0 := ⟨fun b => b = a, fun _ h => h, wo_eq e⟩
  obtain ⟨QX, hQX⟩ : ∃ QX : Option mi_V → mi_M → Prop, QX = (fun r m' => r = none ∧ m' = a) := ⟨_, rfl⟩
  rw [← hQX]
  unfold f_X5_become at h
  refine x_aload_n (pc := 0) dX5_become_0 rfl ?_
  refine x_aload_n (pc := 1) dX5_become_1 rfl ?_
  refine x_getI (pc := 2) dX5_become_2 fX5_21 rfl hp0 ?_
  refine x_putI (pc := 5) dX5_become_5 fX5_21 rfl hi0 rfl rfl ?_
  refine x_letm h (fun m1 h => ?_)
  refine x_aload_n (pc := 8) dX5_become_8 rfl ?_
  refine x_aload_n (pc := 9) dX5_become_9 rfl ?_
  refine x_getI (pc := 10) dX5_become_10 fX5_25 rfl hp0 ?_
  refine x_putI (pc := 13) dX5_become_13 fX5_25 rfl hi0 rfl rfl ?_
  refine x_letm h (fun m2 h => ?_)
  refine x_aload_n (pc := 16) dX5_become_16 rfl ?_
  refine x_aload_n (pc := 17) dX5_become_17 rfl ?_
  refine x_getI (pc := 18) dX5_become_18 fX5_28 rfl hp0 ?_
  refine x_putI (pc := 21) dX5_become_21 fX5_28 rfl hi0 rfl rfl ?_
  refine x_letm h (fun m3 h => ?_)
  refine x_aload_n (pc := 24) dX5_become_24 rfl ?_
  refine x_aload_n (pc := 25) dX5_become_25 rfl ?_
  refine x_getI (pc := 26) dX5_become_26 fX5_31 rfl hp0 ?_
  refine x_putI (pc := 29) dX5_become_29 fX5_31 rfl hi0 rfl rfl ?_
  refine x_letm h (fun m4 h => ?_)
  refine x_aload_n (pc := 32) dX5_become_32 rfl ?_
  refine x_getS (pc := 33) dX5_become_33 fX5_9 rfl hp0 ?_
  refine x_iconst (pc := 36) dX5_become_36 (v := (0 : Int32)) (by decide) ?_
  refine x_aload_n (pc := 37) dX5_become_37 rfl ?_
  refine x_getS (pc := 38) dX5_become_38 fX5_9 rfl hi0 ?_
  refine x_iconst (pc := 41) dX5_become_41 (v := (0 : Int32)) (by decide) ?_
  refine x_bipush (pc := 42) dX5_become_42 (v := (8 : Int32)) (by decide) ?_
  refine x_acpy (pc := 44) (n := 8) dX5_become_44 lX5_46 (by omega) rfl rfl rfl rfl rfl hp0 hi0 (by decide) (by decide) rfl (by decide) ?_
  refine x_letm h (fun m5 h => ?_)
  refine x_aload_n (pc := 47) dX5_become_47 rfl ?_
  refine x_getS (pc := 48) dX5_become_48 fX5_15 rfl hp0 ?_
  refine x_iconst (pc := 51) dX5_become_51 (v := (0 : Int32)) (by decide) ?_
  refine x_aload_n (pc := 52) dX5_become_52 rfl ?_
  refine x_getS (pc := 53) dX5_become_53 fX5_15 rfl hi0 ?_
  refine x_iconst (pc := 56) dX5_become_56 (v := (0 : Int32)) (by decide) ?_
  refine x_bipush (pc := 57) dX5_become_57 (v := (6 : Int32)) (by decide) ?_
  refine x_acpy (pc := 59) (n := 6) dX5_become_59 lX5_46 (by omega) rfl rfl rfl rfl rfl hp0 hi0 (by decide) (by decide) rfl (by decide) ?_
  refine x_letm h (fun m6 h => ?_)
  refine x_aload_n (pc := 62) dX5_become_62 rfl ?_
  refine x_getS (pc := 63) dX5_become_63 fX5_18 rfl hp0 ?_
  refine x_iconst (pc := 66) dX5_become_66 (v := (0 : Int32)) (by decide) ?_
  refine x_aload_n (pc := 67) dX5_become_67 rfl ?_
  refine x_getS (pc := 68) dX5_become_68 fX5_18 rfl hi0 ?_
  refine x_iconst (pc := 71) dX5_become_71 (v := (0 : Int32)) (by decide) ?_
  refine x_bipush (pc := 72) dX5_become_72 (v := (6 : Int32)) (by decide) ?_
  refine x_acpy (pc := 74) (n := 6) dX5_become_74 lX5_46 (by omega) rfl rfl rfl rfl rfl hp0 hi0 (by decide) (by decide) rfl (by decide) ?_
  refine x_letm h (fun m7 h => ?_)
  exact x_ret (pc := 77) dX5_become_77 rfl (by rw [hQX]; exact ⟨rfl, hq0 _ (wo_some h)⟩)
noncomputable def f_X3_keep (p0 : Nat) (mem : mi_M) : Option (mi_M) := mi_g (vp_in (mem.1 3 0 1) 16) (mi_bo (f_X5_become (0 * 0 + 1 + (mem.1 3 0 1).toNatClampNeg) p0 mem) fun m2 => mi_let (mi_wI m2 3 0 1 (((m2.1 3 0 1) + (1 : Int32)) - ((m2.1 3 0 1) + (1 : Int32)) / (16 : Int32) * (16 : Int32))) fun m3 => mi_let (if ((m3.1 3 0 0) + (1 : Int32)) < (16 : Int32) then ((m3.1 3 0 0) + (1 : Int32)) else (16 : Int32)) fun v4 => mi_let (mi_wI m3 3 0 0 v4) fun m5 => some m5)
set_option maxRecDepth 100000 in
set_option maxHeartbeats 4000000 in
theorem w_X3_keep (p0 : Nat) (hp0 : p0 < mi_n 5) (mem : mi_M) (a : mi_M) (e : f_X3_keep p0 mem = some a) : mi_Cv (2) mX3_keep [vr 3 0, vr 5 p0] mem (fun m' => m' = a) := by
  unfold mi_Cv
  refine mi_C_intro (ls := [(0, vr 3 0), (1, vr 5 p0)]) (by decide) rfl rfl ?_
  obtain ⟨Q0, hq0, h⟩ : ∃ Q0 : mi_M → Prop, (∀ b, Q0 b → b = a) ∧ wo (f_X3_keep p0 mem) Q0 := ⟨fun b => b = a, fun _ h => h, wo_eq e⟩
  obtain ⟨QX, hQX⟩ : ∃ QX : Option mi_V → mi_M → Prop, QX = (fun r m' => r = none ∧ m' = a) := ⟨_, rfl⟩
  rw [← hQX]
  unfold f_X3_keep at h
  refine x_aload_n (pc := 0) dX3_keep_0 rfl ?_
  refine x_getS (pc := 1) dX3_keep_1 fX3_11 rfl (by decide) ?_
  refine x_aload_n (pc := 4) dX3_keep_4 rfl ?_
  refine x_getI (pc := 5) dX3_keep_5 fX3_35 rfl (by decide) ?_
  obtain ⟨hx1, h⟩ := wo_g h
  refine x_aaldStJ (pc := 8) dX3_keep_8 rfl rfl (by decide) rfl hx1 ?_
  refine x_aload_n (pc := 9) dX3_keep_9 rfl ?_
  refine y_Vv1 (pc := 10) h dX3_keep_10 lX3_38 (by have h1 := (mi_vin hx1).1; have h2 : (0 : Nat) < 1 := (by decide); show _ < (26 : Nat); omega) (by omega) rfl (fun a e => w_X5_become _ _ (by have h1 := (mi_vin hx1).1; have h2 : (0 : Nat) < 1 := (by decide); show _ < (26 : Nat); omega) hp0 _ a e) (fun m2 h => ?_)
  refine x_aload_n (pc := 13) dX3_keep_13 rfl ?_
  refine x_aload_n (pc := 14) dX3_keep_14 rfl ?_
  refine x_getI (pc := 15) dX3_keep_15 fX3_35 rfl (by decide) ?_
  refine x_iconst (pc := 18) dX3_keep_18 (v := (1 : Int32)) (by decide) ?_
  refine x_iadd (pc := 19) dX3_keep_19 ?_
  refine x_bipush (pc := 20) dX3_keep_20 (v := (16 : Int32)) (by decide) ?_
  refine x_irem (pc := 22) dX3_keep_22 (by decide) ?_
  refine x_putI (pc := 23) dX3_keep_23 fX3_35 rfl (by decide) rfl rfl ?_
  refine x_letm h (fun m3 h => ?_)
  refine x_aload_n (pc := 26) dX3_keep_26 rfl ?_
  refine x_bipush (pc := 27) dX3_keep_27 (v := (16 : Int32)) (by decide) ?_
  refine x_aload_n (pc := 29) dX3_keep_29 rfl ?_
  refine x_getI (pc := 30) dX3_keep_30 fX3_28 rfl (by decide) ?_
  refine x_iconst (pc := 33) dX3_keep_33 (v := (1 : Int32)) (by decide) ?_
  refine x_iadd (pc := 34) dX3_keep_34 ?_
  refine x_mmin (pc := 35) dX3_keep_35 lX3_42 (by omega) rfl ?_
  refine x_leti h (fun v4 h => ?_)
  refine x_putI (pc := 38) dX3_keep_38 fX3_28 rfl (by decide) rfl rfl ?_
  refine x_letm h (fun m5 h => ?_)
  exact x_ret (pc := 41) dX3_keep_41 rfl (by rw [hQX]; exact ⟨rfl, hq0 _ (wo_some h)⟩)
noncomputable def f_X11_holds_J13 (u1 : Int32) : Option (Int32) := mi_g (u1 = 0 ∨ u1 = 1) (some u1)
noncomputable def f_X11_holds (p0 : Int32) (p1 : Int32) (mem : mi_M) : Option (Int32) := if ((p0 >>> (p1 &&& 31)) &&& (1 : Int32)) = 0 then f_X11_holds_J13 (0 : Int32) else f_X11_holds_J13 (1 : Int32)
set_option maxRecDepth 100000 in
set_option maxHeartbeats 4000000 in
theorem w_X11_holds (p0 : Int32) (p1 : Int32) (mem : mi_M) (a : Int32) (e : f_X11_holds p0 p1 mem = some a) : mi_Ci (1) mX11_holds [vi p0, vi p1] mem (fun x m' => x = a ∧ m' = mem) := by
  unfold mi_Ci
  refine mi_C_intro (ls := [(0, vi p0), (1, vi p1)]) (by decide) rfl rfl ?_
  obtain ⟨Q0, hq0, h⟩ : ∃ Q0 : Int32 → Prop, (∀ b, Q0 b → b = a) ∧ wo (f_X11_holds p0 p1 mem) Q0 := ⟨fun b => b = a, fun _ h => h, wo_eq e⟩
  obtain ⟨QX, hQX⟩ : ∃ QX : Option mi_V → mi_M → Prop, QX = (fun r m' => ∃ x, r = some (vi x) ∧ x = a ∧ m' = mem) := ⟨_, rfl⟩
  rw [← hQX]
  unfold f_X11_holds at h
  refine x_iload_n (pc := 0) dX11_holds_0 rfl ?_
  refine x_iload_n (pc := 1) dX11_holds_1 rfl ?_
  refine x_ishr (pc := 2) dX11_holds_2 ?_
  refine x_iconst (pc := 3) dX11_holds_3 (v := (1 : Int32)) (by decide) ?_
  refine x_iand (pc := 4) dX11_holds_4 ?_
  have j13 : ∀ (u1 : Int32), wo (f_X11_holds_J13 u1) Q0 → mi_X mX11_holds (1) 13 [] [vi u1] mem QX := by
    intro u1 h
    unfold f_X11_holds_J13 at h
    obtain ⟨hb2, h⟩ := wo_g h
    exact x_zretB (pc := 13) dX11_holds_13 rfl hb2 (by rw [hQX]; exact ⟨_, rfl, hq0 _ (wo_some h), rfl⟩)
  refine x_if_eq (pc := 5) dX11_holds_5 (tgt := 12) (by decide) (fun c3 => ?_) (fun c3 => ?_)
  · replace h := wo_pos c3 h
    refine x_iconst (pc := 12) dX11_holds_12 (v := (0 : Int32)) (by decide) ?_
    refine x_sub [] trivial ?_
    exact j13 _ h
  · replace h := wo_neg c3 h
    refine x_iconst (pc := 8) dX11_holds_8 (v := (1 : Int32)) (by decide) ?_
    refine x_goto (pc := 9) dX11_holds_9 (tgt := 13) (by decide) ?_
    refine x_sub [] trivial ?_
    exact j13 _ h
noncomputable def f_X5_isForgiven (i0 : Nat) (p0 : Int32) (mem : mi_M) : Option (Int32) := mi_bo (f_X11_holds (mem.1 5 i0 2) p0 mem) fun v1 => mi_g (v1 = 0 ∨ v1 = 1) (some v1)
set_option maxRecDepth 100000 in
set_option maxHeartbeats 4000000 in
theorem w_X5_isForgiven (i0 : Nat) (p0 : Int32) (hi0 : i0 < mi_n 5) (mem : mi_M) (a : Int32) (e : f_X5_isForgiven i0 p0 mem = some a) : mi_Ci (2) mX5_isForgiven [vr 5 i0, vi p0] mem (fun x m' => x = a ∧ m' = mem) := by
  unfold mi_Ci
  refine mi_C_intro (ls := [(0, vr 5 i0), (1, vi p0)]) (by decide) rfl rfl ?_
  obtain ⟨Q0, hq0, h⟩ : ∃ Q0 : Int32 → Prop, (∀ b, Q0 b → b = a) ∧ wo (f_X5_isForgiven i0 p0 mem) Q0 := ⟨fun b => b = a, fun _ h => h, wo_eq e⟩
  obtain ⟨QX, hQX⟩ : ∃ QX : Option mi_V → mi_M → Prop, QX = (fun r m' => ∃ x, r = some (vi x) ∧ x = a ∧ m' = mem) := ⟨_, rfl⟩
  rw [← hQX]
  unfold f_X5_isForgiven at h
  refine x_aload_n (pc := 0) dX5_isForgiven_0 rfl ?_
  refine x_getI (pc := 1) dX5_isForgiven_1 fX5_28 rfl hi0 ?_
  refine x_iload_n (pc := 4) dX5_isForgiven_4 rfl ?_
  refine z_Ni2 (pc := 5) h dX5_isForgiven_5 nX5_52 (by omega) rfl (fun a e => w_X11_holds _ _ _ a e) (fun v1 h => ?_)
  obtain ⟨hb2, h⟩ := wo_g h
  exact x_zretB (pc := 8) dX5_isForgiven_8 rfl hb2 (by rw [hQX]; exact ⟨_, rfl, hq0 _ (wo_some h), rfl⟩)
noncomputable def f_X8_barOf_J28 (u3 : Int32) : Option (Int32) := some u3
noncomputable def f_X8_barOf (i0 : Nat) (p0 : Int32) (mem : mi_M) : Option (Int32) := mi_g (vp_in p0 8) (mi_g (vp_in (mem.1 42 i0 p0.toNatClampNeg) 6) (if (mem.1 39 i0 (mem.1 42 i0 p0.toNatClampNeg).toNatClampNeg) = (2 : Int32) then f_X8_barOf_J28 ((mem.1 8 i0 2) + (3 : Int32)) else f_X8_barOf_J28 (mem.1 8 i0 2)))
set_option maxRecDepth 100000 in
set_option maxHeartbeats 4000000 in
theorem w_X8_barOf (i0 : Nat) (p0 : Int32) (hi0 : i0 < mi_n 8) (mem : mi_M) (a : Int32) (e : f_X8_barOf i0 p0 mem = some a) : mi_Ci (1) mX8_barOf [vr 8 i0, vi p0] mem (fun x m' => x = a ∧ m' = mem) := by
  unfold mi_Ci
  refine mi_C_intro (ls := [(0, vr 8 i0), (1, vi p0)]) (by decide) rfl rfl ?_
  obtain ⟨Q0, hq0, h⟩ : ∃ Q0 : Int32 → Prop, (∀ b, Q0 b → b = a) ∧ wo (f_X8_barOf i0 p0 mem) Q0 := ⟨fun b => b = a, fun _ h => h, wo_eq e⟩
  obtain ⟨QX, hQX⟩ : ∃ QX : Option mi_V → mi_M → Prop, QX = (fun r m' => ∃ x, r = some (vi x) ∧ x = a ∧ m' = mem) := ⟨_, rfl⟩
  rw [← hQX]
  unfold f_X8_barOf at h
  refine x_aload_n (pc := 0) dX8_barOf_0 rfl ?_
  refine x_getS (pc := 1) dX8_barOf_1 fX8_15 rfl hi0 ?_
  refine x_aload_n (pc := 4) dX8_barOf_4 rfl ?_
  refine x_getS (pc := 5) dX8_barOf_5 fX8_25 rfl hi0 ?_
  refine x_iload_n (pc := 8) dX8_barOf_8 rfl ?_
  obtain ⟨hx1, h⟩ := wo_g h
  refine x_ialdJ (pc := 9) dX8_barOf_9 rfl rfl hi0 hx1 ?_
  obtain ⟨hx2, h⟩ := wo_g h
  refine x_ialdJ (pc := 10) dX8_barOf_10 rfl rfl hi0 hx2 ?_
  refine x_iconst (pc := 11) dX8_barOf_11 (v := (2 : Int32)) (by decide) ?_
  have j28 : ∀ (u3 : Int32), wo (f_X8_barOf_J28 u3) Q0 → mi_X mX8_barOf (1) 28 [] [vi u3] mem QX := by
    intro u3 h
    unfold f_X8_barOf_J28 at h
    exact x_iret (pc := 28) dX8_barOf_28 rfl (by rw [hQX]; exact ⟨_, rfl, hq0 _ (wo_some h), rfl⟩)
  refine x_icmp_ne (pc := 12) dX8_barOf_12 (tgt := 24) (by decide) (fun c4 => ?_) (fun c4 => ?_)
  · replace h := wo_neg c4 h
    refine x_aload_n (pc := 24) dX8_barOf_24 rfl ?_
    refine x_getI (pc := 25) dX8_barOf_25 fX8_52 rfl hi0 ?_
    refine x_sub [] trivial ?_
    exact j28 _ h
  · replace h := wo_pos c4 h
    refine x_aload_n (pc := 15) dX8_barOf_15 rfl ?_
    refine x_getI (pc := 16) dX8_barOf_16 fX8_52 rfl hi0 ?_
    refine x_iconst (pc := 19) dX8_barOf_19 (v := (3 : Int32)) (by decide) ?_
    refine x_iadd (pc := 20) dX8_barOf_20 ?_
    refine x_goto (pc := 21) dX8_barOf_21 (tgt := 28) (by decide) ?_
    refine x_sub [] trivial ?_
    exact j28 _ h
noncomputable def f_X5_isRipe_J27 (u2 : Int32) : Option (Int32) := mi_g (u2 = 0 ∨ u2 = 1) (some u2)
noncomputable def f_X5_isRipe_J26 : Option (Int32) := f_X5_isRipe_J27 (0 : Int32)
noncomputable def f_X5_isRipe (i0 : Nat) (p0 : Nat) (p1 : Int32) (mem : mi_M) : Option (Int32) := mi_bo (f_X5_isForgiven i0 p1 mem) fun v1 => if v1 = 0 then mi_g (vp_in p1 8) (mi_bo (f_X8_barOf p0 p1 mem) fun v5 => if v5 < (mem.1 34 i0 p1.toNatClampNeg) then f_X5_isRipe_J26 else f_X5_isRipe_J27 (1 : Int32)) else f_X5_isRipe_J26
set_option maxRecDepth 100000 in
set_option maxHeartbeats 4000000 in
theorem w_X5_isRipe (i0 : Nat) (p0 : Nat) (p1 : Int32) (hi0 : i0 < mi_n 5) (hp0 : p0 < mi_n 8) (mem : mi_M) (a : Int32) (e : f_X5_isRipe i0 p0 p1 mem = some a) : mi_Ci (3) mX5_isRipe [vr 5 i0, vr 8 p0, vi p1] mem (fun x m' => x = a ∧ m' = mem) := by
  unfold mi_Ci
  refine mi_C_intro (ls := [(0, vr 5 i0), (1, vr 8 p0), (2, vi p1)]) (by decide) rfl rfl ?_
  obtain ⟨Q0, hq0, h⟩ : ∃ Q0 : Int32 → Prop, (∀ b, Q0 b → b = a) ∧ wo (f_X5_isRipe i0 p0 p1 mem) Q0 := ⟨fun b => b = a, fun _ h => h, wo_eq e⟩
  obtain ⟨QX, hQX⟩ : ∃ QX : Option mi_V → mi_M → Prop, QX = (fun r m' => ∃ x, r = some (vi x) ∧ x = a ∧ m' = mem) := ⟨_, rfl⟩
  rw [← hQX]
  unfold f_X5_isRipe at h
  refine x_aload_n (pc := 0) dX5_isRipe_0 rfl ?_
  refine x_iload_n (pc := 1) dX5_isRipe_1 rfl ?_
  refine z_Vi1 (pc := 2) h dX5_isRipe_2 lX5_56 hi0 (by omega) rfl (fun a e => w_X5_isForgiven _ _ hi0 _ a e) (fun v1 h => ?_)
  have j27 : ∀ (u2 : Int32), wo (f_X5_isRipe_J27 u2) Q0 → mi_X mX5_isRipe (3) 27 [] [vi u2] mem QX := by
    intro u2 h
    unfold f_X5_isRipe_J27 at h
    obtain ⟨hb3, h⟩ := wo_g h
    exact x_zretB (pc := 27) dX5_isRipe_27 rfl hb3 (by rw [hQX]; exact ⟨_, rfl, hq0 _ (wo_some h), rfl⟩)
  have j26 : wo (f_X5_isRipe_J26) Q0 → mi_X mX5_isRipe (3) 26 [] [] mem QX := by
    intro h
    unfold f_X5_isRipe_J26 at h
    refine x_iconst (pc := 26) dX5_isRipe_26 (v := (0 : Int32)) (by decide) ?_
    refine x_sub [] trivial ?_
    exact j27 _ h
  refine x_if_ne (pc := 5) dX5_isRipe_5 (tgt := 26) (by decide) (fun c7 => ?_) (fun c7 => ?_)
  · replace h := wo_neg c7 h
    refine x_sub [] trivial ?_
    exact j26 h
  · replace h := wo_pos c7 h
    refine x_aload_n (pc := 8) dX5_isRipe_8 rfl ?_
    refine x_getS (pc := 9) dX5_isRipe_9 fX5_9 rfl hi0 ?_
    refine x_iload_n (pc := 12) dX5_isRipe_12 rfl ?_
    obtain ⟨hx4, h⟩ := wo_g h
    refine x_ialdJ (pc := 13) dX5_isRipe_13 rfl rfl hi0 hx4 ?_
    refine x_aload_n (pc := 14) dX5_isRipe_14 rfl ?_
    refine x_iload_n (pc := 15) dX5_isRipe_15 rfl ?_
    refine z_Vi1 (pc := 16) h dX5_isRipe_16 lX5_60 hp0 (by omega) rfl (fun a e => w_X8_barOf _ _ hp0 _ a e) (fun v5 h => ?_)
    refine x_icmp_gt (pc := 19) dX5_isRipe_19 (tgt := 26) (by decide) (fun c6 => ?_) (fun c6 => ?_)
    · replace h := wo_pos c6 h
      refine x_sub [] trivial ?_
      exact j26 h
    · replace h := wo_neg c6 h
      refine x_iconst (pc := 22) dX5_isRipe_22 (v := (1 : Int32)) (by decide) ?_
      refine x_goto (pc := 23) dX5_isRipe_23 (tgt := 27) (by decide) ?_
      refine x_sub [] trivial ?_
      exact j27 _ h
noncomputable def f_X11_clamp (p0 : Int32) (p1 : Int32) (p2 : Int32) (mem : mi_M) : Option (Int32) := mi_let (if p0 < p2 then p0 else p2) fun v1 => mi_let (if p1 < v1 then v1 else p1) fun v2 => some v2
set_option maxRecDepth 100000 in
set_option maxHeartbeats 4000000 in
theorem w_X11_clamp (p0 : Int32) (p1 : Int32) (p2 : Int32) (mem : mi_M) (a : Int32) (e : f_X11_clamp p0 p1 p2 mem = some a) : mi_Ci (1) mX11_clamp [vi p0, vi p1, vi p2] mem (fun x m' => x = a ∧ m' = mem) := by
  unfold mi_Ci
  refine mi_C_intro (ls := [(0, vi p0), (1, vi p1), (2, vi p2)]) (by decide) rfl rfl ?_
  obtain ⟨Q0, hq0, h⟩ : ∃ Q0 : Int32 → Prop, (∀ b, Q0 b → b = a) ∧ wo (f_X11_clamp p0 p1 p2 mem) Q0 := ⟨fun b => b = a, fun _ h => h, wo_eq e⟩
  obtain ⟨QX, hQX⟩ : ∃ QX : Option mi_V → mi_M → Prop, QX = (fun r m' => ∃ x, r = some (vi x) ∧ x = a ∧ m' = mem) := ⟨_, rfl⟩
  rw [← hQX]
  unfold f_X11_clamp at h
  refine x_iload_n (pc := 0) dX11_clamp_0 rfl ?_
  refine x_iload_n (pc := 1) dX11_clamp_1 rfl ?_
  refine x_iload_n (pc := 2) dX11_clamp_2 rfl ?_
  refine x_mmin (pc := 3) dX11_clamp_3 lX11_301 (by omega) rfl ?_
  refine x_leti h (fun v1 h => ?_)
  refine x_mmax (pc := 6) dX11_clamp_6 lX11_306 (by omega) rfl ?_
  refine x_leti h (fun v2 h => ?_)
  exact x_iret (pc := 9) dX11_clamp_9 rfl (by rw [hQX]; exact ⟨_, rfl, hq0 _ (wo_some h), rfl⟩)
noncomputable def f_X1_fact (p0 : Int32) (p1 : Int32) (p2 : Int32) (p3 : Int32) (mem : mi_M) : Option (Int32) := if p0 = (-3 : Int32) then some p3 else if p0 = (-2 : Int32) then some p2 else if p0 = (-1 : Int32) then some p1 else some p0
set_option maxRecDepth 100000 in
set_option maxHeartbeats 4000000 in
theorem w_X1_fact (p0 : Int32) (p1 : Int32) (p2 : Int32) (p3 : Int32) (mem : mi_M) (a : Int32) (e : f_X1_fact p0 p1 p2 p3 mem = some a) : mi_Ci (1) mX1_fact [vi p0, vi p1, vi p2, vi p3] mem (fun x m' => x = a ∧ m' = mem) := by
  unfold mi_Ci
  refine mi_C_intro (ls := [(0, vi p0), (1, vi p1), (2, vi p2), (3, vi p3)]) (by decide) rfl rfl ?_
  obtain ⟨Q0, hq0, h⟩ : ∃ Q0 : Int32 → Prop, (∀ b, Q0 b → b = a) ∧ wo (f_X1_fact p0 p1 p2 p3 mem) Q0 := ⟨fun b => b = a, fun _ h => h, wo_eq e⟩
  obtain ⟨QX, hQX⟩ : ∃ QX : Option mi_V → mi_M → Prop, QX = (fun r m' => ∃ x, r = some (vi x) ∧ x = a ∧ m' = mem) := ⟨_, rfl⟩
  rw [← hQX]
  unfold f_X1_fact at h
  refine x_iload_n (pc := 0) dX1_fact_0 rfl ?_
  by_cases c1 : p0 = (-3 : Int32)
  · replace h := wo_pos c1 h
    refine x_swT (pc := 1) (c := (-3 : Int32)) c1 dX1_fact_1 (by decide) (by decide) rfl (tgt := 32) (by decide) ?_
    refine x_iload_n (pc := 32) dX1_fact_32 rfl ?_
    exact x_iret (pc := 33) dX1_fact_33 rfl (by rw [hQX]; exact ⟨_, rfl, hq0 _ (wo_some h), rfl⟩)
  · replace h := wo_neg c1 h
    by_cases c2 : p0 = (-2 : Int32)
    · replace h := wo_pos c2 h
      refine x_swT (pc := 1) (c := (-2 : Int32)) c2 dX1_fact_1 (by decide) (by decide) rfl (tgt := 30) (by decide) ?_
      refine x_iload_n (pc := 30) dX1_fact_30 rfl ?_
      exact x_iret (pc := 31) dX1_fact_31 rfl (by rw [hQX]; exact ⟨_, rfl, hq0 _ (wo_some h), rfl⟩)
    · replace h := wo_neg c2 h
      by_cases c3 : p0 = (-1 : Int32)
      · replace h := wo_pos c3 h
        refine x_swT (pc := 1) (c := (-1 : Int32)) c3 dX1_fact_1 (by decide) (by decide) rfl (tgt := 28) (by decide) ?_
        refine x_iload_n (pc := 28) dX1_fact_28 rfl ?_
        exact x_iret (pc := 29) dX1_fact_29 rfl (by rw [hQX]; exact ⟨_, rfl, hq0 _ (wo_some h), rfl⟩)
      · replace h := wo_neg c3 h
        refine x_tableOut (pc := 1) dX1_fact_1 (by have := lv_neT (a := -3) c1 (by decide); have := lv_neT (a := -2) c2 (by decide); have := lv_neT (a := -1) c3 (by decide); omega) (tgt := 34) (by decide) ?_
        refine x_iload_n (pc := 34) dX1_fact_34 rfl ?_
        exact x_iret (pc := 35) dX1_fact_35 rfl (by rw [hQX]; exact ⟨_, rfl, hq0 _ (wo_some h), rfl⟩)
noncomputable def f_X1_truth_J9 (u1 : Int32) : Option (Int32) := some u1
noncomputable def f_X1_truth (p0 : Int32) (mem : mi_M) : Option (Int32) := if p0 = 0 then f_X1_truth_J9 (0 : Int32) else f_X1_truth_J9 (1 : Int32)
set_option maxRecDepth 100000 in
set_option maxHeartbeats 4000000 in
theorem w_X1_truth (p0 : Int32) (mem : mi_M) (a : Int32) (e : f_X1_truth p0 mem = some a) : mi_Ci (1) mX1_truth [vi p0] mem (fun x m' => x = a ∧ m' = mem) := by
  unfold mi_Ci
  refine mi_C_intro (ls := [(0, vi p0)]) (by decide) rfl rfl ?_
  obtain ⟨Q0, hq0, h⟩ : ∃ Q0 : Int32 → Prop, (∀ b, Q0 b → b = a) ∧ wo (f_X1_truth p0 mem) Q0 := ⟨fun b => b = a, fun _ h => h, wo_eq e⟩
  obtain ⟨QX, hQX⟩ : ∃ QX : Option mi_V → mi_M → Prop, QX = (fun r m' => ∃ x, r = some (vi x) ∧ x = a ∧ m' = mem) := ⟨_, rfl⟩
  rw [← hQX]
  unfold f_X1_truth at h
  refine x_iload_n (pc := 0) dX1_truth_0 rfl ?_
  have j9 : ∀ (u1 : Int32), wo (f_X1_truth_J9 u1) Q0 → mi_X mX1_truth (1) 9 [] [vi u1] mem QX := by
    intro u1 h
    unfold f_X1_truth_J9 at h
    exact x_iret (pc := 9) dX1_truth_9 rfl (by rw [hQX]; exact ⟨_, rfl, hq0 _ (wo_some h), rfl⟩)
  refine x_if_eq (pc := 1) dX1_truth_1 (tgt := 8) (by decide) (fun c2 => ?_) (fun c2 => ?_)
  · replace h := wo_pos c2 h
    refine x_iconst (pc := 8) dX1_truth_8 (v := (0 : Int32)) (by decide) ?_
    refine x_sub [] trivial ?_
    exact j9 _ h
  · replace h := wo_neg c2 h
    refine x_iconst (pc := 4) dX1_truth_4 (v := (1 : Int32)) (by decide) ?_
    refine x_goto (pc := 5) dX1_truth_5 (tgt := 9) (by decide) ?_
    refine x_sub [] trivial ?_
    exact j9 _ h
noncomputable def f_X1_joined_J98 (mem : mi_M) (u4 : Int32) : Option (Int32) := mi_bo (f_X1_truth u4 mem) fun v5 => some v5
noncomputable def f_X1_joined_J84 (mem : mi_M) (u8 : Int32) : Option (Int32) := mi_bo (f_X1_truth u8 mem) fun v9 => some v9
noncomputable def f_X1_joined_J70 (mem : mi_M) (u12 : Int32) : Option (Int32) := mi_bo (f_X1_truth u12 mem) fun v13 => some v13
noncomputable def f_X1_joined_J65 (mem : mi_M) : Option (Int32) := f_X1_joined_J70 mem (1 : Int32)
noncomputable def f_X1_joined_J53 (mem : mi_M) (u17 : Int32) : Option (Int32) := mi_bo (f_X1_truth u17 mem) fun v18 => some v18
noncomputable def f_X1_joined_J52 (mem : mi_M) : Option (Int32) := f_X1_joined_J53 mem (0 : Int32)
noncomputable def f_X1_joined (p0 : Int32) (p1 : Int32) (p2 : Int32) (mem : mi_M) : Option (Int32) := if p0 = (-10 : Int32) then some (p1 - p2) else if p0 = (-9 : Int32) then some (p1 + p2) else if p0 = (-8 : Int32) then if p1 = p2 then f_X1_joined_J98 mem (1 : Int32) else f_X1_joined_J98 mem (0 : Int32) else if p0 = (-7 : Int32) then if p2 ≤ p1 then f_X1_joined_J84 mem (0 : Int32) else f_X1_joined_J84 mem (1 : Int32) else if p0 = (-6 : Int32) then if p1 = 0 then if p2 = 0 then f_X1_joined_J70 mem (0 : Int32) else f_X1_joined_J65 mem else f_X1_joined_J65 mem else if p0 = (-5 : Int32) then if p1 = 0 then f_X1_joined_J52 mem else if p2 = 0 then f_X1_joined_J52 mem else f_X1_joined_J53 mem (1 : Int32) else some (p1 * p2)
set_option maxRecDepth 100000 in
set_option maxHeartbeats 4000000 in
theorem w_X1_joined (p0 : Int32) (p1 : Int32) (p2 : Int32) (mem : mi_M) (a : Int32) (e : f_X1_joined p0 p1 p2 mem = some a) : mi_Ci (2) mX1_joined [vi p0, vi p1, vi p2] mem (fun x m' => x = a ∧ m' = mem) := by
  unfold mi_Ci
  refine mi_C_intro (ls := [(0, vi p0), (1, vi p1), (2, vi p2)]) (by decide) rfl rfl ?_
  obtain ⟨Q0, hq0, h⟩ : ∃ Q0 : Int32 → Prop, (∀ b, Q0 b → b = a) ∧ wo (f_X1_joined p0 p1 p2 mem) Q0 := ⟨fun b => b = a, fun _ h => h, wo_eq e⟩
  obtain ⟨QX, hQX⟩ : ∃ QX : Option mi_V → mi_M → Prop, QX = (fun r m' => ∃ x, r = some (vi x) ∧ x = a ∧ m' = mem) := ⟨_, rfl⟩
  rw [← hQX]
  unfold f_X1_joined at h
  refine x_iload_n (pc := 0) dX1_joined_0 rfl ?_
  by_cases c1 : p0 = (-10 : Int32)
  · replace h := wo_pos c1 h
    refine x_swT (pc := 1) (c := (-10 : Int32)) c1 dX1_joined_1 (by decide) (by decide) rfl (tgt := 106) (by decide) ?_
    refine x_iload_n (pc := 106) dX1_joined_106 rfl ?_
    refine x_iload_n (pc := 107) dX1_joined_107 rfl ?_
    refine x_isub (pc := 108) dX1_joined_108 ?_
    exact x_iret (pc := 109) dX1_joined_109 rfl (by rw [hQX]; exact ⟨_, rfl, hq0 _ (wo_some h), rfl⟩)
  · replace h := wo_neg c1 h
    by_cases c2 : p0 = (-9 : Int32)
    · replace h := wo_pos c2 h
      refine x_swT (pc := 1) (c := (-9 : Int32)) c2 dX1_joined_1 (by decide) (by decide) rfl (tgt := 102) (by decide) ?_
      refine x_iload_n (pc := 102) dX1_joined_102 rfl ?_
      refine x_iload_n (pc := 103) dX1_joined_103 rfl ?_
      refine x_iadd (pc := 104) dX1_joined_104 ?_
      exact x_iret (pc := 105) dX1_joined_105 rfl (by rw [hQX]; exact ⟨_, rfl, hq0 _ (wo_some h), rfl⟩)
    · replace h := wo_neg c2 h
      by_cases c3 : p0 = (-8 : Int32)
      · replace h := wo_pos c3 h
        refine x_swT (pc := 1) (c := (-8 : Int32)) c3 dX1_joined_1 (by decide) (by decide) rfl (tgt := 88) (by decide) ?_
        refine x_iload_n (pc := 88) dX1_joined_88 rfl ?_
        refine x_iload_n (pc := 89) dX1_joined_89 rfl ?_
        have j98 : ∀ (u4 : Int32), wo (f_X1_joined_J98 mem u4) Q0 → mi_X mX1_joined (2) 98 [] [vi u4] mem QX := by
          intro u4 h
          unfold f_X1_joined_J98 at h
          refine z_Si1 (pc := 98) h dX1_joined_98 lX1_42 (by omega) rfl (fun a e => w_X1_truth _ _ a e) (fun v5 h => ?_)
          exact x_iret (pc := 101) dX1_joined_101 rfl (by rw [hQX]; exact ⟨_, rfl, hq0 _ (wo_some h), rfl⟩)
        refine x_icmp_ne (pc := 90) dX1_joined_90 (tgt := 97) (by decide) (fun c6 => ?_) (fun c6 => ?_)
        · replace h := wo_neg c6 h
          refine x_iconst (pc := 97) dX1_joined_97 (v := (0 : Int32)) (by decide) ?_
          refine x_sub [] trivial ?_
          exact j98 _ h
        · replace h := wo_pos c6 h
          refine x_iconst (pc := 93) dX1_joined_93 (v := (1 : Int32)) (by decide) ?_
          refine x_goto (pc := 94) dX1_joined_94 (tgt := 98) (by decide) ?_
          refine x_sub [] trivial ?_
          exact j98 _ h
      · replace h := wo_neg c3 h
        by_cases c7 : p0 = (-7 : Int32)
        · replace h := wo_pos c7 h
          refine x_swT (pc := 1) (c := (-7 : Int32)) c7 dX1_joined_1 (by decide) (by decide) rfl (tgt := 74) (by decide) ?_
          refine x_iload_n (pc := 74) dX1_joined_74 rfl ?_
          refine x_iload_n (pc := 75) dX1_joined_75 rfl ?_
          have j84 : ∀ (u8 : Int32), wo (f_X1_joined_J84 mem u8) Q0 → mi_X mX1_joined (2) 84 [] [vi u8] mem QX := by
            intro u8 h
            unfold f_X1_joined_J84 at h
            refine z_Si1 (pc := 84) h dX1_joined_84 lX1_42 (by omega) rfl (fun a e => w_X1_truth _ _ a e) (fun v9 h => ?_)
            exact x_iret (pc := 87) dX1_joined_87 rfl (by rw [hQX]; exact ⟨_, rfl, hq0 _ (wo_some h), rfl⟩)
          refine x_icmp_ge (pc := 76) dX1_joined_76 (tgt := 83) (by decide) (fun c10 => ?_) (fun c10 => ?_)
          · replace h := wo_pos c10 h
            refine x_iconst (pc := 83) dX1_joined_83 (v := (0 : Int32)) (by decide) ?_
            refine x_sub [] trivial ?_
            exact j84 _ h
          · replace h := wo_neg c10 h
            refine x_iconst (pc := 79) dX1_joined_79 (v := (1 : Int32)) (by decide) ?_
            refine x_goto (pc := 80) dX1_joined_80 (tgt := 84) (by decide) ?_
            refine x_sub [] trivial ?_
            exact j84 _ h
        · replace h := wo_neg c7 h
          by_cases c11 : p0 = (-6 : Int32)
          · replace h := wo_pos c11 h
            refine x_swT (pc := 1) (c := (-6 : Int32)) c11 dX1_joined_1 (by decide) (by decide) rfl (tgt := 57) (by decide) ?_
            refine x_iload_n (pc := 57) dX1_joined_57 rfl ?_
            have j70 : ∀ (u12 : Int32), wo (f_X1_joined_J70 mem u12) Q0 → mi_X mX1_joined (2) 70 [] [vi u12] mem QX := by
              intro u12 h
              unfold f_X1_joined_J70 at h
              refine z_Si1 (pc := 70) h dX1_joined_70 lX1_42 (by omega) rfl (fun a e => w_X1_truth _ _ a e) (fun v13 h => ?_)
              exact x_iret (pc := 73) dX1_joined_73 rfl (by rw [hQX]; exact ⟨_, rfl, hq0 _ (wo_some h), rfl⟩)
            have j65 : wo (f_X1_joined_J65 mem) Q0 → mi_X mX1_joined (2) 65 [] [] mem QX := by
              intro h
              unfold f_X1_joined_J65 at h
              refine x_iconst (pc := 65) dX1_joined_65 (v := (1 : Int32)) (by decide) ?_
              refine x_goto (pc := 66) dX1_joined_66 (tgt := 70) (by decide) ?_
              refine x_sub [] trivial ?_
              exact j70 _ h
            refine x_if_ne (pc := 58) dX1_joined_58 (tgt := 65) (by decide) (fun c15 => ?_) (fun c15 => ?_)
            · replace h := wo_neg c15 h
              refine x_sub [] trivial ?_
              exact j65 h
            · replace h := wo_pos c15 h
              refine x_iload_n (pc := 61) dX1_joined_61 rfl ?_
              refine x_if_eq (pc := 62) dX1_joined_62 (tgt := 69) (by decide) (fun c14 => ?_) (fun c14 => ?_)
              · replace h := wo_pos c14 h
                refine x_iconst (pc := 69) dX1_joined_69 (v := (0 : Int32)) (by decide) ?_
                refine x_sub [] trivial ?_
                exact j70 _ h
              · replace h := wo_neg c14 h
                refine x_sub [] trivial ?_
                exact j65 h
          · replace h := wo_neg c11 h
            by_cases c16 : p0 = (-5 : Int32)
            · replace h := wo_pos c16 h
              refine x_swT (pc := 1) (c := (-5 : Int32)) c16 dX1_joined_1 (by decide) (by decide) rfl (tgt := 40) (by decide) ?_
              refine x_iload_n (pc := 40) dX1_joined_40 rfl ?_
              have j53 : ∀ (u17 : Int32), wo (f_X1_joined_J53 mem u17) Q0 → mi_X mX1_joined (2) 53 [] [vi u17] mem QX := by
                intro u17 h
                unfold f_X1_joined_J53 at h
                refine z_Si1 (pc := 53) h dX1_joined_53 lX1_42 (by omega) rfl (fun a e => w_X1_truth _ _ a e) (fun v18 h => ?_)
                exact x_iret (pc := 56) dX1_joined_56 rfl (by rw [hQX]; exact ⟨_, rfl, hq0 _ (wo_some h), rfl⟩)
              have j52 : wo (f_X1_joined_J52 mem) Q0 → mi_X mX1_joined (2) 52 [] [] mem QX := by
                intro h
                unfold f_X1_joined_J52 at h
                refine x_iconst (pc := 52) dX1_joined_52 (v := (0 : Int32)) (by decide) ?_
                refine x_sub [] trivial ?_
                exact j53 _ h
              refine x_if_eq (pc := 41) dX1_joined_41 (tgt := 52) (by decide) (fun c20 => ?_) (fun c20 => ?_)
              · replace h := wo_pos c20 h
                refine x_sub [] trivial ?_
                exact j52 h
              · replace h := wo_neg c20 h
                refine x_iload_n (pc := 44) dX1_joined_44 rfl ?_
                refine x_if_eq (pc := 45) dX1_joined_45 (tgt := 52) (by decide) (fun c19 => ?_) (fun c19 => ?_)
                · replace h := wo_pos c19 h
                  refine x_sub [] trivial ?_
                  exact j52 h
                · replace h := wo_neg c19 h
                  refine x_iconst (pc := 48) dX1_joined_48 (v := (1 : Int32)) (by decide) ?_
                  refine x_goto (pc := 49) dX1_joined_49 (tgt := 53) (by decide) ?_
                  refine x_sub [] trivial ?_
                  exact j53 _ h
            · replace h := wo_neg c16 h
              refine x_tableOut (pc := 1) dX1_joined_1 (by have := lv_neT (a := -10) c1 (by decide); have := lv_neT (a := -9) c2 (by decide); have := lv_neT (a := -8) c3 (by decide); have := lv_neT (a := -7) c7 (by decide); have := lv_neT (a := -6) c11 (by decide); have := lv_neT (a := -5) c16 (by decide); omega) (tgt := 110) (by decide) ?_
              refine x_iload_n (pc := 110) dX1_joined_110 rfl ?_
              refine x_iload_n (pc := 111) dX1_joined_111 rfl ?_
              refine x_imul (pc := 112) dX1_joined_112 ?_
              exact x_iret (pc := 113) dX1_joined_113 rfl (by rw [hQX]; exact ⟨_, rfl, hq0 _ (wo_some h), rfl⟩)
noncomputable def f_X1_worth_J175 (m4 : mi_M) (u5 : Int32) : Option (Int32 × mi_M) := some (u5, m4)
noncomputable def f_X1_worth_J154 (l9 : Int32) (u14 : Int32) (m15 : mi_M) : Option ((Int32 × Int32 × mi_M) ⊕ (Int32 × mi_M)) := some (.inl (u14, (l9 + (1 : Int32)), m15))
noncomputable def f_X1_worth_J108 (i0 : Nat) (l8 : Int32) (l9 : Int32) (m10 : mi_M) (u23 : Int32) : Option ((Int32 × Int32 × mi_M) ⊕ (Int32 × mi_M)) := mi_bo (f_X1_truth u23 m10) fun v24 => mi_g (vp_in (l8 - (1 : Int32)) 40) (mi_let (mi_wI m10 19 i0 (l8 - (1 : Int32)).toNatClampNeg v24) fun m26 => f_X1_worth_J154 l9 l8 m26)
noncomputable def f_X1_worth_B11 (i0 : Nat) (p0 : Int32) (p1 : Int32) (p2 : Int32) (p3 : Int32) : (Int32 × Int32 × mi_M) → Option ((Int32 × Int32 × mi_M) ⊕ (Int32 × mi_M)) := fun s => match s with | (l8, l9, m10) => mi_g (vp_in p0 3) (if (m10.1 18 i0 p0.toNatClampNeg) ≤ l9 then some (.inr (l8, m10)) else mi_g (vp_in l9 1003) (mi_let (m10.1 16 i0 l9.toNatClampNeg) fun v13 => if v13 < (-3 : Int32) then if v13 = (-4 : Int32) then if l8 < (1 : Int32) then f_X1_worth_J154 l9 l8 m10 else mi_g (vp_in (l8 - (1 : Int32)) 40) (if (m10.1 19 i0 (l8 - (1 : Int32)).toNatClampNeg) = 0 then f_X1_worth_J108 i0 l8 l9 m10 (1 : Int32) else f_X1_worth_J108 i0 l8 l9 m10 (0 : Int32)) else if l8 < (2 : Int32) then f_X1_worth_J154 l9 l8 m10 else mi_g (vp_in ((l8 + (-1 : Int32)) - (1 : Int32)) 40) (mi_g (vp_in (l8 + (-1 : Int32)) 40) (mi_bo (f_X1_joined v13 (m10.1 19 i0 ((l8 + (-1 : Int32)) - (1 : Int32)).toNatClampNeg) (m10.1 19 i0 (l8 + (-1 : Int32)).toNatClampNeg) m10) fun v18 => mi_g (vp_in ((l8 + (-1 : Int32)) - (1 : Int32)) 40) (mi_let (mi_wI m10 19 i0 ((l8 + (-1 : Int32)) - (1 : Int32)).toNatClampNeg v18) fun m20 => f_X1_worth_J154 l9 (l8 + (-1 : Int32)) m20))) else if (40 : Int32) ≤ l8 then f_X1_worth_J154 l9 l8 m10 else mi_bo (f_X1_fact v13 p1 p2 p3 m10) fun v30 => mi_g (vp_in l8 40) (mi_let (mi_wI m10 19 i0 l8.toNatClampNeg v30) fun m32 => f_X1_worth_J154 l9 (l8 + (1 : Int32)) m32)))
noncomputable def f_X1_worth_K11 (i0 : Nat) : (Int32 × mi_M) → Option (Int32 × mi_M) := fun e => match e with | (e3, m4) => if e3 ≤ 0 then f_X1_worth_J175 m4 (0 : Int32) else mi_g (vp_in (0 : Int32) 40) (f_X1_worth_J175 m4 (m4.1 19 i0 (0 : Int32).toNatClampNeg))
noncomputable def f_X1_worth (i0 : Nat) (p0 : Int32) (p1 : Int32) (p2 : Int32) (p3 : Int32) (mem : mi_M) : Option (Int32 × mi_M) := mi_g (vp_in p0 3) (mi_let (mem.1 17 i0 p0.toNatClampNeg) fun v2 => mi_bo (mi_lp (f_X1_worth_B11 i0 p0 p1 p2 p3) mi_fu ((0 : Int32), v2, mem)) (f_X1_worth_K11 i0))
set_option maxRecDepth 100000 in
set_option maxHeartbeats 4000000 in
theorem w_X1_worth (i0 : Nat) (p0 : Int32) (p1 : Int32) (p2 : Int32) (p3 : Int32) (hi0 : i0 < mi_n 1) (mem : mi_M) (a : Int32 × mi_M) (e : f_X1_worth i0 p0 p1 p2 p3 mem = some a) : mi_Ci (3) mX1_worth [vr 1 i0, vi p0, vi p1, vi p2, vi p3] mem (fun x m' => x = a.1 ∧ m' = a.2) := by
  unfold mi_Ci
  refine mi_C_intro (ls := [(0, vr 1 i0), (1, vi p0), (2, vi p1), (3, vi p2), (4, vi p3)]) (by decide) rfl rfl ?_
  obtain ⟨Q0, hq0, h⟩ : ∃ Q0 : (Int32 × mi_M) → Prop, (∀ b, Q0 b → b = a) ∧ wo (f_X1_worth i0 p0 p1 p2 p3 mem) Q0 := ⟨fun b => b = a, fun _ h => h, wo_eq e⟩
  obtain ⟨QX, hQX⟩ : ∃ QX : Option mi_V → mi_M → Prop, QX = (fun r m' => ∃ x, r = some (vi x) ∧ x = a.1 ∧ m' = a.2) := ⟨_, rfl⟩
  rw [← hQX]
  unfold f_X1_worth at h
  refine x_iconst (pc := 0) dX1_worth_0 (v := (0 : Int32)) (by decide) ?_
  refine x_istore (ls' := [(5, _), (0, _), (1, _), (2, _), (3, _), (4, _)]) (pc := 1) dX1_worth_1 rfl rfl ?_
  refine x_aload_n (pc := 3) dX1_worth_3 rfl ?_
  refine x_getS (pc := 4) dX1_worth_4 fX1_15 rfl hi0 ?_
  refine x_iload_n (pc := 7) dX1_worth_7 rfl ?_
  obtain ⟨hx1, h⟩ := wo_g h
  refine x_ialdJ (pc := 8) dX1_worth_8 rfl rfl hi0 hx1 ?_
  refine x_leti h (fun v2 h => ?_)
  refine x_istore (ls' := [(6, _), (5, _), (0, _), (1, _), (2, _), (3, _), (4, _)]) (pc := 9) dX1_worth_9 rfl rfl ?_
  have k11_0 : ∀ (e3 : Int32) (m4 : mi_M), wo (f_X1_worth_K11 i0 (e3, m4)) Q0 → mi_X mX1_worth (3) 160 [(0, vr 1 i0), (5, vi e3)] [] m4 QX := by
    intro e3 m4 h
    unfold f_X1_worth_K11 at h
    try dsimp only at h
    refine x_iload (pc := 160) dX1_worth_160 rfl ?_
    have j175 : ∀ (u5 : Int32), wo (f_X1_worth_J175 m4 u5) Q0 → mi_X mX1_worth (3) 175 [] [vi u5] m4 QX := by
      intro u5 h
      unfold f_X1_worth_J175 at h
      exact x_iret (pc := 175) dX1_worth_175 rfl (by rw [hQX]; exact ⟨_, rfl, congrArg Prod.fst (hq0 _ (wo_some h)), congrArg Prod.snd (hq0 _ (wo_some h))⟩)
    refine x_if_le (pc := 162) dX1_worth_162 (tgt := 174) (by decide) (fun c7 => ?_) (fun c7 => ?_)
    · replace h := wo_pos c7 h
      refine x_iconst (pc := 174) dX1_worth_174 (v := (0 : Int32)) (by decide) ?_
      refine x_sub [] trivial ?_
      exact j175 _ h
    · replace h := wo_neg c7 h
      refine x_aload_n (pc := 165) dX1_worth_165 rfl ?_
      refine x_getS (pc := 166) dX1_worth_166 fX1_21 rfl hi0 ?_
      refine x_iconst (pc := 169) dX1_worth_169 (v := (0 : Int32)) (by decide) ?_
      obtain ⟨hx6, h⟩ := wo_g h
      refine x_ialdJ (pc := 170) dX1_worth_170 rfl rfl hi0 hx6 ?_
      refine x_goto (pc := 171) dX1_worth_171 (tgt := 175) (by decide) ?_
      refine x_sub [] trivial ?_
      exact j175 _ h
  refine x_sub [(0, _), (1, _), (2, _), (3, _), (4, _), (5, _), (6, _)] ⟨rfl, rfl, rfl, rfl, rfl, rfl, rfl, trivial⟩ ?_
  obtain ⟨ea, eb, h⟩ := wo_bo h
  refine wo_lq (X := fun s => match s with | (l8, l9, m10) => mi_X mX1_worth (3) 11 [(0, vr 1 i0), (1, vi p0), (2, vi p1), (3, vi p2), (4, vi p3), (5, vi l8), (6, vi l9)] [] m10 QX) (E := fun e => wo (f_X1_worth_K11 i0 e) Q0) ?_ _ ((0 : Int32), v2, mem) ⟨_, eb, h⟩
  intro Q11 hb11 he11 s h
  obtain ⟨l8, l9, m10⟩ := s
  show mi_X mX1_worth (3) 11 [(0, vr 1 i0), (1, vi p0), (2, vi p1), (3, vi p2), (4, vi p3), (5, vi l8), (6, vi l9)] [] m10 QX
  unfold f_X1_worth_B11 at h
  try dsimp only at h
  refine x_iload (pc := 11) dX1_worth_11 rfl ?_
  refine x_aload_n (pc := 13) dX1_worth_13 rfl ?_
  refine x_getS (pc := 14) dX1_worth_14 fX1_18 rfl hi0 ?_
  refine x_iload_n (pc := 17) dX1_worth_17 rfl ?_
  obtain ⟨hx11, h⟩ := wo_g h
  refine x_ialdJ (pc := 18) dX1_worth_18 rfl rfl hi0 hx11 ?_
  refine x_icmp_ge (pc := 19) dX1_worth_19 (tgt := 160) (by decide) (fun c35 => ?_) (fun c35 => ?_)
  · replace h := wo_pos c35 h
    refine x_sub [(0, _), (5, _)] ⟨rfl, rfl, trivial⟩ ?_
    exact k11_0 _ _ (he11 (l8, m10) (wo_some h))
  · replace h := wo_neg c35 h
    refine x_aload_n (pc := 22) dX1_worth_22 rfl ?_
    refine x_getS (pc := 23) dX1_worth_23 fX1_11 rfl hi0 ?_
    refine x_iload (pc := 26) dX1_worth_26 rfl ?_
    obtain ⟨hx12, h⟩ := wo_g h
    refine x_ialdJ (pc := 28) dX1_worth_28 rfl rfl hi0 hx12 ?_
    refine x_leti h (fun v13 h => ?_)
    refine x_istore (ls' := [(7, _), (0, _), (1, _), (2, _), (3, _), (4, _), (5, _), (6, _)]) (pc := 29) dX1_worth_29 rfl rfl ?_
    refine x_iload (pc := 31) dX1_worth_31 rfl ?_
    refine x_bipush (pc := 33) dX1_worth_33 (v := (-3 : Int32)) (by decide) ?_
    have j154 : ∀ (u14 : Int32) (m15 : mi_M), wo (f_X1_worth_J154 l9 u14 m15) Q11 → mi_X mX1_worth (3) 154 [(0, vr 1 i0), (1, vi p0), (2, vi p1), (3, vi p2), (4, vi p3), (5, vi u14), (6, vi l9)] [] m15 QX := by
      intro u14 m15 h
      unfold f_X1_worth_J154 at h
      refine x_iinc (ls' := [(6, _), (0, _), (1, _), (2, _), (3, _), (4, _), (5, _)]) (pc := 154) dX1_worth_154 rfl (v := l9 + (1 : Int32)) rfl rfl rfl ?_
      refine x_goto (pc := 157) dX1_worth_157 (tgt := 11) (by decide) ?_
      refine x_sub [(0, _), (1, _), (2, _), (3, _), (4, _), (5, _), (6, _)] ⟨rfl, rfl, rfl, rfl, rfl, rfl, rfl, trivial⟩ ?_
      exact hb11 (u14, (l9 + (1 : Int32)), m15) (wo_some h)
    refine x_icmp_lt (pc := 35) dX1_worth_35 (tgt := 70) (by decide) (fun c34 => ?_) (fun c34 => ?_)
    · replace h := wo_pos c34 h
      refine x_iload (pc := 70) dX1_worth_70 rfl ?_
      refine x_bipush (pc := 72) dX1_worth_72 (v := (-4 : Int32)) (by decide) ?_
      refine x_icmp_ne (pc := 74) dX1_worth_74 (tgt := 115) (by decide) (fun c29 => ?_) (fun c29 => ?_)
      · replace h := wo_neg c29 h
        refine x_iload (pc := 115) dX1_worth_115 rfl ?_
        refine x_iconst (pc := 117) dX1_worth_117 (v := (2 : Int32)) (by decide) ?_
        refine x_icmp_lt (pc := 118) dX1_worth_118 (tgt := 154) (by decide) (fun c21 => ?_) (fun c21 => ?_)
        · replace h := wo_pos c21 h
          refine x_sub [(0, _), (1, _), (2, _), (3, _), (4, _), (5, _), (6, _)] ⟨rfl, rfl, rfl, rfl, rfl, rfl, rfl, trivial⟩ ?_
          exact j154 _ _ h
        · replace h := wo_neg c21 h
          refine x_iinc (ls' := [(5, _), (7, _), (0, _), (1, _), (2, _), (3, _), (4, _), (6, _)]) (pc := 121) dX1_worth_121 rfl (v := l8 + (-1 : Int32)) rfl rfl rfl ?_
          refine x_aload_n (pc := 124) dX1_worth_124 rfl ?_
          refine x_getS (pc := 125) dX1_worth_125 fX1_21 rfl hi0 ?_
          refine x_iload (pc := 128) dX1_worth_128 rfl ?_
          refine x_iconst (pc := 130) dX1_worth_130 (v := (1 : Int32)) (by decide) ?_
          refine x_isub (pc := 131) dX1_worth_131 ?_
          refine x_iload (pc := 132) dX1_worth_132 rfl ?_
          refine x_aload_n (pc := 134) dX1_worth_134 rfl ?_
          refine x_getS (pc := 135) dX1_worth_135 fX1_21 rfl hi0 ?_
          refine x_iload (pc := 138) dX1_worth_138 rfl ?_
          refine x_iconst (pc := 140) dX1_worth_140 (v := (1 : Int32)) (by decide) ?_
          refine x_isub (pc := 141) dX1_worth_141 ?_
          obtain ⟨hx16, h⟩ := wo_g h
          refine x_ialdJ (pc := 142) dX1_worth_142 rfl rfl hi0 hx16 ?_
          refine x_aload_n (pc := 143) dX1_worth_143 rfl ?_
          refine x_getS (pc := 144) dX1_worth_144 fX1_21 rfl hi0 ?_
          refine x_iload (pc := 147) dX1_worth_147 rfl ?_
          obtain ⟨hx17, h⟩ := wo_g h
          refine x_ialdJ (pc := 149) dX1_worth_149 rfl rfl hi0 hx17 ?_
          refine z_Si3 (pc := 150) h dX1_worth_150 lX1_46 (by omega) rfl (fun a e => w_X1_joined _ _ _ _ a e) (fun v18 h => ?_)
          obtain ⟨hx19, h⟩ := wo_g h
          refine x_iastJ (pc := 153) dX1_worth_153 rfl rfl hi0 rfl hx19 ?_
          refine x_letm h (fun m20 h => ?_)
          refine x_sub [(0, _), (1, _), (2, _), (3, _), (4, _), (5, _), (6, _)] ⟨rfl, rfl, rfl, rfl, rfl, rfl, rfl, trivial⟩ ?_
          exact j154 _ _ h
      · replace h := wo_pos c29 h
        refine x_iload (pc := 77) dX1_worth_77 rfl ?_
        refine x_iconst (pc := 79) dX1_worth_79 (v := (1 : Int32)) (by decide) ?_
        refine x_icmp_lt (pc := 80) dX1_worth_80 (tgt := 154) (by decide) (fun c28 => ?_) (fun c28 => ?_)
        · replace h := wo_pos c28 h
          refine x_sub [(0, _), (1, _), (2, _), (3, _), (4, _), (5, _), (6, _)] ⟨rfl, rfl, rfl, rfl, rfl, rfl, rfl, trivial⟩ ?_
          exact j154 _ _ h
        · replace h := wo_neg c28 h
          refine x_aload_n (pc := 83) dX1_worth_83 rfl ?_
          refine x_getS (pc := 84) dX1_worth_84 fX1_21 rfl hi0 ?_
          refine x_iload (pc := 87) dX1_worth_87 rfl ?_
          refine x_iconst (pc := 89) dX1_worth_89 (v := (1 : Int32)) (by decide) ?_
          refine x_isub (pc := 90) dX1_worth_90 ?_
          refine x_aload_n (pc := 91) dX1_worth_91 rfl ?_
          refine x_getS (pc := 92) dX1_worth_92 fX1_21 rfl hi0 ?_
          refine x_iload (pc := 95) dX1_worth_95 rfl ?_
          refine x_iconst (pc := 97) dX1_worth_97 (v := (1 : Int32)) (by decide) ?_
          refine x_isub (pc := 98) dX1_worth_98 ?_
          obtain ⟨hx22, h⟩ := wo_g h
          refine x_ialdJ (pc := 99) dX1_worth_99 rfl rfl hi0 hx22 ?_
          have j108 : ∀ (u23 : Int32), wo (f_X1_worth_J108 i0 l8 l9 m10 u23) Q11 → mi_X mX1_worth (3) 108 [(0, vr 1 i0), (1, vi p0), (2, vi p1), (3, vi p2), (4, vi p3), (5, vi l8), (6, vi l9)] [vi u23, vi (l8 - (1 : Int32)), vr 19 i0] m10 QX := by
            intro u23 h
            unfold f_X1_worth_J108 at h
            refine z_Si1 (pc := 108) h dX1_worth_108 lX1_42 (by omega) rfl (fun a e => w_X1_truth _ _ a e) (fun v24 h => ?_)
            obtain ⟨hx25, h⟩ := wo_g h
            refine x_iastJ (pc := 111) dX1_worth_111 rfl rfl hi0 rfl hx25 ?_
            refine x_letm h (fun m26 h => ?_)
            refine x_goto (pc := 112) dX1_worth_112 (tgt := 154) (by decide) ?_
            refine x_sub [(0, _), (1, _), (2, _), (3, _), (4, _), (5, _), (6, _)] ⟨rfl, rfl, rfl, rfl, rfl, rfl, rfl, trivial⟩ ?_
            exact j154 _ _ h
          refine x_if_ne (pc := 100) dX1_worth_100 (tgt := 107) (by decide) (fun c27 => ?_) (fun c27 => ?_)
          · replace h := wo_neg c27 h
            refine x_iconst (pc := 107) dX1_worth_107 (v := (0 : Int32)) (by decide) ?_
            refine x_sub [(0, _), (1, _), (2, _), (3, _), (4, _), (5, _), (6, _)] ⟨rfl, rfl, rfl, rfl, rfl, rfl, rfl, trivial⟩ ?_
            exact j108 _ h
          · replace h := wo_pos c27 h
            refine x_iconst (pc := 103) dX1_worth_103 (v := (1 : Int32)) (by decide) ?_
            refine x_goto (pc := 104) dX1_worth_104 (tgt := 108) (by decide) ?_
            refine x_sub [(0, _), (1, _), (2, _), (3, _), (4, _), (5, _), (6, _)] ⟨rfl, rfl, rfl, rfl, rfl, rfl, rfl, trivial⟩ ?_
            exact j108 _ h
    · replace h := wo_neg c34 h
      refine x_iload (pc := 38) dX1_worth_38 rfl ?_
      refine x_aload_n (pc := 40) dX1_worth_40 rfl ?_
      refine x_getS (pc := 41) dX1_worth_41 fX1_21 rfl hi0 ?_
      refine x_alen (pc := 44) dX1_worth_44 rfl (by decide) rfl hi0 (v := (40 : Int32)) (by decide) ?_
      refine x_icmp_ge (pc := 45) dX1_worth_45 (tgt := 154) (by decide) (fun c33 => ?_) (fun c33 => ?_)
      · replace h := wo_pos c33 h
        refine x_sub [(0, _), (1, _), (2, _), (3, _), (4, _), (5, _), (6, _)] ⟨rfl, rfl, rfl, rfl, rfl, rfl, rfl, trivial⟩ ?_
        exact j154 _ _ h
      · replace h := wo_neg c33 h
        refine x_aload_n (pc := 48) dX1_worth_48 rfl ?_
        refine x_getS (pc := 49) dX1_worth_49 fX1_21 rfl hi0 ?_
        refine x_iload (pc := 52) dX1_worth_52 rfl ?_
        refine x_iload (pc := 54) dX1_worth_54 rfl ?_
        refine x_iload_n (pc := 56) dX1_worth_56 rfl ?_
        refine x_iload_n (pc := 57) dX1_worth_57 rfl ?_
        refine x_iload (pc := 58) dX1_worth_58 rfl ?_
        refine z_Si4 (pc := 60) h dX1_worth_60 lX1_38 (by omega) rfl (fun a e => w_X1_fact _ _ _ _ _ a e) (fun v30 h => ?_)
        obtain ⟨hx31, h⟩ := wo_g h
        refine x_iastJ (pc := 63) dX1_worth_63 rfl rfl hi0 rfl hx31 ?_
        refine x_letm h (fun m32 h => ?_)
        refine x_iinc (ls' := [(5, _), (7, _), (0, _), (1, _), (2, _), (3, _), (4, _), (6, _)]) (pc := 64) dX1_worth_64 rfl (v := l8 + (1 : Int32)) rfl rfl rfl ?_
        refine x_goto (pc := 67) dX1_worth_67 (tgt := 154) (by decide) ?_
        refine x_sub [(0, _), (1, _), (2, _), (3, _), (4, _), (5, _), (6, _)] ⟨rfl, rfl, rfl, rfl, rfl, rfl, rfl, trivial⟩ ?_
        exact j154 _ _ h
noncomputable def f_X8_burnsLonger_J48 (m3 : mi_M) (u7 : Int32) : Option (Int32 × mi_M) := some (u7, m3)
noncomputable def f_X8_burnsLonger (i0 : Nat) (p0 : Int32) (p1 : Int32) (p2 : Int32) (mem : mi_M) : Option (Int32 × mi_M) := mi_g (vp_in p0 8) (mi_b (f_X1_worth i0 (2 : Int32) (mem.1 43 i0 p0.toNatClampNeg) p1 p2 mem) fun v2 m3 => mi_bo (f_X11_clamp v2 (0 : Int32) (30 : Int32) m3) fun v4 => mi_g (vp_in p0 8) (mi_g (vp_in (m3.1 42 i0 p0.toNatClampNeg) 6) (if (m3.1 39 i0 (m3.1 42 i0 p0.toNatClampNeg).toNatClampNeg) = (3 : Int32) then f_X8_burnsLonger_J48 m3 ((2 : Int32) * v4) else f_X8_burnsLonger_J48 m3 v4)))
set_option maxRecDepth 100000 in
set_option maxHeartbeats 4000000 in
theorem w_X8_burnsLonger (i0 : Nat) (p0 : Int32) (p1 : Int32) (p2 : Int32) (hi0 : i0 < mi_n 8) (mem : mi_M) (a : Int32 × mi_M) (e : f_X8_burnsLonger i0 p0 p1 p2 mem = some a) : mi_Ci (4) mX8_burnsLonger [vr 8 i0, vi p0, vi p1, vi p2] mem (fun x m' => x = a.1 ∧ m' = a.2) := by
  unfold mi_Ci
  refine mi_C_intro (ls := [(0, vr 8 i0), (1, vi p0), (2, vi p1), (3, vi p2)]) (by decide) rfl rfl ?_
  obtain ⟨Q0, hq0, h⟩ : ∃ Q0 : (Int32 × mi_M) → Prop, (∀ b, Q0 b → b = a) ∧ wo (f_X8_burnsLonger i0 p0 p1 p2 mem) Q0 := ⟨fun b => b = a, fun _ h => h, wo_eq e⟩
  obtain ⟨QX, hQX⟩ : ∃ QX : Option mi_V → mi_M → Prop, QX = (fun r m' => ∃ x, r = some (vi x) ∧ x = a.1 ∧ m' = a.2) := ⟨_, rfl⟩
  rw [← hQX]
  unfold f_X8_burnsLonger at h
  refine x_aload_n (pc := 0) dX8_burnsLonger_0 rfl ?_
  refine x_getS (pc := 1) dX8_burnsLonger_1 fX8_34 rfl hi0 ?_
  refine x_iconst (pc := 4) dX8_burnsLonger_4 (v := (2 : Int32)) (by decide) ?_
  refine x_aload_n (pc := 5) dX8_burnsLonger_5 rfl ?_
  refine x_getS (pc := 6) dX8_burnsLonger_6 fX8_28 rfl hi0 ?_
  refine x_iload_n (pc := 9) dX8_burnsLonger_9 rfl ?_
  obtain ⟨hx1, h⟩ := wo_g h
  refine x_ialdJ (pc := 10) dX8_burnsLonger_10 rfl rfl hi0 hx1 ?_
  refine x_iload_n (pc := 11) dX8_burnsLonger_11 rfl ?_
  refine x_iload_n (pc := 12) dX8_burnsLonger_12 rfl ?_
  refine y_Vi4 (pc := 13) h dX8_burnsLonger_13 lX8_73 hi0 (by omega) rfl (fun a e => w_X1_worth _ _ _ _ _ hi0 _ a e) (fun v2 m3 h => ?_)
  refine x_iconst (pc := 16) dX8_burnsLonger_16 (v := (0 : Int32)) (by decide) ?_
  refine x_bipush (pc := 17) dX8_burnsLonger_17 (v := (30 : Int32)) (by decide) ?_
  refine z_Ni3 (pc := 19) h dX8_burnsLonger_19 nX8_77 (by omega) rfl (fun a e => w_X11_clamp _ _ _ _ a e) (fun v4 h => ?_)
  refine x_istore (ls' := [(4, _), (0, _), (1, _), (2, _), (3, _)]) (pc := 22) dX8_burnsLonger_22 rfl rfl ?_
  refine x_aload_n (pc := 24) dX8_burnsLonger_24 rfl ?_
  refine x_getS (pc := 25) dX8_burnsLonger_25 fX8_15 rfl hi0 ?_
  refine x_aload_n (pc := 28) dX8_burnsLonger_28 rfl ?_
  refine x_getS (pc := 29) dX8_burnsLonger_29 fX8_25 rfl hi0 ?_
  refine x_iload_n (pc := 32) dX8_burnsLonger_32 rfl ?_
  obtain ⟨hx5, h⟩ := wo_g h
  refine x_ialdJ (pc := 33) dX8_burnsLonger_33 rfl rfl hi0 hx5 ?_
  obtain ⟨hx6, h⟩ := wo_g h
  refine x_ialdJ (pc := 34) dX8_burnsLonger_34 rfl rfl hi0 hx6 ?_
  refine x_iconst (pc := 35) dX8_burnsLonger_35 (v := (3 : Int32)) (by decide) ?_
  have j48 : ∀ (u7 : Int32), wo (f_X8_burnsLonger_J48 m3 u7) Q0 → mi_X mX8_burnsLonger (4) 48 [] [vi u7] m3 QX := by
    intro u7 h
    unfold f_X8_burnsLonger_J48 at h
    exact x_iret (pc := 48) dX8_burnsLonger_48 rfl (by rw [hQX]; exact ⟨_, rfl, congrArg Prod.fst (hq0 _ (wo_some h)), congrArg Prod.snd (hq0 _ (wo_some h))⟩)
  refine x_icmp_ne (pc := 36) dX8_burnsLonger_36 (tgt := 46) (by decide) (fun c8 => ?_) (fun c8 => ?_)
  · replace h := wo_neg c8 h
    refine x_iload (pc := 46) dX8_burnsLonger_46 rfl ?_
    refine x_sub [] trivial ?_
    exact j48 _ h
  · replace h := wo_pos c8 h
    refine x_iconst (pc := 39) dX8_burnsLonger_39 (v := (2 : Int32)) (by decide) ?_
    refine x_iload (pc := 40) dX8_burnsLonger_40 rfl ?_
    refine x_imul (pc := 42) dX8_burnsLonger_42 ?_
    refine x_goto (pc := 43) dX8_burnsLonger_43 (tgt := 48) (by decide) ?_
    refine x_sub [] trivial ?_
    exact j48 _ h
noncomputable def f_X8_soreBehindRefusal_J20 (p1 : Int32) (u3 : Int32) : Option (Int32) := mi_let (if (p1 + u3) < (99 : Int32) then (p1 + u3) else (99 : Int32)) fun v4 => some v4
noncomputable def f_X8_soreBehindRefusal (i0 : Nat) (p0 : Int32) (p1 : Int32) (mem : mi_M) : Option (Int32) := mi_g (vp_in p0 8) (mi_g (vp_in (mem.1 42 i0 p0.toNatClampNeg) 6) (if (mem.1 39 i0 (mem.1 42 i0 p0.toNatClampNeg).toNatClampNeg) = (1 : Int32) then f_X8_soreBehindRefusal_J20 p1 (2 : Int32) else f_X8_soreBehindRefusal_J20 p1 (1 : Int32)))
set_option maxRecDepth 100000 in
set_option maxHeartbeats 4000000 in
theorem w_X8_soreBehindRefusal (i0 : Nat) (p0 : Int32) (p1 : Int32) (hi0 : i0 < mi_n 8) (mem : mi_M) (a : Int32) (e : f_X8_soreBehindRefusal i0 p0 p1 mem = some a) : mi_Ci (1) mX8_soreBehindRefusal [vr 8 i0, vi p0, vi p1] mem (fun x m' => x = a ∧ m' = mem) := by
  unfold mi_Ci
  refine mi_C_intro (ls := [(0, vr 8 i0), (1, vi p0), (2, vi p1)]) (by decide) rfl rfl ?_
  obtain ⟨Q0, hq0, h⟩ : ∃ Q0 : Int32 → Prop, (∀ b, Q0 b → b = a) ∧ wo (f_X8_soreBehindRefusal i0 p0 p1 mem) Q0 := ⟨fun b => b = a, fun _ h => h, wo_eq e⟩
  obtain ⟨QX, hQX⟩ : ∃ QX : Option mi_V → mi_M → Prop, QX = (fun r m' => ∃ x, r = some (vi x) ∧ x = a ∧ m' = mem) := ⟨_, rfl⟩
  rw [← hQX]
  unfold f_X8_soreBehindRefusal at h
  refine x_aload_n (pc := 0) dX8_soreBehindRefusal_0 rfl ?_
  refine x_getS (pc := 1) dX8_soreBehindRefusal_1 fX8_15 rfl hi0 ?_
  refine x_aload_n (pc := 4) dX8_soreBehindRefusal_4 rfl ?_
  refine x_getS (pc := 5) dX8_soreBehindRefusal_5 fX8_25 rfl hi0 ?_
  refine x_iload_n (pc := 8) dX8_soreBehindRefusal_8 rfl ?_
  obtain ⟨hx1, h⟩ := wo_g h
  refine x_ialdJ (pc := 9) dX8_soreBehindRefusal_9 rfl rfl hi0 hx1 ?_
  obtain ⟨hx2, h⟩ := wo_g h
  refine x_ialdJ (pc := 10) dX8_soreBehindRefusal_10 rfl rfl hi0 hx2 ?_
  refine x_iconst (pc := 11) dX8_soreBehindRefusal_11 (v := (1 : Int32)) (by decide) ?_
  have j20 : ∀ (u3 : Int32), wo (f_X8_soreBehindRefusal_J20 p1 u3) Q0 → mi_X mX8_soreBehindRefusal (1) 20 [(2, vi p1)] [vi u3] mem QX := by
    intro u3 h
    unfold f_X8_soreBehindRefusal_J20 at h
    refine x_istore_n (ls' := [(3, _), (2, _)]) (pc := 20) dX8_soreBehindRefusal_20 rfl rfl rfl ?_
    refine x_bipush (pc := 21) dX8_soreBehindRefusal_21 (v := (99 : Int32)) (by decide) ?_
    refine x_iload_n (pc := 23) dX8_soreBehindRefusal_23 rfl ?_
    refine x_iload_n (pc := 24) dX8_soreBehindRefusal_24 rfl ?_
    refine x_iadd (pc := 25) dX8_soreBehindRefusal_25 ?_
    refine x_mmin (pc := 26) dX8_soreBehindRefusal_26 lX8_87 (by omega) rfl ?_
    refine x_leti h (fun v4 h => ?_)
    exact x_iret (pc := 29) dX8_soreBehindRefusal_29 rfl (by rw [hQX]; exact ⟨_, rfl, hq0 _ (wo_some h), rfl⟩)
  refine x_icmp_ne (pc := 12) dX8_soreBehindRefusal_12 (tgt := 19) (by decide) (fun c5 => ?_) (fun c5 => ?_)
  · replace h := wo_neg c5 h
    refine x_iconst (pc := 19) dX8_soreBehindRefusal_19 (v := (1 : Int32)) (by decide) ?_
    refine x_sub [(2, _)] ⟨rfl, trivial⟩ ?_
    exact j20 _ h
  · replace h := wo_pos c5 h
    refine x_iconst (pc := 15) dX8_soreBehindRefusal_15 (v := (2 : Int32)) (by decide) ?_
    refine x_goto (pc := 16) dX8_soreBehindRefusal_16 (tgt := 20) (by decide) ?_
    refine x_sub [(2, _)] ⟨rfl, trivial⟩ ?_
    exact j20 _ h
noncomputable def f_X5_beg_J90 (m2 : mi_M) : Option (mi_M) := some m2
noncomputable def f_X5_beg (i0 : Nat) (p0 : Nat) (p1 : Int32) (p2 : Int32) (mem : mi_M) : Option (mi_M) := mi_bo (f_X5_isRipe i0 p0 p1 mem) fun v1 => if v1 = 0 then mi_g (vp_in p1 8) (mi_bo (f_X8_soreBehindRefusal p0 p1 (mem.1 34 i0 p1.toNatClampNeg) mem) fun v4 => mi_g (vp_in p1 8) (mi_let (mi_wI mem 34 i0 p1.toNatClampNeg v4) fun m6 => f_X5_beg_J90 m6)) else mi_g (vp_in p1 8) (mi_b (f_X8_burnsLonger p0 p1 (mem.1 34 i0 p1.toNatClampNeg) (mem.1 5 i0 0) mem) fun v8 m9 => mi_let (v8 + p2) fun v10 => mi_g (vp_in p1 8) (mi_let (m9.1 42 p0 p1.toNatClampNeg) fun v12 => mi_g (vp_in v12 6) (mi_let (if ((m9.1 35 i0 v12.toNatClampNeg) + v10) < (99 : Int32) then ((m9.1 35 i0 v12.toNatClampNeg) + v10) else (99 : Int32)) fun v14 => mi_g (vp_in v12 6) (mi_let (mi_wI m9 35 i0 v12.toNatClampNeg v14) fun m16 => mi_let (mi_wI m16 5 i0 2 ((m16.1 5 i0 2) ||| ((1 : Int32) <<< (p1 &&& 31)))) fun m17 => f_X5_beg_J90 m17))))
set_option maxRecDepth 100000 in
set_option maxHeartbeats 4000000 in
theorem w_X5_beg (i0 : Nat) (p0 : Nat) (p1 : Int32) (p2 : Int32) (hi0 : i0 < mi_n 5) (hp0 : p0 < mi_n 8) (mem : mi_M) (a : mi_M) (e : f_X5_beg i0 p0 p1 p2 mem = some a) : mi_Cv (5) mX5_beg [vr 5 i0, vr 8 p0, vi p1, vi p2] mem (fun m' => m' = a) := by
  unfold mi_Cv
  refine mi_C_intro (ls := [(0, vr 5 i0), (1, vr 8 p0), (2, vi p1), (3, vi p2)]) (by decide) rfl rfl ?_
  obtain ⟨Q0, hq0, h⟩ : ∃ Q0 : mi_M → Prop, (∀ b, Q0 b → b = a) ∧ wo (f_X5_beg i0 p0 p1 p2 mem) Q0 := ⟨fun b => b = a, fun _ h => h, wo_eq e⟩
  obtain ⟨QX, hQX⟩ : ∃ QX : Option mi_V → mi_M → Prop, QX = (fun r m' => r = none ∧ m' = a) := ⟨_, rfl⟩
  rw [← hQX]
  unfold f_X5_beg at h
  refine x_aload_n (pc := 0) dX5_beg_0 rfl ?_
  refine x_aload_n (pc := 1) dX5_beg_1 rfl ?_
  refine x_iload_n (pc := 2) dX5_beg_2 rfl ?_
  refine z_Vi2 (pc := 3) h dX5_beg_3 lX5_91 hi0 (by omega) rfl (fun a e => w_X5_isRipe _ _ _ hi0 hp0 _ a e) (fun v1 h => ?_)
  have j90 : ∀ (m2 : mi_M), wo (f_X5_beg_J90 m2) Q0 → mi_X mX5_beg (5) 90 [] [] m2 QX := by
    intro m2 h
    unfold f_X5_beg_J90 at h
    exact x_ret (pc := 90) dX5_beg_90 rfl (by rw [hQX]; exact ⟨rfl, hq0 _ (wo_some h)⟩)
  refine x_if_eq (pc := 6) dX5_beg_6 (tgt := 73) (by decide) (fun c18 => ?_) (fun c18 => ?_)
  · replace h := wo_pos c18 h
    refine x_aload_n (pc := 73) dX5_beg_73 rfl ?_
    refine x_getS (pc := 74) dX5_beg_74 fX5_9 rfl hi0 ?_
    refine x_iload_n (pc := 77) dX5_beg_77 rfl ?_
    refine x_aload_n (pc := 78) dX5_beg_78 rfl ?_
    refine x_iload_n (pc := 79) dX5_beg_79 rfl ?_
    refine x_aload_n (pc := 80) dX5_beg_80 rfl ?_
    refine x_getS (pc := 81) dX5_beg_81 fX5_9 rfl hi0 ?_
    refine x_iload_n (pc := 84) dX5_beg_84 rfl ?_
    obtain ⟨hx3, h⟩ := wo_g h
    refine x_ialdJ (pc := 85) dX5_beg_85 rfl rfl hi0 hx3 ?_
    refine z_Vi2 (pc := 86) h dX5_beg_86 lX5_101 hp0 (by omega) rfl (fun a e => w_X8_soreBehindRefusal _ _ _ hp0 _ a e) (fun v4 h => ?_)
    obtain ⟨hx5, h⟩ := wo_g h
    refine x_iastJ (pc := 89) dX5_beg_89 rfl rfl hi0 rfl hx5 ?_
    refine x_letm h (fun m6 h => ?_)
    refine x_sub [] trivial ?_
    exact j90 _ h
  · replace h := wo_neg c18 h
    refine x_aload_n (pc := 9) dX5_beg_9 rfl ?_
    refine x_iload_n (pc := 10) dX5_beg_10 rfl ?_
    refine x_aload_n (pc := 11) dX5_beg_11 rfl ?_
    refine x_getS (pc := 12) dX5_beg_12 fX5_9 rfl hi0 ?_
    refine x_iload_n (pc := 15) dX5_beg_15 rfl ?_
    obtain ⟨hx7, h⟩ := wo_g h
    refine x_ialdJ (pc := 16) dX5_beg_16 rfl rfl hi0 hx7 ?_
    refine x_aload_n (pc := 17) dX5_beg_17 rfl ?_
    refine x_getI (pc := 18) dX5_beg_18 fX5_21 rfl hi0 ?_
    refine y_Vi3 (pc := 21) h dX5_beg_21 lX5_95 hp0 (by omega) rfl (fun a e => w_X8_burnsLonger _ _ _ _ hp0 _ a e) (fun v8 m9 h => ?_)
    refine x_iload_n (pc := 24) dX5_beg_24 rfl ?_
    refine x_iadd (pc := 25) dX5_beg_25 ?_
    refine x_leti h (fun v10 h => ?_)
    refine x_istore (ls' := [(4, _), (0, _), (1, _), (2, _), (3, _)]) (pc := 26) dX5_beg_26 rfl rfl ?_
    refine x_aload_n (pc := 28) dX5_beg_28 rfl ?_
    refine x_getS (pc := 29) dX5_beg_29 fX5_74 rfl hp0 ?_
    refine x_iload_n (pc := 32) dX5_beg_32 rfl ?_
    obtain ⟨hx11, h⟩ := wo_g h
    refine x_ialdJ (pc := 33) dX5_beg_33 rfl rfl hp0 hx11 ?_
    refine x_leti h (fun v12 h => ?_)
    refine x_istore (ls' := [(5, _), (4, _), (0, _), (1, _), (2, _), (3, _)]) (pc := 34) dX5_beg_34 rfl rfl ?_
    refine x_aload_n (pc := 36) dX5_beg_36 rfl ?_
    refine x_getS (pc := 37) dX5_beg_37 fX5_15 rfl hi0 ?_
    refine x_iload (pc := 40) dX5_beg_40 rfl ?_
    refine x_bipush (pc := 42) dX5_beg_42 (v := (99 : Int32)) (by decide) ?_
    refine x_aload_n (pc := 44) dX5_beg_44 rfl ?_
    refine x_getS (pc := 45) dX5_beg_45 fX5_15 rfl hi0 ?_
    refine x_iload (pc := 48) dX5_beg_48 rfl ?_
    obtain ⟨hx13, h⟩ := wo_g h
    refine x_ialdJ (pc := 50) dX5_beg_50 rfl rfl hi0 hx13 ?_
    refine x_iload (pc := 51) dX5_beg_51 rfl ?_
    refine x_iadd (pc := 53) dX5_beg_53 ?_
    refine x_mmin (pc := 54) dX5_beg_54 lX5_98 (by omega) rfl ?_
    refine x_leti h (fun v14 h => ?_)
    obtain ⟨hx15, h⟩ := wo_g h
    refine x_iastJ (pc := 57) dX5_beg_57 rfl rfl hi0 rfl hx15 ?_
    refine x_letm h (fun m16 h => ?_)
    refine x_aload_n (pc := 58) dX5_beg_58 rfl ?_
    refine x_dup (pc := 59) dX5_beg_59 rfl ?_
    refine x_getI (pc := 60) dX5_beg_60 fX5_28 rfl hi0 ?_
    refine x_iconst (pc := 63) dX5_beg_63 (v := (1 : Int32)) (by decide) ?_
    refine x_iload_n (pc := 64) dX5_beg_64 rfl ?_
    refine x_ishl (pc := 65) dX5_beg_65 ?_
    refine x_ior (pc := 66) dX5_beg_66 ?_
    refine x_putI (pc := 67) dX5_beg_67 fX5_28 rfl hi0 rfl rfl ?_
    refine x_letm h (fun m17 h => ?_)
    refine x_goto (pc := 70) dX5_beg_70 (tgt := 90) (by decide) ?_
    refine x_sub [] trivial ?_
    exact j90 _ h
noncomputable def f_X5_burningBehind_J26 (l3 : Int32) (u5 : Int32) : Option ((Int32 × Int32) ⊕ (Int32)) := some (.inl (u5, (l3 + (1 : Int32))))
noncomputable def f_X5_burningBehind_B4 (i0 : Nat) (p0 : Int32) (mem : mi_M) : (Int32 × Int32) → Option ((Int32 × Int32) ⊕ (Int32)) := fun s => match s with | (l2, l3) => if (6 : Int32) ≤ l3 then some (.inr l2) else mi_g (vp_in l3 6) (if (mem.1 35 i0 l3.toNatClampNeg) ≤ p0 then f_X5_burningBehind_J26 l3 l2 else mi_let (l2 ||| ((1 : Int32) <<< (l3 &&& 31))) fun v6 => f_X5_burningBehind_J26 l3 v6)
noncomputable def f_X5_burningBehind_K4 : Int32 → Option (Int32) := fun e1 => some e1
noncomputable def f_X5_burningBehind (i0 : Nat) (p0 : Int32) (mem : mi_M) : Option (Int32) := mi_bo (mi_lp (f_X5_burningBehind_B4 i0 p0 mem) mi_fu ((0 : Int32), (0 : Int32))) (f_X5_burningBehind_K4)
set_option maxRecDepth 100000 in
set_option maxHeartbeats 4000000 in
theorem w_X5_burningBehind (i0 : Nat) (p0 : Int32) (hi0 : i0 < mi_n 5) (mem : mi_M) (a : Int32) (e : f_X5_burningBehind i0 p0 mem = some a) : mi_Ci (1) mX5_burningBehind [vr 5 i0, vi p0] mem (fun x m' => x = a ∧ m' = mem) := by
  unfold mi_Ci
  refine mi_C_intro (ls := [(0, vr 5 i0), (1, vi p0)]) (by decide) rfl rfl ?_
  obtain ⟨Q0, hq0, h⟩ : ∃ Q0 : Int32 → Prop, (∀ b, Q0 b → b = a) ∧ wo (f_X5_burningBehind i0 p0 mem) Q0 := ⟨fun b => b = a, fun _ h => h, wo_eq e⟩
  obtain ⟨QX, hQX⟩ : ∃ QX : Option mi_V → mi_M → Prop, QX = (fun r m' => ∃ x, r = some (vi x) ∧ x = a ∧ m' = mem) := ⟨_, rfl⟩
  rw [← hQX]
  unfold f_X5_burningBehind at h
  refine x_iconst (pc := 0) dX5_burningBehind_0 (v := (0 : Int32)) (by decide) ?_
  refine x_istore_n (ls' := [(2, _), (0, _), (1, _)]) (pc := 1) dX5_burningBehind_1 rfl rfl rfl ?_
  refine x_iconst (pc := 2) dX5_burningBehind_2 (v := (0 : Int32)) (by decide) ?_
  refine x_istore_n (ls' := [(3, _), (2, _), (0, _), (1, _)]) (pc := 3) dX5_burningBehind_3 rfl rfl rfl ?_
  have k4_0 : ∀ (e1 : Int32), wo (f_X5_burningBehind_K4 e1) Q0 → mi_X mX5_burningBehind (1) 32 [(2, vi e1)] [] mem QX := by
    intro e1 h
    unfold f_X5_burningBehind_K4 at h
    try dsimp only at h
    refine x_iload_n (pc := 32) dX5_burningBehind_32 rfl ?_
    exact x_iret (pc := 33) dX5_burningBehind_33 rfl (by rw [hQX]; exact ⟨_, rfl, hq0 _ (wo_some h), rfl⟩)
  refine x_sub [(0, _), (1, _), (2, _), (3, _)] ⟨rfl, rfl, rfl, rfl, trivial⟩ ?_
  obtain ⟨ea, eb, h⟩ := wo_bo h
  refine wo_lq (X := fun s => match s with | (l2, l3) => mi_X mX5_burningBehind (1) 4 [(0, vr 5 i0), (1, vi p0), (2, vi l2), (3, vi l3)] [] mem QX) (E := fun e => wo (f_X5_burningBehind_K4 e) Q0) ?_ _ ((0 : Int32), (0 : Int32)) ⟨_, eb, h⟩
  intro Q4 hb4 he4 s h
  obtain ⟨l2, l3⟩ := s
  show mi_X mX5_burningBehind (1) 4 [(0, vr 5 i0), (1, vi p0), (2, vi l2), (3, vi l3)] [] mem QX
  unfold f_X5_burningBehind_B4 at h
  try dsimp only at h
  refine x_iload_n (pc := 4) dX5_burningBehind_4 rfl ?_
  refine x_bipush (pc := 5) dX5_burningBehind_5 (v := (6 : Int32)) (by decide) ?_
  refine x_icmp_ge (pc := 7) dX5_burningBehind_7 (tgt := 32) (by decide) (fun c8 => ?_) (fun c8 => ?_)
  · replace h := wo_pos c8 h
    refine x_sub [(2, _)] ⟨rfl, trivial⟩ ?_
    exact k4_0 _ (he4 l2 (wo_some h))
  · replace h := wo_neg c8 h
    refine x_aload_n (pc := 10) dX5_burningBehind_10 rfl ?_
    refine x_getS (pc := 11) dX5_burningBehind_11 fX5_15 rfl hi0 ?_
    refine x_iload_n (pc := 14) dX5_burningBehind_14 rfl ?_
    obtain ⟨hx4, h⟩ := wo_g h
    refine x_ialdJ (pc := 15) dX5_burningBehind_15 rfl rfl hi0 hx4 ?_
    refine x_iload_n (pc := 16) dX5_burningBehind_16 rfl ?_
    have j26 : ∀ (u5 : Int32), wo (f_X5_burningBehind_J26 l3 u5) Q4 → mi_X mX5_burningBehind (1) 26 [(0, vr 5 i0), (1, vi p0), (2, vi u5), (3, vi l3)] [] mem QX := by
      intro u5 h
      unfold f_X5_burningBehind_J26 at h
      refine x_iinc (ls' := [(3, _), (0, _), (1, _), (2, _)]) (pc := 26) dX5_burningBehind_26 rfl (v := l3 + (1 : Int32)) rfl rfl rfl ?_
      refine x_goto (pc := 29) dX5_burningBehind_29 (tgt := 4) (by decide) ?_
      refine x_sub [(0, _), (1, _), (2, _), (3, _)] ⟨rfl, rfl, rfl, rfl, trivial⟩ ?_
      exact hb4 (u5, (l3 + (1 : Int32))) (wo_some h)
    refine x_icmp_le (pc := 17) dX5_burningBehind_17 (tgt := 26) (by decide) (fun c7 => ?_) (fun c7 => ?_)
    · replace h := wo_pos c7 h
      refine x_sub [(0, _), (1, _), (2, _), (3, _)] ⟨rfl, rfl, rfl, rfl, trivial⟩ ?_
      exact j26 _ h
    · replace h := wo_neg c7 h
      refine x_iload_n (pc := 20) dX5_burningBehind_20 rfl ?_
      refine x_iconst (pc := 21) dX5_burningBehind_21 (v := (1 : Int32)) (by decide) ?_
      refine x_iload_n (pc := 22) dX5_burningBehind_22 rfl ?_
      refine x_ishl (pc := 23) dX5_burningBehind_23 ?_
      refine x_ior (pc := 24) dX5_burningBehind_24 ?_
      refine x_leti h (fun v6 h => ?_)
      refine x_istore_n (ls' := [(2, _), (0, _), (1, _), (3, _)]) (pc := 25) dX5_burningBehind_25 rfl rfl rfl ?_
      refine x_sub [(0, _), (1, _), (2, _), (3, _)] ⟨rfl, rfl, rfl, rfl, trivial⟩ ?_
      exact j26 _ h
noncomputable def f_X8_soreBehindNight (i0 : Nat) (p0 : Int32) (p1 : Int32) (p2 : Int32) (mem : mi_M) : Option (Int32 × mi_M) := mi_g (vp_in p0 8) (mi_b (f_X1_worth i0 (1 : Int32) (mem.1 43 i0 p0.toNatClampNeg) p1 p2 mem) fun v2 m3 => mi_bo (f_X11_clamp v2 (-9 : Int32) (9 : Int32) m3) fun v4 => mi_bo (f_X11_clamp (p1 - v4) (0 : Int32) (99 : Int32) m3) fun v5 => some (v5, m3))
set_option maxRecDepth 100000 in
set_option maxHeartbeats 4000000 in
theorem w_X8_soreBehindNight (i0 : Nat) (p0 : Int32) (p1 : Int32) (p2 : Int32) (hi0 : i0 < mi_n 8) (mem : mi_M) (a : Int32 × mi_M) (e : f_X8_soreBehindNight i0 p0 p1 p2 mem = some a) : mi_Ci (4) mX8_soreBehindNight [vr 8 i0, vi p0, vi p1, vi p2] mem (fun x m' => x = a.1 ∧ m' = a.2) := by
  unfold mi_Ci
  refine mi_C_intro (ls := [(0, vr 8 i0), (1, vi p0), (2, vi p1), (3, vi p2)]) (by decide) rfl rfl ?_
  obtain ⟨Q0, hq0, h⟩ : ∃ Q0 : (Int32 × mi_M) → Prop, (∀ b, Q0 b → b = a) ∧ wo (f_X8_soreBehindNight i0 p0 p1 p2 mem) Q0 := ⟨fun b => b = a, fun _ h => h, wo_eq e⟩
  obtain ⟨QX, hQX⟩ : ∃ QX : Option mi_V → mi_M → Prop, QX = (fun r m' => ∃ x, r = some (vi x) ∧ x = a.1 ∧ m' = a.2) := ⟨_, rfl⟩
  rw [← hQX]
  unfold f_X8_soreBehindNight at h
  refine x_aload_n (pc := 0) dX8_soreBehindNight_0 rfl ?_
  refine x_getS (pc := 1) dX8_soreBehindNight_1 fX8_34 rfl hi0 ?_
  refine x_iconst (pc := 4) dX8_soreBehindNight_4 (v := (1 : Int32)) (by decide) ?_
  refine x_aload_n (pc := 5) dX8_soreBehindNight_5 rfl ?_
  refine x_getS (pc := 6) dX8_soreBehindNight_6 fX8_28 rfl hi0 ?_
  refine x_iload_n (pc := 9) dX8_soreBehindNight_9 rfl ?_
  obtain ⟨hx1, h⟩ := wo_g h
  refine x_ialdJ (pc := 10) dX8_soreBehindNight_10 rfl rfl hi0 hx1 ?_
  refine x_iload_n (pc := 11) dX8_soreBehindNight_11 rfl ?_
  refine x_iload_n (pc := 12) dX8_soreBehindNight_12 rfl ?_
  refine y_Vi4 (pc := 13) h dX8_soreBehindNight_13 lX8_73 hi0 (by omega) rfl (fun a e => w_X1_worth _ _ _ _ _ hi0 _ a e) (fun v2 m3 h => ?_)
  refine x_bipush (pc := 16) dX8_soreBehindNight_16 (v := (-9 : Int32)) (by decide) ?_
  refine x_bipush (pc := 18) dX8_soreBehindNight_18 (v := (9 : Int32)) (by decide) ?_
  refine z_Ni3 (pc := 20) h dX8_soreBehindNight_20 nX8_77 (by omega) rfl (fun a e => w_X11_clamp _ _ _ _ a e) (fun v4 h => ?_)
  refine x_istore (ls' := [(4, _), (0, _), (1, _), (2, _), (3, _)]) (pc := 23) dX8_soreBehindNight_23 rfl rfl ?_
  refine x_iload_n (pc := 25) dX8_soreBehindNight_25 rfl ?_
  refine x_iload (pc := 26) dX8_soreBehindNight_26 rfl ?_
  refine x_isub (pc := 28) dX8_soreBehindNight_28 ?_
  refine x_iconst (pc := 29) dX8_soreBehindNight_29 (v := (0 : Int32)) (by decide) ?_
  refine x_bipush (pc := 30) dX8_soreBehindNight_30 (v := (99 : Int32)) (by decide) ?_
  refine z_Ni3 (pc := 32) h dX8_soreBehindNight_32 nX8_77 (by omega) rfl (fun a e => w_X11_clamp _ _ _ _ a e) (fun v5 h => ?_)
  exact x_iret (pc := 35) dX8_soreBehindNight_35 rfl (by rw [hQX]; exact ⟨_, rfl, congrArg Prod.fst (hq0 _ (wo_some h)), congrArg Prod.snd (hq0 _ (wo_some h))⟩)
noncomputable def f_X9_laneCost_J53 (u5 : Int32) : Option (Int32) := some u5
noncomputable def f_X9_laneCost_J35 (v3 : Int32) (u4 : Int32) : Option (Int32) := if u4 = 0 then f_X9_laneCost_J53 (v3 * (1025 : Int32)) else f_X9_laneCost_J53 v3
noncomputable def f_X9_laneCost (i0 : Nat) (p0 : Int32) (p1 : Int32) (p2 : Int32) (mem : mi_M) : Option (Int32) := mi_g (vp_in p1 6) (mi_g (vp_in p2 6) (mi_let (mem.1 76 (6 * i0 + 0 + p1.toNatClampNeg) p2.toNatClampNeg) fun v3 => if v3 = 0 then some (1048576 : Int32) else if (p0 &&& (((1 : Int32) <<< (p1 &&& 31)) ||| ((1 : Int32) <<< (p2 &&& 31)))) = 0 then f_X9_laneCost_J35 v3 (0 : Int32) else f_X9_laneCost_J35 v3 (1 : Int32)))
set_option maxRecDepth 100000 in
set_option maxHeartbeats 4000000 in
theorem w_X9_laneCost (i0 : Nat) (p0 : Int32) (p1 : Int32) (p2 : Int32) (hi0 : i0 < mi_n 9) (mem : mi_M) (a : Int32) (e : f_X9_laneCost i0 p0 p1 p2 mem = some a) : mi_Ci (1) mX9_laneCost [vr 9 i0, vi p0, vi p1, vi p2] mem (fun x m' => x = a ∧ m' = mem) := by
  unfold mi_Ci
  refine mi_C_intro (ls := [(0, vr 9 i0), (1, vi p0), (2, vi p1), (3, vi p2)]) (by decide) rfl rfl ?_
  obtain ⟨Q0, hq0, h⟩ : ∃ Q0 : Int32 → Prop, (∀ b, Q0 b → b = a) ∧ wo (f_X9_laneCost i0 p0 p1 p2 mem) Q0 := ⟨fun b => b = a, fun _ h => h, wo_eq e⟩
  obtain ⟨QX, hQX⟩ : ∃ QX : Option mi_V → mi_M → Prop, QX = (fun r m' => ∃ x, r = some (vi x) ∧ x = a ∧ m' = mem) := ⟨_, rfl⟩
  rw [← hQX]
  unfold f_X9_laneCost at h
  refine x_aload_n (pc := 0) dX9_laneCost_0 rfl ?_
  refine x_getS (pc := 1) dX9_laneCost_1 fX9_11 rfl hi0 ?_
  refine x_iload_n (pc := 4) dX9_laneCost_4 rfl ?_
  obtain ⟨hx1, h⟩ := wo_g h
  refine x_aaldRowJ (pc := 5) dX9_laneCost_5 rfl rfl hi0 rfl hx1 ?_
  refine x_iload_n (pc := 6) dX9_laneCost_6 rfl ?_
  obtain ⟨hx2, h⟩ := wo_g h
  refine x_ialdJ (pc := 7) dX9_laneCost_7 rfl rfl (by have h1 := (mi_vin hx1).1; have h2 : (i0 : Nat) < 2 := hi0; show _ < (12 : Nat); omega) hx2 ?_
  refine x_leti h (fun v3 h => ?_)
  refine x_istore (ls' := [(4, _), (0, _), (1, _), (2, _), (3, _)]) (pc := 8) dX9_laneCost_8 rfl rfl ?_
  refine x_iload (pc := 10) dX9_laneCost_10 rfl ?_
  refine x_if_ne (pc := 12) dX9_laneCost_12 (tgt := 18) (by decide) (fun c8 => ?_) (fun c8 => ?_)
  · replace h := wo_neg c8 h
    refine x_iload_n (pc := 18) dX9_laneCost_18 rfl ?_
    refine x_iconst (pc := 19) dX9_laneCost_19 (v := (1 : Int32)) (by decide) ?_
    refine x_iload_n (pc := 20) dX9_laneCost_20 rfl ?_
    refine x_ishl (pc := 21) dX9_laneCost_21 ?_
    refine x_iconst (pc := 22) dX9_laneCost_22 (v := (1 : Int32)) (by decide) ?_
    refine x_iload_n (pc := 23) dX9_laneCost_23 rfl ?_
    refine x_ishl (pc := 24) dX9_laneCost_24 ?_
    refine x_ior (pc := 25) dX9_laneCost_25 ?_
    refine x_iand (pc := 26) dX9_laneCost_26 ?_
    have j35 : ∀ (u4 : Int32), wo (f_X9_laneCost_J35 v3 u4) Q0 → mi_X mX9_laneCost (1) 35 [(4, vi v3)] [vi u4] mem QX := by
      intro u4 h
      unfold f_X9_laneCost_J35 at h
      refine x_istore (ls' := [(5, _), (4, _)]) (pc := 35) dX9_laneCost_35 rfl rfl ?_
      refine x_iload (pc := 37) dX9_laneCost_37 rfl ?_
      have j53 : ∀ (u5 : Int32), wo (f_X9_laneCost_J53 u5) Q0 → mi_X mX9_laneCost (1) 53 [] [vi u5] mem QX := by
        intro u5 h
        unfold f_X9_laneCost_J53 at h
        exact x_iret (pc := 53) dX9_laneCost_53 rfl (by rw [hQX]; exact ⟨_, rfl, hq0 _ (wo_some h), rfl⟩)
      refine x_if_eq (pc := 39) dX9_laneCost_39 (tgt := 47) (by decide) (fun c6 => ?_) (fun c6 => ?_)
      · replace h := wo_pos c6 h
        refine x_iload (pc := 47) dX9_laneCost_47 rfl ?_
        refine x_sipush (pc := 49) dX9_laneCost_49 (v := (1025 : Int32)) (by decide) ?_
        refine x_imul (pc := 52) dX9_laneCost_52 ?_
        refine x_sub [] trivial ?_
        exact j53 _ h
      · replace h := wo_neg c6 h
        refine x_iload (pc := 42) dX9_laneCost_42 rfl ?_
        refine x_goto (pc := 44) dX9_laneCost_44 (tgt := 53) (by decide) ?_
        refine x_sub [] trivial ?_
        exact j53 _ h
    refine x_if_eq (pc := 27) dX9_laneCost_27 (tgt := 34) (by decide) (fun c7 => ?_) (fun c7 => ?_)
    · replace h := wo_pos c7 h
      refine x_iconst (pc := 34) dX9_laneCost_34 (v := (0 : Int32)) (by decide) ?_
      refine x_sub [(4, _)] ⟨rfl, trivial⟩ ?_
      exact j35 _ h
    · replace h := wo_neg c7 h
      refine x_iconst (pc := 30) dX9_laneCost_30 (v := (1 : Int32)) (by decide) ?_
      refine x_goto (pc := 31) dX9_laneCost_31 (tgt := 35) (by decide) ?_
      refine x_sub [(4, _)] ⟨rfl, trivial⟩ ?_
      exact j35 _ h
  · replace h := wo_pos c8 h
    refine x_ldc (pc := 15) dX9_laneCost_15 kX9_41 ?_
    exact x_iret (pc := 17) dX9_laneCost_17 rfl (by rw [hQX]; exact ⟨_, rfl, hq0 _ (wo_some h), rfl⟩)
noncomputable def f_X9_measure_B104 (i0 : Nat) (v1 : Int32) (l4 : Int32) (l7 : Int32) (v10 : Int32) : (Int32 × mi_M) → Option ((Int32 × mi_M) ⊕ (mi_M)) := fun s => match s with | (l12, m13) => if (6 : Int32) ≤ l12 then some (.inr m13) else mi_let ((v1 + (l7 * (6 : Int32))) + l12) fun v14 => mi_g (vp_in v14 2304) (mi_g (vp_in ((v1 + (l4 * (6 : Int32))) + l12) 2304) (mi_let (if (v10 + (m13.1 47 i0 ((v1 + (l4 * (6 : Int32))) + l12).toNatClampNeg)) < (m13.1 47 i0 v14.toNatClampNeg) then (v10 + (m13.1 47 i0 ((v1 + (l4 * (6 : Int32))) + l12).toNatClampNeg)) else (m13.1 47 i0 v14.toNatClampNeg)) fun v17 => mi_g (vp_in v14 2304) (mi_let (mi_wI m13 47 i0 v14.toNatClampNeg v17) fun m19 => some (.inl ((l12 + (1 : Int32)), m19)))))
noncomputable def f_X9_measure_K104 (l7 : Int32) : mi_M → Option ((Int32 × mi_M) ⊕ (mi_M)) := fun m11 => some (.inl ((l7 + (1 : Int32)), m11))
noncomputable def f_X9_measure_B78 (i0 : Nat) (v1 : Int32) (l4 : Int32) : (Int32 × mi_M) → Option ((Int32 × mi_M) ⊕ (mi_M)) := fun s => match s with | (l7, m8) => if (6 : Int32) ≤ l7 then some (.inr m8) else mi_g (vp_in ((v1 + (l7 * (6 : Int32))) + l4) 2304) (mi_let (m8.1 47 i0 ((v1 + (l7 * (6 : Int32))) + l4).toNatClampNeg) fun v10 => mi_bo (mi_lp (f_X9_measure_B104 i0 v1 l4 l7 v10) mi_fu ((0 : Int32), m8)) (f_X9_measure_K104 l7))
noncomputable def f_X9_measure_K78 (l4 : Int32) : mi_M → Option ((Int32 × mi_M) ⊕ (mi_M)) := fun m6 => some (.inl ((l4 + (1 : Int32)), m6))
noncomputable def f_X9_measure_B69 (i0 : Nat) (v1 : Int32) : (Int32 × mi_M) → Option ((Int32 × mi_M) ⊕ (mi_M)) := fun s => match s with | (l4, m5) => if (6 : Int32) ≤ l4 then some (.inr m5) else mi_bo (mi_lp (f_X9_measure_B78 i0 v1 l4) mi_fu ((0 : Int32), m5)) (f_X9_measure_K78 l4)
noncomputable def f_X9_measure_K69 : mi_M → Option (mi_M) := fun m3 => some m3
noncomputable def f_X9_measure_J54 (i0 : Nat) (v1 : Int32) (l23 : Int32) (l26 : Int32) (m27 : mi_M) (u28 : Int32) : Option ((Int32 × mi_M) ⊕ (mi_M)) := mi_g (vp_in ((v1 + (l23 * (6 : Int32))) + l26) 2304) (mi_let (mi_wI m27 47 i0 ((v1 + (l23 * (6 : Int32))) + l26).toNatClampNeg u28) fun m30 => some (.inl ((l26 + (1 : Int32)), m30)))
noncomputable def f_X9_measure_B16 (i0 : Nat) (p0 : Int32) (v1 : Int32) (l23 : Int32) : (Int32 × mi_M) → Option ((Int32 × mi_M) ⊕ (mi_M)) := fun s => match s with | (l26, m27) => if (6 : Int32) ≤ l26 then some (.inr m27) else if l23 = l26 then f_X9_measure_J54 i0 v1 l23 l26 m27 (0 : Int32) else mi_bo (f_X9_laneCost i0 p0 l23 l26 m27) fun v31 => f_X9_measure_J54 i0 v1 l23 l26 m27 v31
noncomputable def f_X9_measure_K16 (l23 : Int32) : mi_M → Option ((Int32 × mi_M) ⊕ (mi_M)) := fun m25 => some (.inl ((l23 + (1 : Int32)), m25))
noncomputable def f_X9_measure_B7 (i0 : Nat) (p0 : Int32) (v1 : Int32) : (Int32 × mi_M) → Option ((Int32 × mi_M) ⊕ (mi_M)) := fun s => match s with | (l23, m24) => if (6 : Int32) ≤ l23 then some (.inr m24) else mi_bo (mi_lp (f_X9_measure_B16 i0 p0 v1 l23) mi_fu ((0 : Int32), m24)) (f_X9_measure_K16 l23)
noncomputable def f_X9_measure_K7 (i0 : Nat) (v1 : Int32) : mi_M → Option (mi_M) := fun m2 => mi_bo (mi_lp (f_X9_measure_B69 i0 v1) mi_fu ((0 : Int32), m2)) (f_X9_measure_K69)
noncomputable def f_X9_measure (i0 : Nat) (p0 : Int32) (mem : mi_M) : Option (mi_M) := mi_let (p0 * (36 : Int32)) fun v1 => mi_bo (mi_lp (f_X9_measure_B7 i0 p0 v1) mi_fu ((0 : Int32), mem)) (f_X9_measure_K7 i0 v1)
set_option maxRecDepth 100000 in
set_option maxHeartbeats 4000000 in
theorem w_X9_measure (i0 : Nat) (p0 : Int32) (hi0 : i0 < mi_n 9) (mem : mi_M) (a : mi_M) (e : f_X9_measure i0 p0 mem = some a) : mi_Cv (2) mX9_measure [vr 9 i0, vi p0] mem (fun m' => m' = a) := by
  unfold mi_Cv
  refine mi_C_intro (ls := [(0, vr 9 i0), (1, vi p0)]) (by decide) rfl rfl ?_
  obtain ⟨Q0, hq0, h⟩ : ∃ Q0 : mi_M → Prop, (∀ b, Q0 b → b = a) ∧ wo (f_X9_measure i0 p0 mem) Q0 := ⟨fun b => b = a, fun _ h => h, wo_eq e⟩
  obtain ⟨QX, hQX⟩ : ∃ QX : Option mi_V → mi_M → Prop, QX = (fun r m' => r = none ∧ m' = a) := ⟨_, rfl⟩
  rw [← hQX]
  unfold f_X9_measure at h
  refine x_iload_n (pc := 0) dX9_measure_0 rfl ?_
  refine x_bipush (pc := 1) dX9_measure_1 (v := (36 : Int32)) (by decide) ?_
  refine x_imul (pc := 3) dX9_measure_3 ?_
  refine x_leti h (fun v1 h => ?_)
  refine x_istore_n (ls' := [(2, _), (0, _), (1, _)]) (pc := 4) dX9_measure_4 rfl rfl rfl ?_
  refine x_iconst (pc := 5) dX9_measure_5 (v := (0 : Int32)) (by decide) ?_
  refine x_istore_n (ls' := [(3, _), (2, _), (0, _), (1, _)]) (pc := 6) dX9_measure_6 rfl rfl rfl ?_
  have k7_0 : ∀ (m2 : mi_M), wo (f_X9_measure_K7 i0 v1 m2) Q0 → mi_X mX9_measure (2) 67 [(0, vr 9 i0), (2, vi v1)] [] m2 QX := by
    intro m2 h
    unfold f_X9_measure_K7 at h
    try dsimp only at h
    refine x_iconst (pc := 67) dX9_measure_67 (v := (0 : Int32)) (by decide) ?_
    refine x_istore_n (ls' := [(3, _), (0, _), (2, _)]) (pc := 68) dX9_measure_68 rfl rfl rfl ?_
    have k69_0 : ∀ (m3 : mi_M), wo (f_X9_measure_K69 m3) Q0 → mi_X mX9_measure (2) 175 [] [] m3 QX := by
      intro m3 h
      unfold f_X9_measure_K69 at h
      try dsimp only at h
      exact x_ret (pc := 175) dX9_measure_175 rfl (by rw [hQX]; exact ⟨rfl, hq0 _ (wo_some h)⟩)
    refine x_sub [(0, _), (2, _), (3, _)] ⟨rfl, rfl, rfl, trivial⟩ ?_
    obtain ⟨ea, eb, h⟩ := wo_bo h
    refine wo_lq (X := fun s => match s with | (l4, m5) => mi_X mX9_measure (2) 69 [(0, vr 9 i0), (2, vi v1), (3, vi l4)] [] m5 QX) (E := fun e => wo (f_X9_measure_K69 e) Q0) ?_ _ ((0 : Int32), m2) ⟨_, eb, h⟩
    intro Q69 hb69 he69 s h
    obtain ⟨l4, m5⟩ := s
    show mi_X mX9_measure (2) 69 [(0, vr 9 i0), (2, vi v1), (3, vi l4)] [] m5 QX
    unfold f_X9_measure_B69 at h
    try dsimp only at h
    refine x_iload_n (pc := 69) dX9_measure_69 rfl ?_
    refine x_bipush (pc := 70) dX9_measure_70 (v := (6 : Int32)) (by decide) ?_
    refine x_icmp_ge (pc := 72) dX9_measure_72 (tgt := 175) (by decide) (fun c22 => ?_) (fun c22 => ?_)
    · replace h := wo_pos c22 h
      refine x_sub [] trivial ?_
      exact k69_0 _ (he69 m5 (wo_some h))
    · replace h := wo_neg c22 h
      refine x_iconst (pc := 75) dX9_measure_75 (v := (0 : Int32)) (by decide) ?_
      refine x_istore (ls' := [(4, _), (0, _), (2, _), (3, _)]) (pc := 76) dX9_measure_76 rfl rfl ?_
      have k78_0 : ∀ (m6 : mi_M), wo (f_X9_measure_K78 l4 m6) Q69 → mi_X mX9_measure (2) 169 [(0, vr 9 i0), (2, vi v1), (3, vi l4)] [] m6 QX := by
        intro m6 h
        unfold f_X9_measure_K78 at h
        try dsimp only at h
        refine x_iinc (ls' := [(3, _), (0, _), (2, _)]) (pc := 169) dX9_measure_169 rfl (v := l4 + (1 : Int32)) rfl rfl rfl ?_
        refine x_goto (pc := 172) dX9_measure_172 (tgt := 69) (by decide) ?_
        refine x_sub [(0, _), (2, _), (3, _)] ⟨rfl, rfl, rfl, trivial⟩ ?_
        exact hb69 ((l4 + (1 : Int32)), m6) (wo_some h)
      refine x_sub [(0, _), (2, _), (3, _), (4, _)] ⟨rfl, rfl, rfl, rfl, trivial⟩ ?_
      obtain ⟨ea, eb, h⟩ := wo_bo h
      refine wo_lq (X := fun s => match s with | (l7, m8) => mi_X mX9_measure (2) 78 [(0, vr 9 i0), (2, vi v1), (3, vi l4), (4, vi l7)] [] m8 QX) (E := fun e => wo (f_X9_measure_K78 l4 e) Q69) ?_ _ ((0 : Int32), m5) ⟨_, eb, h⟩
      intro Q78 hb78 he78 s h
      obtain ⟨l7, m8⟩ := s
      show mi_X mX9_measure (2) 78 [(0, vr 9 i0), (2, vi v1), (3, vi l4), (4, vi l7)] [] m8 QX
      unfold f_X9_measure_B78 at h
      try dsimp only at h
      refine x_iload (pc := 78) dX9_measure_78 rfl ?_
      refine x_bipush (pc := 80) dX9_measure_80 (v := (6 : Int32)) (by decide) ?_
      refine x_icmp_ge (pc := 82) dX9_measure_82 (tgt := 169) (by decide) (fun c21 => ?_) (fun c21 => ?_)
      · replace h := wo_pos c21 h
        refine x_sub [(0, _), (2, _), (3, _)] ⟨rfl, rfl, rfl, trivial⟩ ?_
        exact k78_0 _ (he78 m8 (wo_some h))
      · replace h := wo_neg c21 h
        refine x_aload_n (pc := 85) dX9_measure_85 rfl ?_
        refine x_getS (pc := 86) dX9_measure_86 fX9_23 rfl hi0 ?_
        refine x_iload_n (pc := 89) dX9_measure_89 rfl ?_
        refine x_iload (pc := 90) dX9_measure_90 rfl ?_
        refine x_bipush (pc := 92) dX9_measure_92 (v := (6 : Int32)) (by decide) ?_
        refine x_imul (pc := 94) dX9_measure_94 ?_
        refine x_iadd (pc := 95) dX9_measure_95 ?_
        refine x_iload_n (pc := 96) dX9_measure_96 rfl ?_
        refine x_iadd (pc := 97) dX9_measure_97 ?_
        obtain ⟨hx9, h⟩ := wo_g h
        refine x_ialdJ (pc := 98) dX9_measure_98 rfl rfl hi0 hx9 ?_
        refine x_leti h (fun v10 h => ?_)
        refine x_istore (ls' := [(5, _), (0, _), (2, _), (3, _), (4, _)]) (pc := 99) dX9_measure_99 rfl rfl ?_
        refine x_iconst (pc := 101) dX9_measure_101 (v := (0 : Int32)) (by decide) ?_
        refine x_istore (ls' := [(6, _), (5, _), (0, _), (2, _), (3, _), (4, _)]) (pc := 102) dX9_measure_102 rfl rfl ?_
        have k104_0 : ∀ (m11 : mi_M), wo (f_X9_measure_K104 l7 m11) Q78 → mi_X mX9_measure (2) 163 [(0, vr 9 i0), (2, vi v1), (3, vi l4), (4, vi l7)] [] m11 QX := by
          intro m11 h
          unfold f_X9_measure_K104 at h
          try dsimp only at h
          refine x_iinc (ls' := [(4, _), (0, _), (2, _), (3, _)]) (pc := 163) dX9_measure_163 rfl (v := l7 + (1 : Int32)) rfl rfl rfl ?_
          refine x_goto (pc := 166) dX9_measure_166 (tgt := 78) (by decide) ?_
          refine x_sub [(0, _), (2, _), (3, _), (4, _)] ⟨rfl, rfl, rfl, rfl, trivial⟩ ?_
          exact hb78 ((l7 + (1 : Int32)), m11) (wo_some h)
        refine x_sub [(0, _), (2, _), (3, _), (4, _), (5, _), (6, _)] ⟨rfl, rfl, rfl, rfl, rfl, rfl, trivial⟩ ?_
        obtain ⟨ea, eb, h⟩ := wo_bo h
        refine wo_lq (X := fun s => match s with | (l12, m13) => mi_X mX9_measure (2) 104 [(0, vr 9 i0), (2, vi v1), (3, vi l4), (4, vi l7), (5, vi v10), (6, vi l12)] [] m13 QX) (E := fun e => wo (f_X9_measure_K104 l7 e) Q78) ?_ _ ((0 : Int32), m8) ⟨_, eb, h⟩
        intro Q104 hb104 he104 s h
        obtain ⟨l12, m13⟩ := s
        show mi_X mX9_measure (2) 104 [(0, vr 9 i0), (2, vi v1), (3, vi l4), (4, vi l7), (5, vi v10), (6, vi l12)] [] m13 QX
        unfold f_X9_measure_B104 at h
        try dsimp only at h
        refine x_iload (pc := 104) dX9_measure_104 rfl ?_
        refine x_bipush (pc := 106) dX9_measure_106 (v := (6 : Int32)) (by decide) ?_
        refine x_icmp_ge (pc := 108) dX9_measure_108 (tgt := 163) (by decide) (fun c20 => ?_) (fun c20 => ?_)
        · replace h := wo_pos c20 h
          refine x_sub [(0, _), (2, _), (3, _), (4, _)] ⟨rfl, rfl, rfl, rfl, trivial⟩ ?_
          exact k104_0 _ (he104 m13 (wo_some h))
        · replace h := wo_neg c20 h
          refine x_iload_n (pc := 111) dX9_measure_111 rfl ?_
          refine x_iload (pc := 112) dX9_measure_112 rfl ?_
          refine x_bipush (pc := 114) dX9_measure_114 (v := (6 : Int32)) (by decide) ?_
          refine x_imul (pc := 116) dX9_measure_116 ?_
          refine x_iadd (pc := 117) dX9_measure_117 ?_
          refine x_iload (pc := 118) dX9_measure_118 rfl ?_
          refine x_iadd (pc := 120) dX9_measure_120 ?_
          refine x_leti h (fun v14 h => ?_)
          refine x_istore (ls' := [(7, _), (0, _), (2, _), (3, _), (4, _), (5, _), (6, _)]) (pc := 121) dX9_measure_121 rfl rfl ?_
          refine x_aload_n (pc := 123) dX9_measure_123 rfl ?_
          refine x_getS (pc := 124) dX9_measure_124 fX9_23 rfl hi0 ?_
          refine x_iload (pc := 127) dX9_measure_127 rfl ?_
          refine x_aload_n (pc := 129) dX9_measure_129 rfl ?_
          refine x_getS (pc := 130) dX9_measure_130 fX9_23 rfl hi0 ?_
          refine x_iload (pc := 133) dX9_measure_133 rfl ?_
          obtain ⟨hx15, h⟩ := wo_g h
          refine x_ialdJ (pc := 135) dX9_measure_135 rfl rfl hi0 hx15 ?_
          refine x_iload (pc := 136) dX9_measure_136 rfl ?_
          refine x_aload_n (pc := 138) dX9_measure_138 rfl ?_
          refine x_getS (pc := 139) dX9_measure_139 fX9_23 rfl hi0 ?_
          refine x_iload_n (pc := 142) dX9_measure_142 rfl ?_
          refine x_iload_n (pc := 143) dX9_measure_143 rfl ?_
          refine x_bipush (pc := 144) dX9_measure_144 (v := (6 : Int32)) (by decide) ?_
          refine x_imul (pc := 146) dX9_measure_146 ?_
          refine x_iadd (pc := 147) dX9_measure_147 ?_
          refine x_iload (pc := 148) dX9_measure_148 rfl ?_
          refine x_iadd (pc := 150) dX9_measure_150 ?_
          obtain ⟨hx16, h⟩ := wo_g h
          refine x_ialdJ (pc := 151) dX9_measure_151 rfl rfl hi0 hx16 ?_
          refine x_iadd (pc := 152) dX9_measure_152 ?_
          refine x_mmin (pc := 153) dX9_measure_153 lX9_62 (by omega) rfl ?_
          refine x_leti h (fun v17 h => ?_)
          obtain ⟨hx18, h⟩ := wo_g h
          refine x_iastJ (pc := 156) dX9_measure_156 rfl rfl hi0 rfl hx18 ?_
          refine x_letm h (fun m19 h => ?_)
          refine x_iinc (ls' := [(6, _), (7, _), (0, _), (2, _), (3, _), (4, _), (5, _)]) (pc := 157) dX9_measure_157 rfl (v := l12 + (1 : Int32)) rfl rfl rfl ?_
          refine x_goto (pc := 160) dX9_measure_160 (tgt := 104) (by decide) ?_
          refine x_sub [(0, _), (2, _), (3, _), (4, _), (5, _), (6, _)] ⟨rfl, rfl, rfl, rfl, rfl, rfl, trivial⟩ ?_
          exact hb104 ((l12 + (1 : Int32)), m19) (wo_some h)
  refine x_sub [(0, _), (1, _), (2, _), (3, _)] ⟨rfl, rfl, rfl, rfl, trivial⟩ ?_
  obtain ⟨ea, eb, h⟩ := wo_bo h
  refine wo_lq (X := fun s => match s with | (l23, m24) => mi_X mX9_measure (2) 7 [(0, vr 9 i0), (1, vi p0), (2, vi v1), (3, vi l23)] [] m24 QX) (E := fun e => wo (f_X9_measure_K7 i0 v1 e) Q0) ?_ _ ((0 : Int32), mem) ⟨_, eb, h⟩
  intro Q7 hb7 he7 s h
  obtain ⟨l23, m24⟩ := s
  show mi_X mX9_measure (2) 7 [(0, vr 9 i0), (1, vi p0), (2, vi v1), (3, vi l23)] [] m24 QX
  unfold f_X9_measure_B7 at h
  try dsimp only at h
  refine x_iload_n (pc := 7) dX9_measure_7 rfl ?_
  refine x_bipush (pc := 8) dX9_measure_8 (v := (6 : Int32)) (by decide) ?_
  refine x_icmp_ge (pc := 10) dX9_measure_10 (tgt := 67) (by decide) (fun c34 => ?_) (fun c34 => ?_)
  · replace h := wo_pos c34 h
    refine x_sub [(0, _), (2, _)] ⟨rfl, rfl, trivial⟩ ?_
    exact k7_0 _ (he7 m24 (wo_some h))
  · replace h := wo_neg c34 h
    refine x_iconst (pc := 13) dX9_measure_13 (v := (0 : Int32)) (by decide) ?_
    refine x_istore (ls' := [(4, _), (0, _), (1, _), (2, _), (3, _)]) (pc := 14) dX9_measure_14 rfl rfl ?_
    have k16_0 : ∀ (m25 : mi_M), wo (f_X9_measure_K16 l23 m25) Q7 → mi_X mX9_measure (2) 61 [(0, vr 9 i0), (1, vi p0), (2, vi v1), (3, vi l23)] [] m25 QX := by
      intro m25 h
      unfold f_X9_measure_K16 at h
      try dsimp only at h
      refine x_iinc (ls' := [(3, _), (0, _), (1, _), (2, _)]) (pc := 61) dX9_measure_61 rfl (v := l23 + (1 : Int32)) rfl rfl rfl ?_
      refine x_goto (pc := 64) dX9_measure_64 (tgt := 7) (by decide) ?_
      refine x_sub [(0, _), (1, _), (2, _), (3, _)] ⟨rfl, rfl, rfl, rfl, trivial⟩ ?_
      exact hb7 ((l23 + (1 : Int32)), m25) (wo_some h)
    refine x_sub [(0, _), (1, _), (2, _), (3, _), (4, _)] ⟨rfl, rfl, rfl, rfl, rfl, trivial⟩ ?_
    obtain ⟨ea, eb, h⟩ := wo_bo h
    refine wo_lq (X := fun s => match s with | (l26, m27) => mi_X mX9_measure (2) 16 [(0, vr 9 i0), (1, vi p0), (2, vi v1), (3, vi l23), (4, vi l26)] [] m27 QX) (E := fun e => wo (f_X9_measure_K16 l23 e) Q7) ?_ _ ((0 : Int32), m24) ⟨_, eb, h⟩
    intro Q16 hb16 he16 s h
    obtain ⟨l26, m27⟩ := s
    show mi_X mX9_measure (2) 16 [(0, vr 9 i0), (1, vi p0), (2, vi v1), (3, vi l23), (4, vi l26)] [] m27 QX
    unfold f_X9_measure_B16 at h
    try dsimp only at h
    refine x_iload (pc := 16) dX9_measure_16 rfl ?_
    refine x_bipush (pc := 18) dX9_measure_18 (v := (6 : Int32)) (by decide) ?_
    refine x_icmp_ge (pc := 20) dX9_measure_20 (tgt := 61) (by decide) (fun c33 => ?_) (fun c33 => ?_)
    · replace h := wo_pos c33 h
      refine x_sub [(0, _), (1, _), (2, _), (3, _)] ⟨rfl, rfl, rfl, rfl, trivial⟩ ?_
      exact k16_0 _ (he16 m27 (wo_some h))
    · replace h := wo_neg c33 h
      refine x_aload_n (pc := 23) dX9_measure_23 rfl ?_
      refine x_getS (pc := 24) dX9_measure_24 fX9_23 rfl hi0 ?_
      refine x_iload_n (pc := 27) dX9_measure_27 rfl ?_
      refine x_iload_n (pc := 28) dX9_measure_28 rfl ?_
      refine x_bipush (pc := 29) dX9_measure_29 (v := (6 : Int32)) (by decide) ?_
      refine x_imul (pc := 31) dX9_measure_31 ?_
      refine x_iadd (pc := 32) dX9_measure_32 ?_
      refine x_iload (pc := 33) dX9_measure_33 rfl ?_
      refine x_iadd (pc := 35) dX9_measure_35 ?_
      refine x_iload_n (pc := 36) dX9_measure_36 rfl ?_
      refine x_iload (pc := 37) dX9_measure_37 rfl ?_
      have j54 : ∀ (u28 : Int32), wo (f_X9_measure_J54 i0 v1 l23 l26 m27 u28) Q16 → mi_X mX9_measure (2) 54 [(0, vr 9 i0), (1, vi p0), (2, vi v1), (3, vi l23), (4, vi l26)] [vi u28, vi ((v1 + (l23 * (6 : Int32))) + l26), vr 47 i0] m27 QX := by
        intro u28 h
        unfold f_X9_measure_J54 at h
        obtain ⟨hx29, h⟩ := wo_g h
        refine x_iastJ (pc := 54) dX9_measure_54 rfl rfl hi0 rfl hx29 ?_
        refine x_letm h (fun m30 h => ?_)
        refine x_iinc (ls' := [(4, _), (0, _), (1, _), (2, _), (3, _)]) (pc := 55) dX9_measure_55 rfl (v := l26 + (1 : Int32)) rfl rfl rfl ?_
        refine x_goto (pc := 58) dX9_measure_58 (tgt := 16) (by decide) ?_
        refine x_sub [(0, _), (1, _), (2, _), (3, _), (4, _)] ⟨rfl, rfl, rfl, rfl, rfl, trivial⟩ ?_
        exact hb16 ((l26 + (1 : Int32)), m30) (wo_some h)
      refine x_icmp_ne (pc := 39) dX9_measure_39 (tgt := 46) (by decide) (fun c32 => ?_) (fun c32 => ?_)
      · replace h := wo_neg c32 h
        refine x_aload_n (pc := 46) dX9_measure_46 rfl ?_
        refine x_iload_n (pc := 47) dX9_measure_47 rfl ?_
        refine x_iload_n (pc := 48) dX9_measure_48 rfl ?_
        refine x_iload (pc := 49) dX9_measure_49 rfl ?_
        refine z_Vi3 (pc := 51) h dX9_measure_51 lX9_42 hi0 (by omega) rfl (fun a e => w_X9_laneCost _ _ _ _ hi0 _ a e) (fun v31 h => ?_)
        refine x_sub [(0, _), (1, _), (2, _), (3, _), (4, _)] ⟨rfl, rfl, rfl, rfl, rfl, trivial⟩ ?_
        exact j54 _ h
      · replace h := wo_pos c32 h
        refine x_iconst (pc := 42) dX9_measure_42 (v := (0 : Int32)) (by decide) ?_
        refine x_goto (pc := 43) dX9_measure_43 (tgt := 54) (by decide) ?_
        refine x_sub [(0, _), (1, _), (2, _), (3, _), (4, _)] ⟨rfl, rfl, rfl, rfl, rfl, trivial⟩ ?_
        exact j54 _ h
noncomputable def f_X9_costOf_J30 (i0 : Nat) (p0 : Int32) (p1 : Int32) (p2 : Int32) (m1 : mi_M) : Option (Int32 × mi_M) := mi_g (vp_in (((p0 * (36 : Int32)) + (p1 * (6 : Int32))) + p2) 2304) (some ((m1.1 47 i0 (((p0 * (36 : Int32)) + (p1 * (6 : Int32))) + p2).toNatClampNeg), m1))
noncomputable def f_X9_costOf (i0 : Nat) (p0 : Int32) (p1 : Int32) (p2 : Int32) (mem : mi_M) : Option (Int32 × mi_M) := if (lg_cmp ((((mem.2.1 9 i0 6)).toUInt64 >>> ((p0).toInt64.toUInt64 &&& Int64.toUInt64 63)).toInt64 &&& (1 : Int64)) (0 : Int64)) = 0 then mi_bo (f_X9_measure i0 p0 mem) fun m3 => mi_let (mi_wL m3 9 i0 6 ((m3.2.1 9 i0 6) ||| ((1 : Int64) <<< ((p0).toInt64 &&& 63)))) fun m4 => f_X9_costOf_J30 i0 p0 p1 p2 m4 else f_X9_costOf_J30 i0 p0 p1 p2 mem
set_option maxRecDepth 100000 in
set_option maxHeartbeats 4000000 in
theorem w_X9_costOf (i0 : Nat) (p0 : Int32) (p1 : Int32) (p2 : Int32) (hi0 : i0 < mi_n 9) (mem : mi_M) (a : Int32 × mi_M) (e : f_X9_costOf i0 p0 p1 p2 mem = some a) : mi_Ci (3) mX9_costOf [vr 9 i0, vi p0, vi p1, vi p2] mem (fun x m' => x = a.1 ∧ m' = a.2) := by
  unfold mi_Ci
  refine mi_C_intro (ls := [(0, vr 9 i0), (1, vi p0), (2, vi p1), (3, vi p2)]) (by decide) rfl rfl ?_
  obtain ⟨Q0, hq0, h⟩ : ∃ Q0 : (Int32 × mi_M) → Prop, (∀ b, Q0 b → b = a) ∧ wo (f_X9_costOf i0 p0 p1 p2 mem) Q0 := ⟨fun b => b = a, fun _ h => h, wo_eq e⟩
  obtain ⟨QX, hQX⟩ : ∃ QX : Option mi_V → mi_M → Prop, QX = (fun r m' => ∃ x, r = some (vi x) ∧ x = a.1 ∧ m' = a.2) := ⟨_, rfl⟩
  rw [← hQX]
  unfold f_X9_costOf at h
  refine x_aload_n (pc := 0) dX9_costOf_0 rfl ?_
  refine x_getL (pc := 1) dX9_costOf_1 fX9_33 rfl hi0 ?_
  refine x_iload_n (pc := 4) dX9_costOf_4 rfl ?_
  refine x_lushr (pc := 5) dX9_costOf_5 rfl ?_
  refine x_lconst (pc := 6) dX9_costOf_6 (v := (1 : Int64)) (by decide) ?_
  refine x_land (pc := 7) dX9_costOf_7 ?_
  refine x_lconst (pc := 8) dX9_costOf_8 (v := (0 : Int64)) (by decide) ?_
  refine x_lcmp (pc := 9) dX9_costOf_9 ?_
  have j30 : ∀ (m1 : mi_M), wo (f_X9_costOf_J30 i0 p0 p1 p2 m1) Q0 → mi_X mX9_costOf (3) 30 [(0, vr 9 i0), (1, vi p0), (2, vi p1), (3, vi p2)] [] m1 QX := by
    intro m1 h
    unfold f_X9_costOf_J30 at h
    refine x_aload_n (pc := 30) dX9_costOf_30 rfl ?_
    refine x_getS (pc := 31) dX9_costOf_31 fX9_23 rfl hi0 ?_
    refine x_iload_n (pc := 34) dX9_costOf_34 rfl ?_
    refine x_bipush (pc := 35) dX9_costOf_35 (v := (36 : Int32)) (by decide) ?_
    refine x_imul (pc := 37) dX9_costOf_37 ?_
    refine x_iload_n (pc := 38) dX9_costOf_38 rfl ?_
    refine x_bipush (pc := 39) dX9_costOf_39 (v := (6 : Int32)) (by decide) ?_
    refine x_imul (pc := 41) dX9_costOf_41 ?_
    refine x_iadd (pc := 42) dX9_costOf_42 ?_
    refine x_iload_n (pc := 43) dX9_costOf_43 rfl ?_
    refine x_iadd (pc := 44) dX9_costOf_44 ?_
    obtain ⟨hx2, h⟩ := wo_g h
    refine x_ialdJ (pc := 45) dX9_costOf_45 rfl rfl hi0 hx2 ?_
    exact x_iret (pc := 46) dX9_costOf_46 rfl (by rw [hQX]; exact ⟨_, rfl, congrArg Prod.fst (hq0 _ (wo_some h)), congrArg Prod.snd (hq0 _ (wo_some h))⟩)
  refine x_if_ne (pc := 10) dX9_costOf_10 (tgt := 30) (by decide) (fun c5 => ?_) (fun c5 => ?_)
  · replace h := wo_neg c5 h
    refine x_sub [(0, _), (1, _), (2, _), (3, _)] ⟨rfl, rfl, rfl, rfl, trivial⟩ ?_
    exact j30 _ h
  · replace h := wo_pos c5 h
    refine x_aload_n (pc := 13) dX9_costOf_13 rfl ?_
    refine x_iload_n (pc := 14) dX9_costOf_14 rfl ?_
    refine y_Vv1 (pc := 15) h dX9_costOf_15 lX9_58 hi0 (by omega) rfl (fun a e => w_X9_measure _ _ hi0 _ a e) (fun m3 h => ?_)
    refine x_aload_n (pc := 18) dX9_costOf_18 rfl ?_
    refine x_dup (pc := 19) dX9_costOf_19 rfl ?_
    refine x_getL (pc := 20) dX9_costOf_20 fX9_33 rfl hi0 ?_
    refine x_lconst (pc := 23) dX9_costOf_23 (v := (1 : Int64)) (by decide) ?_
    refine x_iload_n (pc := 24) dX9_costOf_24 rfl ?_
    refine x_lshl (pc := 25) dX9_costOf_25 rfl ?_
    refine x_lor (pc := 26) dX9_costOf_26 ?_
    refine x_putL (pc := 27) dX9_costOf_27 fX9_33 rfl hi0 rfl rfl ?_
    refine x_letm h (fun m4 h => ?_)
    refine x_sub [(0, _), (1, _), (2, _), (3, _)] ⟨rfl, rfl, rfl, rfl, trivial⟩ ?_
    exact j30 _ h
noncomputable def f_X9_darkOrHarm_J16 (u1 : Int32) : Option (Int32) := some u1
noncomputable def f_X9_darkOrHarm (p0 : Int32) (mem : mi_M) : Option (Int32) := if (1048576 : Int32) ≤ p0 then f_X9_darkOrHarm_J16 (100 : Int32) else f_X9_darkOrHarm_J16 (p0 / (1024 : Int32))
set_option maxRecDepth 100000 in
set_option maxHeartbeats 4000000 in
theorem w_X9_darkOrHarm (p0 : Int32) (mem : mi_M) (a : Int32) (e : f_X9_darkOrHarm p0 mem = some a) : mi_Ci (1) mX9_darkOrHarm [vi p0] mem (fun x m' => x = a ∧ m' = mem) := by
  unfold mi_Ci
  refine mi_C_intro (ls := [(0, vi p0)]) (by decide) rfl rfl ?_
  obtain ⟨Q0, hq0, h⟩ : ∃ Q0 : Int32 → Prop, (∀ b, Q0 b → b = a) ∧ wo (f_X9_darkOrHarm p0 mem) Q0 := ⟨fun b => b = a, fun _ h => h, wo_eq e⟩
  obtain ⟨QX, hQX⟩ : ∃ QX : Option mi_V → mi_M → Prop, QX = (fun r m' => ∃ x, r = some (vi x) ∧ x = a ∧ m' = mem) := ⟨_, rfl⟩
  rw [← hQX]
  unfold f_X9_darkOrHarm at h
  refine x_iload_n (pc := 0) dX9_darkOrHarm_0 rfl ?_
  refine x_ldc (pc := 1) dX9_darkOrHarm_1 kX9_41 ?_
  have j16 : ∀ (u1 : Int32), wo (f_X9_darkOrHarm_J16 u1) Q0 → mi_X mX9_darkOrHarm (1) 16 [] [vi u1] mem QX := by
    intro u1 h
    unfold f_X9_darkOrHarm_J16 at h
    exact x_iret (pc := 16) dX9_darkOrHarm_16 rfl (by rw [hQX]; exact ⟨_, rfl, hq0 _ (wo_some h), rfl⟩)
  refine x_icmp_ge (pc := 3) dX9_darkOrHarm_3 (tgt := 14) (by decide) (fun c2 => ?_) (fun c2 => ?_)
  · replace h := wo_pos c2 h
    refine x_bipush (pc := 14) dX9_darkOrHarm_14 (v := (100 : Int32)) (by decide) ?_
    refine x_sub [] trivial ?_
    exact j16 _ h
  · replace h := wo_neg c2 h
    refine x_iload_n (pc := 6) dX9_darkOrHarm_6 rfl ?_
    refine x_sipush (pc := 7) dX9_darkOrHarm_7 (v := (1024 : Int32)) (by decide) ?_
    refine x_idiv (pc := 10) dX9_darkOrHarm_10 (by decide) ?_
    refine x_goto (pc := 11) dX9_darkOrHarm_11 (tgt := 16) (by decide) ?_
    refine x_sub [] trivial ?_
    exact j16 _ h
noncomputable def f_X9_harmBy_B4 (i0 : Nat) (p0 : Int32) : (Int32 × Int32 × mi_M) → Option ((Int32 × Int32 × mi_M) ⊕ (Int32 × mi_M)) := fun s => match s with | (l3, l4, m5) => if (m5.1 9 i0 1) ≤ l4 then some (.inr (l3, m5)) else mi_g (vp_in l4 4) (mi_g (vp_in l4 4) (mi_b (f_X9_costOf i0 p0 (m5.1 45 i0 l4.toNatClampNeg) (m5.1 46 i0 l4.toNatClampNeg) m5) fun v8 m9 => mi_bo (f_X9_darkOrHarm v8 m9) fun v10 => mi_let (l3 + v10) fun v11 => some (.inl (v11, (l4 + (1 : Int32)), m9))))
noncomputable def f_X9_harmBy_K4 : (Int32 × mi_M) → Option (Int32 × mi_M) := fun e => match e with | (e1, m2) => some (e1, m2)
noncomputable def f_X9_harmBy (i0 : Nat) (p0 : Int32) (mem : mi_M) : Option (Int32 × mi_M) := mi_bo (mi_lp (f_X9_harmBy_B4 i0 p0) mi_fu ((0 : Int32), (0 : Int32), mem)) (f_X9_harmBy_K4)
set_option maxRecDepth 100000 in
set_option maxHeartbeats 4000000 in
theorem w_X9_harmBy (i0 : Nat) (p0 : Int32) (hi0 : i0 < mi_n 9) (mem : mi_M) (a : Int32 × mi_M) (e : f_X9_harmBy i0 p0 mem = some a) : mi_Ci (4) mX9_harmBy [vr 9 i0, vi p0] mem (fun x m' => x = a.1 ∧ m' = a.2) := by
  unfold mi_Ci
  refine mi_C_intro (ls := [(0, vr 9 i0), (1, vi p0)]) (by decide) rfl rfl ?_
  obtain ⟨Q0, hq0, h⟩ : ∃ Q0 : (Int32 × mi_M) → Prop, (∀ b, Q0 b → b = a) ∧ wo (f_X9_harmBy i0 p0 mem) Q0 := ⟨fun b => b = a, fun _ h => h, wo_eq e⟩
  obtain ⟨QX, hQX⟩ : ∃ QX : Option mi_V → mi_M → Prop, QX = (fun r m' => ∃ x, r = some (vi x) ∧ x = a.1 ∧ m' = a.2) := ⟨_, rfl⟩
  rw [← hQX]
  unfold f_X9_harmBy at h
  refine x_iconst (pc := 0) dX9_harmBy_0 (v := (0 : Int32)) (by decide) ?_
  refine x_istore_n (ls' := [(2, _), (0, _), (1, _)]) (pc := 1) dX9_harmBy_1 rfl rfl rfl ?_
  refine x_iconst (pc := 2) dX9_harmBy_2 (v := (0 : Int32)) (by decide) ?_
  refine x_istore_n (ls' := [(3, _), (2, _), (0, _), (1, _)]) (pc := 3) dX9_harmBy_3 rfl rfl rfl ?_
  have k4_0 : ∀ (e1 : Int32) (m2 : mi_M), wo (f_X9_harmBy_K4 (e1, m2)) Q0 → mi_X mX9_harmBy (4) 41 [(2, vi e1)] [] m2 QX := by
    intro e1 m2 h
    unfold f_X9_harmBy_K4 at h
    try dsimp only at h
    refine x_iload_n (pc := 41) dX9_harmBy_41 rfl ?_
    exact x_iret (pc := 42) dX9_harmBy_42 rfl (by rw [hQX]; exact ⟨_, rfl, congrArg Prod.fst (hq0 _ (wo_some h)), congrArg Prod.snd (hq0 _ (wo_some h))⟩)
  refine x_sub [(0, _), (1, _), (2, _), (3, _)] ⟨rfl, rfl, rfl, rfl, trivial⟩ ?_
  obtain ⟨ea, eb, h⟩ := wo_bo h
  refine wo_lq (X := fun s => match s with | (l3, l4, m5) => mi_X mX9_harmBy (4) 4 [(0, vr 9 i0), (1, vi p0), (2, vi l3), (3, vi l4)] [] m5 QX) (E := fun e => wo (f_X9_harmBy_K4 e) Q0) ?_ _ ((0 : Int32), (0 : Int32), mem) ⟨_, eb, h⟩
  intro Q4 hb4 he4 s h
  obtain ⟨l3, l4, m5⟩ := s
  show mi_X mX9_harmBy (4) 4 [(0, vr 9 i0), (1, vi p0), (2, vi l3), (3, vi l4)] [] m5 QX
  unfold f_X9_harmBy_B4 at h
  try dsimp only at h
  refine x_iload_n (pc := 4) dX9_harmBy_4 rfl ?_
  refine x_aload_n (pc := 5) dX9_harmBy_5 rfl ?_
  refine x_getI (pc := 6) dX9_harmBy_6 fX9_30 rfl hi0 ?_
  refine x_icmp_ge (pc := 9) dX9_harmBy_9 (tgt := 41) (by decide) (fun c12 => ?_) (fun c12 => ?_)
  · replace h := wo_pos c12 h
    refine x_sub [(2, _)] ⟨rfl, trivial⟩ ?_
    exact k4_0 _ _ (he4 (l3, m5) (wo_some h))
  · replace h := wo_neg c12 h
    refine x_iload_n (pc := 12) dX9_harmBy_12 rfl ?_
    refine x_aload_n (pc := 13) dX9_harmBy_13 rfl ?_
    refine x_iload_n (pc := 14) dX9_harmBy_14 rfl ?_
    refine x_aload_n (pc := 15) dX9_harmBy_15 rfl ?_
    refine x_getS (pc := 16) dX9_harmBy_16 fX9_16 rfl hi0 ?_
    refine x_iload_n (pc := 19) dX9_harmBy_19 rfl ?_
    obtain ⟨hx6, h⟩ := wo_g h
    refine x_ialdJ (pc := 20) dX9_harmBy_20 rfl rfl hi0 hx6 ?_
    refine x_aload_n (pc := 21) dX9_harmBy_21 rfl ?_
    refine x_getS (pc := 22) dX9_harmBy_22 fX9_20 rfl hi0 ?_
    refine x_iload_n (pc := 25) dX9_harmBy_25 rfl ?_
    obtain ⟨hx7, h⟩ := wo_g h
    refine x_ialdJ (pc := 26) dX9_harmBy_26 rfl rfl hi0 hx7 ?_
    refine y_Vi3 (pc := 27) h dX9_harmBy_27 lX9_37 hi0 (by omega) rfl (fun a e => w_X9_costOf _ _ _ _ hi0 _ a e) (fun v8 m9 h => ?_)
    refine z_Si1 (pc := 30) h dX9_harmBy_30 lX9_45 (by omega) rfl (fun a e => w_X9_darkOrHarm _ _ a e) (fun v10 h => ?_)
    refine x_iadd (pc := 33) dX9_harmBy_33 ?_
    refine x_leti h (fun v11 h => ?_)
    refine x_istore_n (ls' := [(2, _), (0, _), (1, _), (3, _)]) (pc := 34) dX9_harmBy_34 rfl rfl rfl ?_
    refine x_iinc (ls' := [(3, _), (2, _), (0, _), (1, _)]) (pc := 35) dX9_harmBy_35 rfl (v := l4 + (1 : Int32)) rfl rfl rfl ?_
    refine x_goto (pc := 38) dX9_harmBy_38 (tgt := 4) (by decide) ?_
    refine x_sub [(0, _), (1, _), (2, _), (3, _)] ⟨rfl, rfl, rfl, rfl, trivial⟩ ?_
    exact hb4 (v11, (l4 + (1 : Int32)), m9) (wo_some h)
noncomputable def f_X5_sleep_J92 (l9 : Int32) (m12 : mi_M) : Option ((Int32 × mi_M) ⊕ (mi_M)) := some (.inl ((l9 + (1 : Int32)), m12))
noncomputable def f_X5_sleep_B55 (i0 : Nat) (p0 : Nat) : (Int32 × mi_M) → Option ((Int32 × mi_M) ⊕ (mi_M)) := fun s => match s with | (l9, m10) => if (m10.1 8 p0 1) ≤ l9 then some (.inr m10) else mi_bo (f_X5_isForgiven i0 l9 m10) fun v11 => if v11 = 0 then mi_g (vp_in l9 8) (mi_b (f_X8_soreBehindNight p0 l9 (m10.1 34 i0 l9.toNatClampNeg) (m10.1 5 i0 0) m10) fun v14 m15 => mi_g (vp_in l9 8) (mi_let (mi_wI m15 34 i0 l9.toNatClampNeg v14) fun m17 => f_X5_sleep_J92 l9 m17)) else f_X5_sleep_J92 l9 m10
noncomputable def f_X5_sleep_K55 (i0 : Nat) : mi_M → Option (mi_M) := fun m6 => mi_let (mi_wI m6 5 i0 3 (0 : Int32)) fun m7 => mi_let (mi_wI m7 5 i0 0 ((m7.1 5 i0 0) + (1 : Int32))) fun m8 => some m8
noncomputable def f_X5_sleep_B23 (i0 : Nat) : (Int32 × mi_M) → Option ((Int32 × mi_M) ⊕ (mi_M)) := fun s => match s with | (l20, m21) => if (6 : Int32) ≤ l20 then some (.inr m21) else mi_g (vp_in l20 6) (mi_let (if (0 : Int32) < ((m21.1 35 i0 l20.toNatClampNeg) - (1 : Int32)) then ((m21.1 35 i0 l20.toNatClampNeg) - (1 : Int32)) else (0 : Int32)) fun v23 => mi_g (vp_in l20 6) (mi_let (mi_wI m21 35 i0 l20.toNatClampNeg v23) fun m25 => some (.inl ((l20 + (1 : Int32)), m25))))
noncomputable def f_X5_sleep_K23 (i0 : Nat) (p0 : Nat) : mi_M → Option (mi_M) := fun m5 => mi_bo (mi_lp (f_X5_sleep_B55 i0 p0) mi_fu ((0 : Int32), m5)) (f_X5_sleep_K55 i0)
noncomputable def f_X5_sleep (i0 : Nat) (p0 : Nat) (mem : mi_M) : Option (mi_M) := mi_bo (f_X5_burningBehind i0 (0 : Int32) mem) fun v1 => mi_b (f_X9_harmBy p0 v1 mem) fun v2 m3 => mi_let (mi_wI m3 5 i0 1 ((mem.1 5 i0 1) + v2)) fun m4 => mi_bo (mi_lp (f_X5_sleep_B23 i0) mi_fu ((0 : Int32), m4)) (f_X5_sleep_K23 i0 p0)
set_option maxRecDepth 100000 in
set_option maxHeartbeats 4000000 in
theorem w_X5_sleep (i0 : Nat) (p0 : Nat) (hi0 : i0 < mi_n 5) (hp0 : p0 < mi_n 8) (mem : mi_M) (a : mi_M) (e : f_X5_sleep i0 p0 mem = some a) : mi_Cv (5) mX5_sleep [vr 5 i0, vr 8 p0] mem (fun m' => m' = a) := by
  unfold mi_Cv
  refine mi_C_intro (ls := [(0, vr 5 i0), (1, vr 8 p0)]) (by decide) rfl rfl ?_
  obtain ⟨Q0, hq0, h⟩ : ∃ Q0 : mi_M → Prop, (∀ b, Q0 b → b = a) ∧ wo (f_X5_sleep i0 p0 mem) Q0 := ⟨fun b => b = a, fun _ h => h, wo_eq e⟩
  obtain ⟨QX, hQX⟩ : ∃ QX : Option mi_V → mi_M → Prop, QX = (fun r m' => r = none ∧ m' = a) := ⟨_, rfl⟩
  rw [← hQX]
  unfold f_X5_sleep at h
  refine x_aload_n (pc := 0) dX5_sleep_0 rfl ?_
  refine x_dup (pc := 1) dX5_sleep_1 rfl ?_
  refine x_getI (pc := 2) dX5_sleep_2 fX5_25 rfl hi0 ?_
  refine x_aload_n (pc := 5) dX5_sleep_5 rfl ?_
  refine x_getS (pc := 6) dX5_sleep_6 fX5_104 rfl hp0 ?_
  refine x_aload_n (pc := 9) dX5_sleep_9 rfl ?_
  refine x_iconst (pc := 10) dX5_sleep_10 (v := (0 : Int32)) (by decide) ?_
  refine z_Vi1 (pc := 11) h dX5_sleep_11 lX5_108 hi0 (by omega) rfl (fun a e => w_X5_burningBehind _ _ hi0 _ a e) (fun v1 h => ?_)
  refine y_Vi1 (pc := 14) h dX5_sleep_14 lX5_111 hp0 (by omega) rfl (fun a e => w_X9_harmBy _ _ hp0 _ a e) (fun v2 m3 h => ?_)
  refine x_iadd (pc := 17) dX5_sleep_17 ?_
  refine x_putI (pc := 18) dX5_sleep_18 fX5_25 rfl hi0 rfl rfl ?_
  refine x_letm h (fun m4 h => ?_)
  refine x_iconst (pc := 21) dX5_sleep_21 (v := (0 : Int32)) (by decide) ?_
  refine x_istore_n (ls' := [(2, _), (0, _), (1, _)]) (pc := 22) dX5_sleep_22 rfl rfl rfl ?_
  have k23_0 : ∀ (m5 : mi_M), wo (f_X5_sleep_K23 i0 p0 m5) Q0 → mi_X mX5_sleep (5) 53 [(0, vr 5 i0), (1, vr 8 p0)] [] m5 QX := by
    intro m5 h
    unfold f_X5_sleep_K23 at h
    try dsimp only at h
    refine x_iconst (pc := 53) dX5_sleep_53 (v := (0 : Int32)) (by decide) ?_
    refine x_istore_n (ls' := [(2, _), (0, _), (1, _)]) (pc := 54) dX5_sleep_54 rfl rfl rfl ?_
    have k55_0 : ∀ (m6 : mi_M), wo (f_X5_sleep_K55 i0 m6) Q0 → mi_X mX5_sleep (5) 98 [(0, vr 5 i0)] [] m6 QX := by
      intro m6 h
      unfold f_X5_sleep_K55 at h
      try dsimp only at h
      refine x_aload_n (pc := 98) dX5_sleep_98 rfl ?_
      refine x_iconst (pc := 99) dX5_sleep_99 (v := (0 : Int32)) (by decide) ?_
      refine x_putI (pc := 100) dX5_sleep_100 fX5_31 rfl hi0 rfl rfl ?_
      refine x_letm h (fun m7 h => ?_)
      refine x_aload_n (pc := 103) dX5_sleep_103 rfl ?_
      refine x_dup (pc := 104) dX5_sleep_104 rfl ?_
      refine x_getI (pc := 105) dX5_sleep_105 fX5_21 rfl hi0 ?_
      refine x_iconst (pc := 108) dX5_sleep_108 (v := (1 : Int32)) (by decide) ?_
      refine x_iadd (pc := 109) dX5_sleep_109 ?_
      refine x_putI (pc := 110) dX5_sleep_110 fX5_21 rfl hi0 rfl rfl ?_
      refine x_letm h (fun m8 h => ?_)
      exact x_ret (pc := 113) dX5_sleep_113 rfl (by rw [hQX]; exact ⟨rfl, hq0 _ (wo_some h)⟩)
    refine x_sub [(0, _), (1, _), (2, _)] ⟨rfl, rfl, rfl, trivial⟩ ?_
    obtain ⟨ea, eb, h⟩ := wo_bo h
    refine wo_lq (X := fun s => match s with | (l9, m10) => mi_X mX5_sleep (5) 55 [(0, vr 5 i0), (1, vr 8 p0), (2, vi l9)] [] m10 QX) (E := fun e => wo (f_X5_sleep_K55 i0 e) Q0) ?_ _ ((0 : Int32), m5) ⟨_, eb, h⟩
    intro Q55 hb55 he55 s h
    obtain ⟨l9, m10⟩ := s
    show mi_X mX5_sleep (5) 55 [(0, vr 5 i0), (1, vr 8 p0), (2, vi l9)] [] m10 QX
    unfold f_X5_sleep_B55 at h
    try dsimp only at h
    refine x_iload_n (pc := 55) dX5_sleep_55 rfl ?_
    refine x_aload_n (pc := 56) dX5_sleep_56 rfl ?_
    refine x_getI (pc := 57) dX5_sleep_57 fX5_34 rfl hp0 ?_
    refine x_icmp_ge (pc := 60) dX5_sleep_60 (tgt := 98) (by decide) (fun c19 => ?_) (fun c19 => ?_)
    · replace h := wo_pos c19 h
      refine x_sub [(0, _)] ⟨rfl, trivial⟩ ?_
      exact k55_0 _ (he55 m10 (wo_some h))
    · replace h := wo_neg c19 h
      refine x_aload_n (pc := 63) dX5_sleep_63 rfl ?_
      refine x_iload_n (pc := 64) dX5_sleep_64 rfl ?_
      refine z_Vi1 (pc := 65) h dX5_sleep_65 lX5_56 hi0 (by omega) rfl (fun a e => w_X5_isForgiven _ _ hi0 _ a e) (fun v11 h => ?_)
      have j92 : ∀ (m12 : mi_M), wo (f_X5_sleep_J92 l9 m12) Q55 → mi_X mX5_sleep (5) 92 [(0, vr 5 i0), (1, vr 8 p0), (2, vi l9)] [] m12 QX := by
        intro m12 h
        unfold f_X5_sleep_J92 at h
        refine x_iinc (ls' := [(2, _), (0, _), (1, _)]) (pc := 92) dX5_sleep_92 rfl (v := l9 + (1 : Int32)) rfl rfl rfl ?_
        refine x_goto (pc := 95) dX5_sleep_95 (tgt := 55) (by decide) ?_
        refine x_sub [(0, _), (1, _), (2, _)] ⟨rfl, rfl, rfl, trivial⟩ ?_
        exact hb55 ((l9 + (1 : Int32)), m12) (wo_some h)
      refine x_if_ne (pc := 68) dX5_sleep_68 (tgt := 92) (by decide) (fun c18 => ?_) (fun c18 => ?_)
      · replace h := wo_neg c18 h
        refine x_sub [(0, _), (1, _), (2, _)] ⟨rfl, rfl, rfl, trivial⟩ ?_
        exact j92 _ h
      · replace h := wo_pos c18 h
        refine x_aload_n (pc := 71) dX5_sleep_71 rfl ?_
        refine x_getS (pc := 72) dX5_sleep_72 fX5_9 rfl hi0 ?_
        refine x_iload_n (pc := 75) dX5_sleep_75 rfl ?_
        refine x_aload_n (pc := 76) dX5_sleep_76 rfl ?_
        refine x_iload_n (pc := 77) dX5_sleep_77 rfl ?_
        refine x_aload_n (pc := 78) dX5_sleep_78 rfl ?_
        refine x_getS (pc := 79) dX5_sleep_79 fX5_9 rfl hi0 ?_
        refine x_iload_n (pc := 82) dX5_sleep_82 rfl ?_
        obtain ⟨hx13, h⟩ := wo_g h
        refine x_ialdJ (pc := 83) dX5_sleep_83 rfl rfl hi0 hx13 ?_
        refine x_aload_n (pc := 84) dX5_sleep_84 rfl ?_
        refine x_getI (pc := 85) dX5_sleep_85 fX5_21 rfl hi0 ?_
        refine y_Vi3 (pc := 88) h dX5_sleep_88 lX5_116 hp0 (by omega) rfl (fun a e => w_X8_soreBehindNight _ _ _ _ hp0 _ a e) (fun v14 m15 h => ?_)
        obtain ⟨hx16, h⟩ := wo_g h
        refine x_iastJ (pc := 91) dX5_sleep_91 rfl rfl hi0 rfl hx16 ?_
        refine x_letm h (fun m17 h => ?_)
        refine x_sub [(0, _), (1, _), (2, _)] ⟨rfl, rfl, rfl, trivial⟩ ?_
        exact j92 _ h
  refine x_sub [(0, _), (1, _), (2, _)] ⟨rfl, rfl, rfl, trivial⟩ ?_
  obtain ⟨ea, eb, h⟩ := wo_bo h
  refine wo_lq (X := fun s => match s with | (l20, m21) => mi_X mX5_sleep (5) 23 [(0, vr 5 i0), (1, vr 8 p0), (2, vi l20)] [] m21 QX) (E := fun e => wo (f_X5_sleep_K23 i0 p0 e) Q0) ?_ _ ((0 : Int32), m4) ⟨_, eb, h⟩
  intro Q23 hb23 he23 s h
  obtain ⟨l20, m21⟩ := s
  show mi_X mX5_sleep (5) 23 [(0, vr 5 i0), (1, vr 8 p0), (2, vi l20)] [] m21 QX
  unfold f_X5_sleep_B23 at h
  try dsimp only at h
  refine x_iload_n (pc := 23) dX5_sleep_23 rfl ?_
  refine x_bipush (pc := 24) dX5_sleep_24 (v := (6 : Int32)) (by decide) ?_
  refine x_icmp_ge (pc := 26) dX5_sleep_26 (tgt := 53) (by decide) (fun c26 => ?_) (fun c26 => ?_)
  · replace h := wo_pos c26 h
    refine x_sub [(0, _), (1, _)] ⟨rfl, rfl, trivial⟩ ?_
    exact k23_0 _ (he23 m21 (wo_some h))
  · replace h := wo_neg c26 h
    refine x_aload_n (pc := 29) dX5_sleep_29 rfl ?_
    refine x_getS (pc := 30) dX5_sleep_30 fX5_15 rfl hi0 ?_
    refine x_iload_n (pc := 33) dX5_sleep_33 rfl ?_
    refine x_iconst (pc := 34) dX5_sleep_34 (v := (0 : Int32)) (by decide) ?_
    refine x_aload_n (pc := 35) dX5_sleep_35 rfl ?_
    refine x_getS (pc := 36) dX5_sleep_36 fX5_15 rfl hi0 ?_
    refine x_iload_n (pc := 39) dX5_sleep_39 rfl ?_
    obtain ⟨hx22, h⟩ := wo_g h
    refine x_ialdJ (pc := 40) dX5_sleep_40 rfl rfl hi0 hx22 ?_
    refine x_iconst (pc := 41) dX5_sleep_41 (v := (1 : Int32)) (by decide) ?_
    refine x_isub (pc := 42) dX5_sleep_42 ?_
    refine x_mmax (pc := 43) dX5_sleep_43 lX5_77 (by omega) rfl ?_
    refine x_leti h (fun v23 h => ?_)
    obtain ⟨hx24, h⟩ := wo_g h
    refine x_iastJ (pc := 46) dX5_sleep_46 rfl rfl hi0 rfl hx24 ?_
    refine x_letm h (fun m25 h => ?_)
    refine x_iinc (ls' := [(2, _), (0, _), (1, _)]) (pc := 47) dX5_sleep_47 rfl (v := l20 + (1 : Int32)) rfl rfl rfl ?_
    refine x_goto (pc := 50) dX5_sleep_50 (tgt := 23) (by decide) ?_
    refine x_sub [(0, _), (1, _), (2, _)] ⟨rfl, rfl, rfl, trivial⟩ ?_
    exact hb23 ((l20 + (1 : Int32)), m25) (wo_some h)
noncomputable def f_X8_soreBehindWords (i0 : Nat) (p0 : Int32) (p1 : Int32) (p2 : Int32) (mem : mi_M) : Option (Int32 × mi_M) := mi_g (vp_in p0 8) (mi_b (f_X1_worth i0 (0 : Int32) (mem.1 43 i0 p0.toNatClampNeg) p1 p2 mem) fun v2 m3 => mi_bo (f_X11_clamp v2 (0 : Int32) (99 : Int32) m3) fun v4 => mi_let (if (0 : Int32) < (p1 - v4) then (p1 - v4) else (0 : Int32)) fun v5 => some (v5, m3))
set_option maxRecDepth 100000 in
set_option maxHeartbeats 4000000 in
theorem w_X8_soreBehindWords (i0 : Nat) (p0 : Int32) (p1 : Int32) (p2 : Int32) (hi0 : i0 < mi_n 8) (mem : mi_M) (a : Int32 × mi_M) (e : f_X8_soreBehindWords i0 p0 p1 p2 mem = some a) : mi_Ci (4) mX8_soreBehindWords [vr 8 i0, vi p0, vi p1, vi p2] mem (fun x m' => x = a.1 ∧ m' = a.2) := by
  unfold mi_Ci
  refine mi_C_intro (ls := [(0, vr 8 i0), (1, vi p0), (2, vi p1), (3, vi p2)]) (by decide) rfl rfl ?_
  obtain ⟨Q0, hq0, h⟩ : ∃ Q0 : (Int32 × mi_M) → Prop, (∀ b, Q0 b → b = a) ∧ wo (f_X8_soreBehindWords i0 p0 p1 p2 mem) Q0 := ⟨fun b => b = a, fun _ h => h, wo_eq e⟩
  obtain ⟨QX, hQX⟩ : ∃ QX : Option mi_V → mi_M → Prop, QX = (fun r m' => ∃ x, r = some (vi x) ∧ x = a.1 ∧ m' = a.2) := ⟨_, rfl⟩
  rw [← hQX]
  unfold f_X8_soreBehindWords at h
  refine x_aload_n (pc := 0) dX8_soreBehindWords_0 rfl ?_
  refine x_getS (pc := 1) dX8_soreBehindWords_1 fX8_34 rfl hi0 ?_
  refine x_iconst (pc := 4) dX8_soreBehindWords_4 (v := (0 : Int32)) (by decide) ?_
  refine x_aload_n (pc := 5) dX8_soreBehindWords_5 rfl ?_
  refine x_getS (pc := 6) dX8_soreBehindWords_6 fX8_28 rfl hi0 ?_
  refine x_iload_n (pc := 9) dX8_soreBehindWords_9 rfl ?_
  obtain ⟨hx1, h⟩ := wo_g h
  refine x_ialdJ (pc := 10) dX8_soreBehindWords_10 rfl rfl hi0 hx1 ?_
  refine x_iload_n (pc := 11) dX8_soreBehindWords_11 rfl ?_
  refine x_iload_n (pc := 12) dX8_soreBehindWords_12 rfl ?_
  refine y_Vi4 (pc := 13) h dX8_soreBehindWords_13 lX8_73 hi0 (by omega) rfl (fun a e => w_X1_worth _ _ _ _ _ hi0 _ a e) (fun v2 m3 h => ?_)
  refine x_iconst (pc := 16) dX8_soreBehindWords_16 (v := (0 : Int32)) (by decide) ?_
  refine x_bipush (pc := 17) dX8_soreBehindWords_17 (v := (99 : Int32)) (by decide) ?_
  refine z_Ni3 (pc := 19) h dX8_soreBehindWords_19 nX8_77 (by omega) rfl (fun a e => w_X11_clamp _ _ _ _ a e) (fun v4 h => ?_)
  refine x_istore (ls' := [(4, _), (0, _), (1, _), (2, _), (3, _)]) (pc := 22) dX8_soreBehindWords_22 rfl rfl ?_
  refine x_iconst (pc := 24) dX8_soreBehindWords_24 (v := (0 : Int32)) (by decide) ?_
  refine x_iload_n (pc := 25) dX8_soreBehindWords_25 rfl ?_
  refine x_iload (pc := 26) dX8_soreBehindWords_26 rfl ?_
  refine x_isub (pc := 28) dX8_soreBehindWords_28 ?_
  refine x_mmax (pc := 29) dX8_soreBehindWords_29 lX8_81 (by omega) rfl ?_
  refine x_leti h (fun v5 h => ?_)
  exact x_iret (pc := 32) dX8_soreBehindWords_32 rfl (by rw [hQX]; exact ⟨_, rfl, congrArg Prod.fst (hq0 _ (wo_some h)), congrArg Prod.snd (hq0 _ (wo_some h))⟩)
noncomputable def f_X5_act_J133 (m1 : mi_M) : Option (mi_M) := some m1
noncomputable def f_X5_act (i0 : Nat) (p0 : Nat) (p1 : Int32) (p2 : Int32) (p3 : Int32) (mem : mi_M) : Option (mi_M) := if p1 = (0 : Int32) then mi_g (vp_in p2 8) (mi_b (f_X8_soreBehindWords p0 p2 (mem.1 34 i0 p2.toNatClampNeg) (mem.1 5 i0 0) mem) fun v4 m5 => mi_g (vp_in p2 8) (mi_let (mi_wI m5 34 i0 p2.toNatClampNeg v4) fun m7 => mi_let (mi_wI m7 5 i0 3 ((m7.1 5 i0 3) ||| ((1 : Int32) <<< (p2 &&& 31)))) fun m8 => f_X5_act_J133 m8)) else if p1 = (1 : Int32) then mi_g (vp_in p2 8) (mi_g (vp_in (mem.1 41 p0 p2.toNatClampNeg) 6) (mi_g (vp_in (mem.1 41 p0 p2.toNatClampNeg) 6) (mi_let (mi_wI mem 36 i0 (mem.1 41 p0 p2.toNatClampNeg).toNatClampNeg ((mem.1 36 i0 (mem.1 41 p0 p2.toNatClampNeg).toNatClampNeg) - p3)) fun m13 => mi_g (vp_in p2 8) (mi_g (vp_in (m13.1 42 p0 p2.toNatClampNeg) 6) (mi_g (vp_in (m13.1 42 p0 p2.toNatClampNeg) 6) (mi_let (mi_wI m13 36 i0 (m13.1 42 p0 p2.toNatClampNeg).toNatClampNeg ((m13.1 36 i0 (m13.1 42 p0 p2.toNatClampNeg).toNatClampNeg) + p3)) fun m17 => mi_g (vp_in p2 8) (mi_let (if (0 : Int32) < ((m17.1 34 i0 p2.toNatClampNeg) - p3) then ((m17.1 34 i0 p2.toNatClampNeg) - p3) else (0 : Int32)) fun v19 => mi_g (vp_in p2 8) (mi_let (mi_wI m17 34 i0 p2.toNatClampNeg v19) fun m21 => f_X5_act_J133 m21)))))))) else if p1 = (2 : Int32) then mi_bo (f_X5_beg i0 p0 p2 (0 : Int32) mem) fun m23 => f_X5_act_J133 m23 else mi_bo (f_X5_sleep i0 p0 mem) fun m24 => f_X5_act_J133 m24
set_option maxRecDepth 100000 in
set_option maxHeartbeats 4000000 in
theorem w_X5_act (i0 : Nat) (p0 : Nat) (p1 : Int32) (p2 : Int32) (p3 : Int32) (hi0 : i0 < mi_n 5) (hp0 : p0 < mi_n 8) (mem : mi_M) (a : mi_M) (e : f_X5_act i0 p0 p1 p2 p3 mem = some a) : mi_Cv (6) mX5_act [vr 5 i0, vr 8 p0, vi p1, vi p2, vi p3] mem (fun m' => m' = a) := by
  unfold mi_Cv
  refine mi_C_intro (ls := [(0, vr 5 i0), (1, vr 8 p0), (2, vi p1), (3, vi p2), (4, vi p3)]) (by decide) rfl rfl ?_
  obtain ⟨Q0, hq0, h⟩ : ∃ Q0 : mi_M → Prop, (∀ b, Q0 b → b = a) ∧ wo (f_X5_act i0 p0 p1 p2 p3 mem) Q0 := ⟨fun b => b = a, fun _ h => h, wo_eq e⟩
  obtain ⟨QX, hQX⟩ : ∃ QX : Option mi_V → mi_M → Prop, QX = (fun r m' => r = none ∧ m' = a) := ⟨_, rfl⟩
  rw [← hQX]
  unfold f_X5_act at h
  refine x_iload_n (pc := 0) dX5_act_0 rfl ?_
  have j133 : ∀ (m1 : mi_M), wo (f_X5_act_J133 m1) Q0 → mi_X mX5_act (6) 133 [] [] m1 QX := by
    intro m1 h
    unfold f_X5_act_J133 at h
    exact x_ret (pc := 133) dX5_act_133 rfl (by rw [hQX]; exact ⟨rfl, hq0 _ (wo_some h)⟩)
  by_cases c2 : p1 = (0 : Int32)
  · replace h := wo_pos c2 h
    refine x_swT (pc := 1) (c := (0 : Int32)) c2 dX5_act_1 (by decide) (by decide) rfl (tgt := 28) (by decide) ?_
    refine x_aload_n (pc := 28) dX5_act_28 rfl ?_
    refine x_getS (pc := 29) dX5_act_29 fX5_9 rfl hi0 ?_
    refine x_iload_n (pc := 32) dX5_act_32 rfl ?_
    refine x_aload_n (pc := 33) dX5_act_33 rfl ?_
    refine x_iload_n (pc := 34) dX5_act_34 rfl ?_
    refine x_aload_n (pc := 35) dX5_act_35 rfl ?_
    refine x_getS (pc := 36) dX5_act_36 fX5_9 rfl hi0 ?_
    refine x_iload_n (pc := 39) dX5_act_39 rfl ?_
    obtain ⟨hx3, h⟩ := wo_g h
    refine x_ialdJ (pc := 40) dX5_act_40 rfl rfl hi0 hx3 ?_
    refine x_aload_n (pc := 41) dX5_act_41 rfl ?_
    refine x_getI (pc := 42) dX5_act_42 fX5_21 rfl hi0 ?_
    refine y_Vi3 (pc := 45) h dX5_act_45 lX5_70 hp0 (by omega) rfl (fun a e => w_X8_soreBehindWords _ _ _ _ hp0 _ a e) (fun v4 m5 h => ?_)
    obtain ⟨hx6, h⟩ := wo_g h
    refine x_iastJ (pc := 48) dX5_act_48 rfl rfl hi0 rfl hx6 ?_
    refine x_letm h (fun m7 h => ?_)
    refine x_aload_n (pc := 49) dX5_act_49 rfl ?_
    refine x_dup (pc := 50) dX5_act_50 rfl ?_
    refine x_getI (pc := 51) dX5_act_51 fX5_31 rfl hi0 ?_
    refine x_iconst (pc := 54) dX5_act_54 (v := (1 : Int32)) (by decide) ?_
    refine x_iload_n (pc := 55) dX5_act_55 rfl ?_
    refine x_ishl (pc := 56) dX5_act_56 ?_
    refine x_ior (pc := 57) dX5_act_57 ?_
    refine x_putI (pc := 58) dX5_act_58 fX5_31 rfl hi0 rfl rfl ?_
    refine x_letm h (fun m8 h => ?_)
    refine x_goto (pc := 61) dX5_act_61 (tgt := 133) (by decide) ?_
    refine x_sub [] trivial ?_
    exact j133 _ h
  · replace h := wo_neg c2 h
    by_cases c9 : p1 = (1 : Int32)
    · replace h := wo_pos c9 h
      refine x_swT (pc := 1) (c := (1 : Int32)) c9 dX5_act_1 (by decide) (by decide) rfl (tgt := 64) (by decide) ?_
      refine x_aload_n (pc := 64) dX5_act_64 rfl ?_
      refine x_getS (pc := 65) dX5_act_65 fX5_18 rfl hi0 ?_
      refine x_aload_n (pc := 68) dX5_act_68 rfl ?_
      refine x_getS (pc := 69) dX5_act_69 fX5_67 rfl hp0 ?_
      refine x_iload_n (pc := 72) dX5_act_72 rfl ?_
      obtain ⟨hx10, h⟩ := wo_g h
      refine x_ialdJ (pc := 73) dX5_act_73 rfl rfl hp0 hx10 ?_
      refine x_dup2 (pc := 74) dX5_act_74 rfl rfl ?_
      obtain ⟨hx11, h⟩ := wo_g h
      refine x_ialdJ (pc := 75) dX5_act_75 rfl rfl hi0 hx11 ?_
      refine x_iload (pc := 76) dX5_act_76 rfl ?_
      refine x_isub (pc := 78) dX5_act_78 ?_
      obtain ⟨hx12, h⟩ := wo_g h
      refine x_iastJ (pc := 79) dX5_act_79 rfl rfl hi0 rfl hx12 ?_
      refine x_letm h (fun m13 h => ?_)
      refine x_aload_n (pc := 80) dX5_act_80 rfl ?_
      refine x_getS (pc := 81) dX5_act_81 fX5_18 rfl hi0 ?_
      refine x_aload_n (pc := 84) dX5_act_84 rfl ?_
      refine x_getS (pc := 85) dX5_act_85 fX5_74 rfl hp0 ?_
      refine x_iload_n (pc := 88) dX5_act_88 rfl ?_
      obtain ⟨hx14, h⟩ := wo_g h
      refine x_ialdJ (pc := 89) dX5_act_89 rfl rfl hp0 hx14 ?_
      refine x_dup2 (pc := 90) dX5_act_90 rfl rfl ?_
      obtain ⟨hx15, h⟩ := wo_g h
      refine x_ialdJ (pc := 91) dX5_act_91 rfl rfl hi0 hx15 ?_
      refine x_iload (pc := 92) dX5_act_92 rfl ?_
      refine x_iadd (pc := 94) dX5_act_94 ?_
      obtain ⟨hx16, h⟩ := wo_g h
      refine x_iastJ (pc := 95) dX5_act_95 rfl rfl hi0 rfl hx16 ?_
      refine x_letm h (fun m17 h => ?_)
      refine x_aload_n (pc := 96) dX5_act_96 rfl ?_
      refine x_getS (pc := 97) dX5_act_97 fX5_9 rfl hi0 ?_
      refine x_iload_n (pc := 100) dX5_act_100 rfl ?_
      refine x_iconst (pc := 101) dX5_act_101 (v := (0 : Int32)) (by decide) ?_
      refine x_aload_n (pc := 102) dX5_act_102 rfl ?_
      refine x_getS (pc := 103) dX5_act_103 fX5_9 rfl hi0 ?_
      refine x_iload_n (pc := 106) dX5_act_106 rfl ?_
      obtain ⟨hx18, h⟩ := wo_g h
      refine x_ialdJ (pc := 107) dX5_act_107 rfl rfl hi0 hx18 ?_
      refine x_iload (pc := 108) dX5_act_108 rfl ?_
      refine x_isub (pc := 110) dX5_act_110 ?_
      refine x_mmax (pc := 111) dX5_act_111 lX5_77 (by omega) rfl ?_
      refine x_leti h (fun v19 h => ?_)
      obtain ⟨hx20, h⟩ := wo_g h
      refine x_iastJ (pc := 114) dX5_act_114 rfl rfl hi0 rfl hx20 ?_
      refine x_letm h (fun m21 h => ?_)
      refine x_goto (pc := 115) dX5_act_115 (tgt := 133) (by decide) ?_
      refine x_sub [] trivial ?_
      exact j133 _ h
    · replace h := wo_neg c9 h
      by_cases c22 : p1 = (2 : Int32)
      · replace h := wo_pos c22 h
        refine x_swT (pc := 1) (c := (2 : Int32)) c22 dX5_act_1 (by decide) (by decide) rfl (tgt := 118) (by decide) ?_
        refine x_aload_n (pc := 118) dX5_act_118 rfl ?_
        refine x_aload_n (pc := 119) dX5_act_119 rfl ?_
        refine x_iload_n (pc := 120) dX5_act_120 rfl ?_
        refine x_iconst (pc := 121) dX5_act_121 (v := (0 : Int32)) (by decide) ?_
        refine y_Vv3 (pc := 122) h dX5_act_122 lX5_83 hi0 (by omega) rfl (fun a e => w_X5_beg _ _ _ _ hi0 hp0 _ a e) (fun m23 h => ?_)
        refine x_goto (pc := 125) dX5_act_125 (tgt := 133) (by decide) ?_
        refine x_sub [] trivial ?_
        exact j133 _ h
      · replace h := wo_neg c22 h
        refine x_tableOut (pc := 1) dX5_act_1 (by have := lv_neT (a := 0) c2 (by decide); have := lv_neT (a := 1) c9 (by decide); have := lv_neT (a := 2) c22 (by decide); omega) (tgt := 128) (by decide) ?_
        refine x_aload_n (pc := 128) dX5_act_128 rfl ?_
        refine x_aload_n (pc := 129) dX5_act_129 rfl ?_
        refine y_Vv1 (pc := 130) h dX5_act_130 lX5_87 hi0 (by omega) rfl (fun a e => w_X5_sleep _ _ hi0 hp0 _ a e) (fun m24 h => ?_)
        refine x_sub [] trivial ?_
        exact j133 _ h
noncomputable def f_X5_isSaid (i0 : Nat) (p0 : Int32) (mem : mi_M) : Option (Int32) := mi_bo (f_X11_holds (mem.1 5 i0 3) p0 mem) fun v1 => mi_g (v1 = 0 ∨ v1 = 1) (some v1)
set_option maxRecDepth 100000 in
set_option maxHeartbeats 4000000 in
theorem w_X5_isSaid (i0 : Nat) (p0 : Int32) (hi0 : i0 < mi_n 5) (mem : mi_M) (a : Int32) (e : f_X5_isSaid i0 p0 mem = some a) : mi_Ci (2) mX5_isSaid [vr 5 i0, vi p0] mem (fun x m' => x = a ∧ m' = mem) := by
  unfold mi_Ci
  refine mi_C_intro (ls := [(0, vr 5 i0), (1, vi p0)]) (by decide) rfl rfl ?_
  obtain ⟨Q0, hq0, h⟩ : ∃ Q0 : Int32 → Prop, (∀ b, Q0 b → b = a) ∧ wo (f_X5_isSaid i0 p0 mem) Q0 := ⟨fun b => b = a, fun _ h => h, wo_eq e⟩
  obtain ⟨QX, hQX⟩ : ∃ QX : Option mi_V → mi_M → Prop, QX = (fun r m' => ∃ x, r = some (vi x) ∧ x = a ∧ m' = mem) := ⟨_, rfl⟩
  rw [← hQX]
  unfold f_X5_isSaid at h
  refine x_aload_n (pc := 0) dX5_isSaid_0 rfl ?_
  refine x_getI (pc := 1) dX5_isSaid_1 fX5_31 rfl hi0 ?_
  refine x_iload_n (pc := 4) dX5_isSaid_4 rfl ?_
  refine z_Ni2 (pc := 5) h dX5_isSaid_5 nX5_52 (by omega) rfl (fun a e => w_X11_holds _ _ _ a e) (fun v1 h => ?_)
  obtain ⟨hb2, h⟩ := wo_g h
  exact x_zretB (pc := 8) dX5_isSaid_8 rfl hb2 (by rw [hQX]; exact ⟨_, rfl, hq0 _ (wo_some h), rfl⟩)
noncomputable def f_X5_may_J49 (u3 : Int32) : Option (Int32) := mi_g (u3 = 0 ∨ u3 = 1) (some u3)
noncomputable def f_X5_may_J48 : Option (Int32) := f_X5_may_J49 (0 : Int32)
noncomputable def f_X5_may_J79 (u10 : Int32) : Option (Int32) := mi_g (u10 = 0 ∨ u10 = 1) (some u10)
noncomputable def f_X5_may_J78 : Option (Int32) := f_X5_may_J79 (0 : Int32)
noncomputable def f_X5_may_J93 (u18 : Int32) : Option (Int32) := mi_g (u18 = 0 ∨ u18 = 1) (some u18)
noncomputable def f_X5_may (i0 : Nat) (p0 : Nat) (p1 : Int32) (p2 : Int32) (p3 : Int32) (mem : mi_M) : Option (Int32) := if p1 = (0 : Int32) then mi_bo (f_X5_isForgiven i0 p2 mem) fun v2 => if v2 = 0 then mi_bo (f_X5_isSaid i0 p2 mem) fun v5 => if v5 = 0 then f_X5_may_J49 (1 : Int32) else f_X5_may_J48 else f_X5_may_J48 else if p1 = (1 : Int32) then mi_bo (f_X5_isForgiven i0 p2 mem) fun v9 => if v9 = 0 then mi_g (vp_in p2 8) (mi_g (vp_in (mem.1 41 p0 p2.toNatClampNeg) 6) (if (mem.1 36 i0 (mem.1 41 p0 p2.toNatClampNeg).toNatClampNeg) < p3 then f_X5_may_J78 else f_X5_may_J79 (1 : Int32))) else f_X5_may_J78 else if p1 = (2 : Int32) then mi_bo (f_X5_isForgiven i0 p2 mem) fun v17 => if v17 = 0 then f_X5_may_J93 (1 : Int32) else f_X5_may_J93 (0 : Int32) else mi_g ((1 : Int32) = 0 ∨ (1 : Int32) = 1) (some (1 : Int32))
set_option maxRecDepth 100000 in
set_option maxHeartbeats 4000000 in
theorem w_X5_may (i0 : Nat) (p0 : Nat) (p1 : Int32) (p2 : Int32) (p3 : Int32) (hi0 : i0 < mi_n 5) (hp0 : p0 < mi_n 8) (mem : mi_M) (a : Int32) (e : f_X5_may i0 p0 p1 p2 p3 mem = some a) : mi_Ci (3) mX5_may [vr 5 i0, vr 8 p0, vi p1, vi p2, vi p3] mem (fun x m' => x = a ∧ m' = mem) := by
  unfold mi_Ci
  refine mi_C_intro (ls := [(0, vr 5 i0), (1, vr 8 p0), (2, vi p1), (3, vi p2), (4, vi p3)]) (by decide) rfl rfl ?_
  obtain ⟨Q0, hq0, h⟩ : ∃ Q0 : Int32 → Prop, (∀ b, Q0 b → b = a) ∧ wo (f_X5_may i0 p0 p1 p2 p3 mem) Q0 := ⟨fun b => b = a, fun _ h => h, wo_eq e⟩
  obtain ⟨QX, hQX⟩ : ∃ QX : Option mi_V → mi_M → Prop, QX = (fun r m' => ∃ x, r = some (vi x) ∧ x = a ∧ m' = mem) := ⟨_, rfl⟩
  rw [← hQX]
  unfold f_X5_may at h
  refine x_iload_n (pc := 0) dX5_may_0 rfl ?_
  by_cases c1 : p1 = (0 : Int32)
  · replace h := wo_pos c1 h
    refine x_swT (pc := 1) (c := (0 : Int32)) c1 dX5_may_1 (by decide) (by decide) rfl (tgt := 28) (by decide) ?_
    refine x_aload_n (pc := 28) dX5_may_28 rfl ?_
    refine x_iload_n (pc := 29) dX5_may_29 rfl ?_
    refine z_Vi1 (pc := 30) h dX5_may_30 lX5_56 hi0 (by omega) rfl (fun a e => w_X5_isForgiven _ _ hi0 _ a e) (fun v2 h => ?_)
    have j49 : ∀ (u3 : Int32), wo (f_X5_may_J49 u3) Q0 → mi_X mX5_may (3) 49 [] [vi u3] mem QX := by
      intro u3 h
      unfold f_X5_may_J49 at h
      obtain ⟨hb4, h⟩ := wo_g h
      exact x_zretB (pc := 49) dX5_may_49 rfl hb4 (by rw [hQX]; exact ⟨_, rfl, hq0 _ (wo_some h), rfl⟩)
    have j48 : wo (f_X5_may_J48) Q0 → mi_X mX5_may (3) 48 [] [] mem QX := by
      intro h
      unfold f_X5_may_J48 at h
      refine x_iconst (pc := 48) dX5_may_48 (v := (0 : Int32)) (by decide) ?_
      refine x_sub [] trivial ?_
      exact j49 _ h
    refine x_if_ne (pc := 33) dX5_may_33 (tgt := 48) (by decide) (fun c7 => ?_) (fun c7 => ?_)
    · replace h := wo_neg c7 h
      refine x_sub [] trivial ?_
      exact j48 h
    · replace h := wo_pos c7 h
      refine x_aload_n (pc := 36) dX5_may_36 rfl ?_
      refine x_iload_n (pc := 37) dX5_may_37 rfl ?_
      refine z_Vi1 (pc := 38) h dX5_may_38 lX5_64 hi0 (by omega) rfl (fun a e => w_X5_isSaid _ _ hi0 _ a e) (fun v5 h => ?_)
      refine x_if_ne (pc := 41) dX5_may_41 (tgt := 48) (by decide) (fun c6 => ?_) (fun c6 => ?_)
      · replace h := wo_neg c6 h
        refine x_sub [] trivial ?_
        exact j48 h
      · replace h := wo_pos c6 h
        refine x_iconst (pc := 44) dX5_may_44 (v := (1 : Int32)) (by decide) ?_
        refine x_goto (pc := 45) dX5_may_45 (tgt := 49) (by decide) ?_
        refine x_sub [] trivial ?_
        exact j49 _ h
  · replace h := wo_neg c1 h
    by_cases c8 : p1 = (1 : Int32)
    · replace h := wo_pos c8 h
      refine x_swT (pc := 1) (c := (1 : Int32)) c8 dX5_may_1 (by decide) (by decide) rfl (tgt := 50) (by decide) ?_
      refine x_aload_n (pc := 50) dX5_may_50 rfl ?_
      refine x_iload_n (pc := 51) dX5_may_51 rfl ?_
      refine z_Vi1 (pc := 52) h dX5_may_52 lX5_56 hi0 (by omega) rfl (fun a e => w_X5_isForgiven _ _ hi0 _ a e) (fun v9 h => ?_)
      have j79 : ∀ (u10 : Int32), wo (f_X5_may_J79 u10) Q0 → mi_X mX5_may (3) 79 [] [vi u10] mem QX := by
        intro u10 h
        unfold f_X5_may_J79 at h
        obtain ⟨hb11, h⟩ := wo_g h
        exact x_zretB (pc := 79) dX5_may_79 rfl hb11 (by rw [hQX]; exact ⟨_, rfl, hq0 _ (wo_some h), rfl⟩)
      have j78 : wo (f_X5_may_J78) Q0 → mi_X mX5_may (3) 78 [] [] mem QX := by
        intro h
        unfold f_X5_may_J78 at h
        refine x_iconst (pc := 78) dX5_may_78 (v := (0 : Int32)) (by decide) ?_
        refine x_sub [] trivial ?_
        exact j79 _ h
      refine x_if_ne (pc := 55) dX5_may_55 (tgt := 78) (by decide) (fun c15 => ?_) (fun c15 => ?_)
      · replace h := wo_neg c15 h
        refine x_sub [] trivial ?_
        exact j78 h
      · replace h := wo_pos c15 h
        refine x_aload_n (pc := 58) dX5_may_58 rfl ?_
        refine x_getS (pc := 59) dX5_may_59 fX5_18 rfl hi0 ?_
        refine x_aload_n (pc := 62) dX5_may_62 rfl ?_
        refine x_getS (pc := 63) dX5_may_63 fX5_67 rfl hp0 ?_
        refine x_iload_n (pc := 66) dX5_may_66 rfl ?_
        obtain ⟨hx12, h⟩ := wo_g h
        refine x_ialdJ (pc := 67) dX5_may_67 rfl rfl hp0 hx12 ?_
        obtain ⟨hx13, h⟩ := wo_g h
        refine x_ialdJ (pc := 68) dX5_may_68 rfl rfl hi0 hx13 ?_
        refine x_iload (pc := 69) dX5_may_69 rfl ?_
        refine x_icmp_lt (pc := 71) dX5_may_71 (tgt := 78) (by decide) (fun c14 => ?_) (fun c14 => ?_)
        · replace h := wo_pos c14 h
          refine x_sub [] trivial ?_
          exact j78 h
        · replace h := wo_neg c14 h
          refine x_iconst (pc := 74) dX5_may_74 (v := (1 : Int32)) (by decide) ?_
          refine x_goto (pc := 75) dX5_may_75 (tgt := 79) (by decide) ?_
          refine x_sub [] trivial ?_
          exact j79 _ h
    · replace h := wo_neg c8 h
      by_cases c16 : p1 = (2 : Int32)
      · replace h := wo_pos c16 h
        refine x_swT (pc := 1) (c := (2 : Int32)) c16 dX5_may_1 (by decide) (by decide) rfl (tgt := 80) (by decide) ?_
        refine x_aload_n (pc := 80) dX5_may_80 rfl ?_
        refine x_iload_n (pc := 81) dX5_may_81 rfl ?_
        refine z_Vi1 (pc := 82) h dX5_may_82 lX5_56 hi0 (by omega) rfl (fun a e => w_X5_isForgiven _ _ hi0 _ a e) (fun v17 h => ?_)
        have j93 : ∀ (u18 : Int32), wo (f_X5_may_J93 u18) Q0 → mi_X mX5_may (3) 93 [] [vi u18] mem QX := by
          intro u18 h
          unfold f_X5_may_J93 at h
          obtain ⟨hb19, h⟩ := wo_g h
          exact x_zretB (pc := 93) dX5_may_93 rfl hb19 (by rw [hQX]; exact ⟨_, rfl, hq0 _ (wo_some h), rfl⟩)
        refine x_if_ne (pc := 85) dX5_may_85 (tgt := 92) (by decide) (fun c20 => ?_) (fun c20 => ?_)
        · replace h := wo_neg c20 h
          refine x_iconst (pc := 92) dX5_may_92 (v := (0 : Int32)) (by decide) ?_
          refine x_sub [] trivial ?_
          exact j93 _ h
        · replace h := wo_pos c20 h
          refine x_iconst (pc := 88) dX5_may_88 (v := (1 : Int32)) (by decide) ?_
          refine x_goto (pc := 89) dX5_may_89 (tgt := 93) (by decide) ?_
          refine x_sub [] trivial ?_
          exact j93 _ h
      · replace h := wo_neg c16 h
        refine x_tableOut (pc := 1) dX5_may_1 (by have := lv_neT (a := 0) c1 (by decide); have := lv_neT (a := 1) c8 (by decide); have := lv_neT (a := 2) c16 (by decide); omega) (tgt := 94) (by decide) ?_
        refine x_iconst (pc := 94) dX5_may_94 (v := (1 : Int32)) (by decide) ?_
        obtain ⟨hb21, h⟩ := wo_g h
        exact x_zretB (pc := 95) dX5_may_95 rfl hb21 (by rw [hQX]; exact ⟨_, rfl, hq0 _ (wo_some h), rfl⟩)
noncomputable def f_X11_doByHand (p0 : Int32) (p1 : Int32) (p2 : Int32) (mem : mi_M) : Option (Int32 × mi_M) := mi_g (mem.2.2 0 < mi_n 8) (mi_bo (f_X5_may 0 (mem.2.2 0) p0 p1 p2 mem) fun v2 => if v2 = 0 then mi_g ((0 : Int32) = 0 ∨ (0 : Int32) = 1) (some ((0 : Int32), mem)) else mi_bo (f_X3_keep 0 mem) fun m3 => mi_g (m3.2.2 0 < mi_n 8) (mi_bo (f_X5_act 0 (m3.2.2 0) p0 p1 p2 m3) fun m5 => mi_g ((1 : Int32) = 0 ∨ (1 : Int32) = 1) (some ((1 : Int32), m5))))
set_option maxRecDepth 100000 in
set_option maxHeartbeats 4000000 in
theorem w_X11_doByHand (p0 : Int32) (p1 : Int32) (p2 : Int32) (mem : mi_M) (a : Int32 × mi_M) (e : f_X11_doByHand p0 p1 p2 mem = some a) : mi_Ci (7) mX11_doByHand [vr 11 0, vi p0, vi p1, vi p2] mem (fun x m' => x = a.1 ∧ m' = a.2) := by
  unfold mi_Ci
  refine mi_C_intro (ls := [(0, vr 11 0), (1, vi p0), (2, vi p1), (3, vi p2)]) (by decide) rfl rfl ?_
  obtain ⟨Q0, hq0, h⟩ : ∃ Q0 : (Int32 × mi_M) → Prop, (∀ b, Q0 b → b = a) ∧ wo (f_X11_doByHand p0 p1 p2 mem) Q0 := ⟨fun b => b = a, fun _ h => h, wo_eq e⟩
  obtain ⟨QX, hQX⟩ : ∃ QX : Option mi_V → mi_M → Prop, QX = (fun r m' => ∃ x, r = some (vi x) ∧ x = a.1 ∧ m' = a.2) := ⟨_, rfl⟩
  rw [← hQX]
  unfold f_X11_doByHand at h
  refine x_aload_n (pc := 0) dX11_doByHand_0 rfl ?_
  refine x_getC (pc := 1) dX11_doByHand_1 fX11_19 rfl (by decide) ?_
  refine x_aload_n (pc := 4) dX11_doByHand_4 rfl ?_
  obtain ⟨hm1, h⟩ := wo_g h
  refine x_getM (pc := 5) dX11_doByHand_5 fX11_54 rfl (by decide) ?_
  refine x_iload_n (pc := 8) dX11_doByHand_8 rfl ?_
  refine x_iload_n (pc := 9) dX11_doByHand_9 rfl ?_
  refine x_iload_n (pc := 10) dX11_doByHand_10 rfl ?_
  refine z_Vi4 (pc := 11) h dX11_doByHand_11 lX11_194 (by decide) (by omega) rfl (fun a e => w_X5_may _ _ _ _ _ (by decide) hm1 _ a e) (fun v2 h => ?_)
  refine x_if_ne (pc := 14) dX11_doByHand_14 (tgt := 19) (by decide) (fun c8 => ?_) (fun c8 => ?_)
  · replace h := wo_neg c8 h
    refine x_aload_n (pc := 19) dX11_doByHand_19 rfl ?_
    refine x_getC (pc := 20) dX11_doByHand_20 fX11_26 rfl (by decide) ?_
    refine x_aload_n (pc := 23) dX11_doByHand_23 rfl ?_
    refine x_getC (pc := 24) dX11_doByHand_24 fX11_19 rfl (by decide) ?_
    refine y_Vv1 (pc := 27) h dX11_doByHand_27 lX11_187 (by decide) (by omega) rfl (fun a e => w_X3_keep _ (by decide) _ a e) (fun m3 h => ?_)
    refine x_aload_n (pc := 30) dX11_doByHand_30 rfl ?_
    refine x_getC (pc := 31) dX11_doByHand_31 fX11_19 rfl (by decide) ?_
    refine x_aload_n (pc := 34) dX11_doByHand_34 rfl ?_
    obtain ⟨hm4, h⟩ := wo_g h
    refine x_getM (pc := 35) dX11_doByHand_35 fX11_54 rfl (by decide) ?_
    refine x_iload_n (pc := 38) dX11_doByHand_38 rfl ?_
    refine x_iload_n (pc := 39) dX11_doByHand_39 rfl ?_
    refine x_iload_n (pc := 40) dX11_doByHand_40 rfl ?_
    refine y_Vv4 (pc := 41) h dX11_doByHand_41 lX11_198 (by decide) (by omega) rfl (fun a e => w_X5_act _ _ _ _ _ (by decide) hm4 _ a e) (fun m5 h => ?_)
    refine x_iconst (pc := 44) dX11_doByHand_44 (v := (1 : Int32)) (by decide) ?_
    obtain ⟨hb6, h⟩ := wo_g h
    exact x_zretB (pc := 45) dX11_doByHand_45 rfl hb6 (by rw [hQX]; exact ⟨_, rfl, congrArg Prod.fst (hq0 _ (wo_some h)), congrArg Prod.snd (hq0 _ (wo_some h))⟩)
  · replace h := wo_pos c8 h
    refine x_iconst (pc := 17) dX11_doByHand_17 (v := (0 : Int32)) (by decide) ?_
    obtain ⟨hb7, h⟩ := wo_g h
    exact x_zretB (pc := 18) dX11_doByHand_18 rfl hb7 (by rw [hQX]; exact ⟨_, rfl, congrArg Prod.fst (hq0 _ (wo_some h)), congrArg Prod.snd (hq0 _ (wo_some h))⟩)
noncomputable def f_X11_isWithin_J15 (u1 : Int32) : Option (Int32) := mi_g (u1 = 0 ∨ u1 = 1) (some u1)
noncomputable def f_X11_isWithin_J14 : Option (Int32) := f_X11_isWithin_J15 (0 : Int32)
noncomputable def f_X11_isWithin (p0 : Int32) (p1 : Int32) (p2 : Int32) (mem : mi_M) : Option (Int32) := if p0 < p1 then f_X11_isWithin_J14 else if p2 < p0 then f_X11_isWithin_J14 else f_X11_isWithin_J15 (1 : Int32)
set_option maxRecDepth 100000 in
set_option maxHeartbeats 4000000 in
theorem w_X11_isWithin (p0 : Int32) (p1 : Int32) (p2 : Int32) (mem : mi_M) (a : Int32) (e : f_X11_isWithin p0 p1 p2 mem = some a) : mi_Ci (1) mX11_isWithin [vi p0, vi p1, vi p2] mem (fun x m' => x = a ∧ m' = mem) := by
  unfold mi_Ci
  refine mi_C_intro (ls := [(0, vi p0), (1, vi p1), (2, vi p2)]) (by decide) rfl rfl ?_
  obtain ⟨Q0, hq0, h⟩ : ∃ Q0 : Int32 → Prop, (∀ b, Q0 b → b = a) ∧ wo (f_X11_isWithin p0 p1 p2 mem) Q0 := ⟨fun b => b = a, fun _ h => h, wo_eq e⟩
  obtain ⟨QX, hQX⟩ : ∃ QX : Option mi_V → mi_M → Prop, QX = (fun r m' => ∃ x, r = some (vi x) ∧ x = a ∧ m' = mem) := ⟨_, rfl⟩
  rw [← hQX]
  unfold f_X11_isWithin at h
  refine x_iload_n (pc := 0) dX11_isWithin_0 rfl ?_
  refine x_iload_n (pc := 1) dX11_isWithin_1 rfl ?_
  have j15 : ∀ (u1 : Int32), wo (f_X11_isWithin_J15 u1) Q0 → mi_X mX11_isWithin (1) 15 [] [vi u1] mem QX := by
    intro u1 h
    unfold f_X11_isWithin_J15 at h
    obtain ⟨hb2, h⟩ := wo_g h
    exact x_zretB (pc := 15) dX11_isWithin_15 rfl hb2 (by rw [hQX]; exact ⟨_, rfl, hq0 _ (wo_some h), rfl⟩)
  have j14 : wo (f_X11_isWithin_J14) Q0 → mi_X mX11_isWithin (1) 14 [] [] mem QX := by
    intro h
    unfold f_X11_isWithin_J14 at h
    refine x_iconst (pc := 14) dX11_isWithin_14 (v := (0 : Int32)) (by decide) ?_
    refine x_sub [] trivial ?_
    exact j15 _ h
  refine x_icmp_lt (pc := 2) dX11_isWithin_2 (tgt := 14) (by decide) (fun c4 => ?_) (fun c4 => ?_)
  · replace h := wo_pos c4 h
    refine x_sub [] trivial ?_
    exact j14 h
  · replace h := wo_neg c4 h
    refine x_iload_n (pc := 5) dX11_isWithin_5 rfl ?_
    refine x_iload_n (pc := 6) dX11_isWithin_6 rfl ?_
    refine x_icmp_gt (pc := 7) dX11_isWithin_7 (tgt := 14) (by decide) (fun c3 => ?_) (fun c3 => ?_)
    · replace h := wo_pos c3 h
      refine x_sub [] trivial ?_
      exact j14 h
    · replace h := wo_neg c3 h
      refine x_iconst (pc := 10) dX11_isWithin_10 (v := (1 : Int32)) (by decide) ?_
      refine x_goto (pc := 11) dX11_isWithin_11 (tgt := 15) (by decide) ?_
      refine x_sub [] trivial ?_
      exact j15 _ h
noncomputable def f_X8_hasWrong (i0 : Nat) (p0 : Int32) (mem : mi_M) : Option (Int32) := mi_bo (f_X11_isWithin p0 (0 : Int32) ((mem.1 8 i0 1) - (1 : Int32)) mem) fun v1 => mi_g (v1 = 0 ∨ v1 = 1) (some v1)
set_option maxRecDepth 100000 in
set_option maxHeartbeats 4000000 in
theorem w_X8_hasWrong (i0 : Nat) (p0 : Int32) (hi0 : i0 < mi_n 8) (mem : mi_M) (a : Int32) (e : f_X8_hasWrong i0 p0 mem = some a) : mi_Ci (2) mX8_hasWrong [vr 8 i0, vi p0] mem (fun x m' => x = a ∧ m' = mem) := by
  unfold mi_Ci
  refine mi_C_intro (ls := [(0, vr 8 i0), (1, vi p0)]) (by decide) rfl rfl ?_
  obtain ⟨Q0, hq0, h⟩ : ∃ Q0 : Int32 → Prop, (∀ b, Q0 b → b = a) ∧ wo (f_X8_hasWrong i0 p0 mem) Q0 := ⟨fun b => b = a, fun _ h => h, wo_eq e⟩
  obtain ⟨QX, hQX⟩ : ∃ QX : Option mi_V → mi_M → Prop, QX = (fun r m' => ∃ x, r = some (vi x) ∧ x = a ∧ m' = mem) := ⟨_, rfl⟩
  rw [← hQX]
  unfold f_X8_hasWrong at h
  refine x_iload_n (pc := 0) dX8_hasWrong_0 rfl ?_
  refine x_iconst (pc := 1) dX8_hasWrong_1 (v := (0 : Int32)) (by decide) ?_
  refine x_aload_n (pc := 2) dX8_hasWrong_2 rfl ?_
  refine x_getI (pc := 3) dX8_hasWrong_3 fX8_49 rfl hi0 ?_
  refine x_iconst (pc := 6) dX8_hasWrong_6 (v := (1 : Int32)) (by decide) ?_
  refine x_isub (pc := 7) dX8_hasWrong_7 ?_
  refine z_Ni3 (pc := 8) h dX8_hasWrong_8 nX8_65 (by omega) rfl (fun a e => w_X11_isWithin _ _ _ _ a e) (fun v1 h => ?_)
  obtain ⟨hb2, h⟩ := wo_g h
  exact x_zretB (pc := 11) dX8_hasWrong_11 rfl hb2 (by rw [hQX]; exact ⟨_, rfl, hq0 _ (wo_some h), rfl⟩)
noncomputable def f_X11_ask_J21 (m3 : mi_M) : Option (Int32 × mi_M) := some ((-1 : Int32), m3)
noncomputable def f_X11_ask_J39 (m5 : mi_M) (u7 : Int32) : Option (Int32 × mi_M) := some (u7, m5)
noncomputable def f_X11_ask (p0 : Int32) (mem : mi_M) : Option (Int32 × mi_M) := mi_g (mem.2.2 0 < mi_n 8) (mi_bo (f_X8_hasWrong (mem.2.2 0) p0 mem) fun v2 => if v2 = 0 then f_X11_ask_J21 mem else mi_b (f_X11_doByHand (2 : Int32) p0 (0 : Int32) mem) fun v4 m5 => if v4 = 0 then f_X11_ask_J21 m5 else mi_bo (f_X5_isForgiven 0 p0 m5) fun v6 => if v6 = 0 then f_X11_ask_J39 m5 (0 : Int32) else f_X11_ask_J39 m5 (1 : Int32))
set_option maxRecDepth 100000 in
set_option maxHeartbeats 4000000 in
theorem w_X11_ask (p0 : Int32) (mem : mi_M) (a : Int32 × mi_M) (e : f_X11_ask p0 mem = some a) : mi_Ci (8) mX11_ask [vr 11 0, vi p0] mem (fun x m' => x = a.1 ∧ m' = a.2) := by
  unfold mi_Ci
  refine mi_C_intro (ls := [(0, vr 11 0), (1, vi p0)]) (by decide) rfl rfl ?_
  obtain ⟨Q0, hq0, h⟩ : ∃ Q0 : (Int32 × mi_M) → Prop, (∀ b, Q0 b → b = a) ∧ wo (f_X11_ask p0 mem) Q0 := ⟨fun b => b = a, fun _ h => h, wo_eq e⟩
  obtain ⟨QX, hQX⟩ : ∃ QX : Option mi_V → mi_M → Prop, QX = (fun r m' => ∃ x, r = some (vi x) ∧ x = a.1 ∧ m' = a.2) := ⟨_, rfl⟩
  rw [← hQX]
  unfold f_X11_ask at h
  refine x_aload_n (pc := 0) dX11_ask_0 rfl ?_
  obtain ⟨hm1, h⟩ := wo_g h
  refine x_getM (pc := 1) dX11_ask_1 fX11_54 rfl (by decide) ?_
  refine x_iload_n (pc := 4) dX11_ask_4 rfl ?_
  refine z_Vi1 (pc := 5) h dX11_ask_5 lX11_123 hm1 (by omega) rfl (fun a e => w_X8_hasWrong _ _ hm1 _ a e) (fun v2 h => ?_)
  have j21 : ∀ (m3 : mi_M), wo (f_X11_ask_J21 m3) Q0 → mi_X mX11_ask (8) 21 [] [] m3 QX := by
    intro m3 h
    unfold f_X11_ask_J21 at h
    refine x_iconst (pc := 21) dX11_ask_21 (v := (-1 : Int32)) (by decide) ?_
    exact x_iret (pc := 22) dX11_ask_22 rfl (by rw [hQX]; exact ⟨_, rfl, congrArg Prod.fst (hq0 _ (wo_some h)), congrArg Prod.snd (hq0 _ (wo_some h))⟩)
  refine x_if_eq (pc := 8) dX11_ask_8 (tgt := 21) (by decide) (fun c10 => ?_) (fun c10 => ?_)
  · replace h := wo_pos c10 h
    refine x_sub [] trivial ?_
    exact j21 _ h
  · replace h := wo_neg c10 h
    refine x_aload_n (pc := 11) dX11_ask_11 rfl ?_
    refine x_iconst (pc := 12) dX11_ask_12 (v := (2 : Int32)) (by decide) ?_
    refine x_iload_n (pc := 13) dX11_ask_13 rfl ?_
    refine x_iconst (pc := 14) dX11_ask_14 (v := (0 : Int32)) (by decide) ?_
    refine y_Vi3 (pc := 15) h dX11_ask_15 lX11_181 (by decide) (by omega) rfl (fun a e => w_X11_doByHand _ _ _ _ a e) (fun v4 m5 h => ?_)
    refine x_if_ne (pc := 18) dX11_ask_18 (tgt := 23) (by decide) (fun c9 => ?_) (fun c9 => ?_)
    · replace h := wo_neg c9 h
      refine x_aload_n (pc := 23) dX11_ask_23 rfl ?_
      refine x_getC (pc := 24) dX11_ask_24 fX11_19 rfl (by decide) ?_
      refine x_iload_n (pc := 27) dX11_ask_27 rfl ?_
      refine z_Vi1 (pc := 28) h dX11_ask_28 lX11_138 (by decide) (by omega) rfl (fun a e => w_X5_isForgiven _ _ (by decide) _ a e) (fun v6 h => ?_)
      have j39 : ∀ (u7 : Int32), wo (f_X11_ask_J39 m5 u7) Q0 → mi_X mX11_ask (8) 39 [] [vi u7] m5 QX := by
        intro u7 h
        unfold f_X11_ask_J39 at h
        exact x_iret (pc := 39) dX11_ask_39 rfl (by rw [hQX]; exact ⟨_, rfl, congrArg Prod.fst (hq0 _ (wo_some h)), congrArg Prod.snd (hq0 _ (wo_some h))⟩)
      refine x_if_eq (pc := 31) dX11_ask_31 (tgt := 38) (by decide) (fun c8 => ?_) (fun c8 => ?_)
      · replace h := wo_pos c8 h
        refine x_iconst (pc := 38) dX11_ask_38 (v := (0 : Int32)) (by decide) ?_
        refine x_sub [] trivial ?_
        exact j39 _ h
      · replace h := wo_neg c8 h
        refine x_iconst (pc := 34) dX11_ask_34 (v := (1 : Int32)) (by decide) ?_
        refine x_goto (pc := 35) dX11_ask_35 (tgt := 39) (by decide) ?_
        refine x_sub [] trivial ?_
        exact j39 _ h
    · replace h := wo_pos c9 h
      refine x_sub [] trivial ?_
      exact j21 _ h
noncomputable def f_X2_firstBy_J35 (l2 : Int32) : Option ((Int32) ⊕ (Int32 ⊕ Unit)) := some (.inl (l2 + (1 : Int32)))
noncomputable def f_X2_firstBy_B2 (p0 : Nat) (p1 : Int32) (p2 : Int32) (mem : mi_M) : Int32 → Option ((Int32) ⊕ (Int32 ⊕ Unit)) := fun l2 => if (mem.1 8 p0 1) ≤ l2 then some (.inr (.inr ())) else mi_bo (f_X11_holds p1 l2 mem) fun v3 => if v3 = 0 then f_X2_firstBy_J35 l2 else if p2 = (-1 : Int32) then some (.inr (.inl l2)) else mi_g (vp_in l2 8) (if (mem.1 41 p0 l2.toNatClampNeg) = p2 then some (.inr (.inl l2)) else f_X2_firstBy_J35 l2)
noncomputable def f_X2_firstBy_K2 : (Int32 ⊕ Unit) → Option (Int32) := fun e => match e with | (.inl e1) => some e1 | (.inr ()) => some (-1 : Int32)
noncomputable def f_X2_firstBy (p0 : Nat) (p1 : Int32) (p2 : Int32) (mem : mi_M) : Option (Int32) := mi_bo (mi_lp (f_X2_firstBy_B2 p0 p1 p2 mem) mi_fu (0 : Int32)) (f_X2_firstBy_K2)
set_option maxRecDepth 100000 in
set_option maxHeartbeats 4000000 in
theorem w_X2_firstBy (p0 : Nat) (p1 : Int32) (p2 : Int32) (hp0 : p0 < mi_n 8) (mem : mi_M) (a : Int32) (e : f_X2_firstBy p0 p1 p2 mem = some a) : mi_Ci (2) mX2_firstBy [vr 8 p0, vi p1, vi p2] mem (fun x m' => x = a ∧ m' = mem) := by
  unfold mi_Ci
  refine mi_C_intro (ls := [(0, vr 8 p0), (1, vi p1), (2, vi p2)]) (by decide) rfl rfl ?_
  obtain ⟨Q0, hq0, h⟩ : ∃ Q0 : Int32 → Prop, (∀ b, Q0 b → b = a) ∧ wo (f_X2_firstBy p0 p1 p2 mem) Q0 := ⟨fun b => b = a, fun _ h => h, wo_eq e⟩
  obtain ⟨QX, hQX⟩ : ∃ QX : Option mi_V → mi_M → Prop, QX = (fun r m' => ∃ x, r = some (vi x) ∧ x = a ∧ m' = mem) := ⟨_, rfl⟩
  rw [← hQX]
  unfold f_X2_firstBy at h
  refine x_iconst (pc := 0) dX2_firstBy_0 (v := (0 : Int32)) (by decide) ?_
  refine x_istore_n (ls' := [(3, _), (0, _), (1, _), (2, _)]) (pc := 1) dX2_firstBy_1 rfl rfl rfl ?_
  have k2_0 : ∀ (e1 : Int32), wo (f_X2_firstBy_K2 (.inl e1)) Q0 → mi_X mX2_firstBy (2) 33 [(3, vi e1)] [] mem QX := by
    intro e1 h
    unfold f_X2_firstBy_K2 at h
    try dsimp only at h
    refine x_iload_n (pc := 33) dX2_firstBy_33 rfl ?_
    exact x_iret (pc := 34) dX2_firstBy_34 rfl (by rw [hQX]; exact ⟨_, rfl, hq0 _ (wo_some h), rfl⟩)
  have k2_1 : ∀ (_ : Unit), wo (f_X2_firstBy_K2 (.inr ())) Q0 → mi_X mX2_firstBy (2) 41 [] [] mem QX := by
    intro _ h
    unfold f_X2_firstBy_K2 at h
    try dsimp only at h
    refine x_iconst (pc := 41) dX2_firstBy_41 (v := (-1 : Int32)) (by decide) ?_
    exact x_iret (pc := 42) dX2_firstBy_42 rfl (by rw [hQX]; exact ⟨_, rfl, hq0 _ (wo_some h), rfl⟩)
  refine x_sub [(0, _), (1, _), (2, _), (3, _)] ⟨rfl, rfl, rfl, rfl, trivial⟩ ?_
  obtain ⟨ea, eb, h⟩ := wo_bo h
  refine wo_lq (X := fun l2 => mi_X mX2_firstBy (2) 2 [(0, vr 8 p0), (1, vi p1), (2, vi p2), (3, vi l2)] [] mem QX) (E := fun e => wo (f_X2_firstBy_K2 e) Q0) ?_ _ (0 : Int32) ⟨_, eb, h⟩
  intro Q2 hb2 he2 s h
  obtain ⟨l2, rfl⟩ : ∃ z, z = s := ⟨_, rfl⟩
  show mi_X mX2_firstBy (2) 2 [(0, vr 8 p0), (1, vi p1), (2, vi p2), (3, vi l2)] [] mem QX
  unfold f_X2_firstBy_B2 at h
  try dsimp only at h
  refine x_iload_n (pc := 2) dX2_firstBy_2 rfl ?_
  refine x_aload_n (pc := 3) dX2_firstBy_3 rfl ?_
  refine x_getI (pc := 4) dX2_firstBy_4 fX2_40 rfl hp0 ?_
  refine x_icmp_ge (pc := 7) dX2_firstBy_7 (tgt := 41) (by decide) (fun c8 => ?_) (fun c8 => ?_)
  · replace h := wo_pos c8 h
    refine x_sub [] trivial ?_
    exact k2_1 () (he2 (.inr ()) (wo_some h))
  · replace h := wo_neg c8 h
    refine x_iload_n (pc := 10) dX2_firstBy_10 rfl ?_
    refine x_iload_n (pc := 11) dX2_firstBy_11 rfl ?_
    refine z_Ni2 (pc := 12) h dX2_firstBy_12 nX2_96 (by omega) rfl (fun a e => w_X11_holds _ _ _ a e) (fun v3 h => ?_)
    have j35 : wo (f_X2_firstBy_J35 l2) Q2 → mi_X mX2_firstBy (2) 35 [(0, vr 8 p0), (1, vi p1), (2, vi p2), (3, vi l2)] [] mem QX := by
      intro h
      unfold f_X2_firstBy_J35 at h
      refine x_iinc (ls' := [(3, _), (0, _), (1, _), (2, _)]) (pc := 35) dX2_firstBy_35 rfl (v := l2 + (1 : Int32)) rfl rfl rfl ?_
      refine x_goto (pc := 38) dX2_firstBy_38 (tgt := 2) (by decide) ?_
      refine x_sub [(0, _), (1, _), (2, _), (3, _)] ⟨rfl, rfl, rfl, rfl, trivial⟩ ?_
      exact hb2 (l2 + (1 : Int32)) (wo_some h)
    refine x_if_eq (pc := 15) dX2_firstBy_15 (tgt := 35) (by decide) (fun c7 => ?_) (fun c7 => ?_)
    · replace h := wo_pos c7 h
      refine x_sub [(0, _), (1, _), (2, _), (3, _)] ⟨rfl, rfl, rfl, rfl, trivial⟩ ?_
      exact j35 h
    · replace h := wo_neg c7 h
      refine x_iload_n (pc := 18) dX2_firstBy_18 rfl ?_
      refine x_iconst (pc := 19) dX2_firstBy_19 (v := (-1 : Int32)) (by decide) ?_
      refine x_icmp_eq (pc := 20) dX2_firstBy_20 (tgt := 33) (by decide) (fun c6 => ?_) (fun c6 => ?_)
      · replace h := wo_pos c6 h
        refine x_sub [(3, _)] ⟨rfl, trivial⟩ ?_
        exact k2_0 _ (he2 (.inl l2) (wo_some h))
      · replace h := wo_neg c6 h
        refine x_aload_n (pc := 23) dX2_firstBy_23 rfl ?_
        refine x_getS (pc := 24) dX2_firstBy_24 fX2_100 rfl hp0 ?_
        refine x_iload_n (pc := 27) dX2_firstBy_27 rfl ?_
        obtain ⟨hx4, h⟩ := wo_g h
        refine x_ialdJ (pc := 28) dX2_firstBy_28 rfl rfl hp0 hx4 ?_
        refine x_iload_n (pc := 29) dX2_firstBy_29 rfl ?_
        refine x_icmp_ne (pc := 30) dX2_firstBy_30 (tgt := 35) (by decide) (fun c5 => ?_) (fun c5 => ?_)
        · replace h := wo_neg c5 h
          refine x_sub [(0, _), (1, _), (2, _), (3, _)] ⟨rfl, rfl, rfl, rfl, trivial⟩ ?_
          exact j35 h
        · replace h := wo_pos c5 h
          refine x_sub [(3, _)] ⟨rfl, trivial⟩ ?_
          exact k2_0 _ (he2 (.inl l2) (wo_some h))
noncomputable def f_X2_goesRound_J92 (u5 : Int32) : Option (Int32) := mi_g (u5 = 0 ∨ u5 = 1) (some u5)
noncomputable def f_X2_goesRound_J91 : Option (Int32) := f_X2_goesRound_J92 (0 : Int32)
noncomputable def f_X2_goesRound_J52 (p0 : Nat) (mem : mi_M) (l11 : Int32) (l12 : Int32) (v13 : Int32) (u14 : Int32) : Option ((Int32 × Int32 × Int32 × Int32) ⊕ (Unit ⊕ (Int32 × Int32 × Int32))) := mi_g (vp_in v13 8) (mi_let (mem.1 42 p0 v13.toNatClampNeg) fun v16 => mi_let (l11 &&& (((1 : Int32) <<< (v13 &&& 31)) ^^^ (-1 : Int32))) fun v17 => some (.inl (u14, v16, v17, (l12 + (1 : Int32)))))
noncomputable def f_X2_goesRound_B10 (p0 : Nat) (mem : mi_M) : (Int32 × Int32 × Int32 × Int32) → Option ((Int32 × Int32 × Int32 × Int32) ⊕ (Unit ⊕ (Int32 × Int32 × Int32))) := fun s => match s with | (l9, l10, l11, l12) => if (8 : Int32) ≤ l12 then some (.inr (.inr (l9, l10, l11))) else if l11 = 0 then some (.inr (.inr (l9, l10, l11))) else mi_bo (f_X2_firstBy p0 l11 l10 mem) fun v13 => if v13 = (-1 : Int32) then some (.inr (.inl ())) else if l9 = (-1 : Int32) then mi_g (vp_in v13 8) (mi_let (mem.1 41 p0 v13.toNatClampNeg) fun v19 => f_X2_goesRound_J52 p0 mem l11 l12 v13 v19) else f_X2_goesRound_J52 p0 mem l11 l12 v13 l9
noncomputable def f_X2_goesRound_K10 : (Unit ⊕ (Int32 × Int32 × Int32)) → Option (Int32) := fun e => match e with | (.inl ()) => mi_g ((0 : Int32) = 0 ∨ (0 : Int32) = 1) (some (0 : Int32)) | (.inr (e2, e3, e4)) => if e4 = 0 then if e3 = e2 then f_X2_goesRound_J92 (1 : Int32) else f_X2_goesRound_J91 else f_X2_goesRound_J91
noncomputable def f_X2_goesRound (p0 : Nat) (p1 : Int32) (mem : mi_M) : Option (Int32) := mi_bo (mi_lp (f_X2_goesRound_B10 p0 mem) mi_fu ((-1 : Int32), (-1 : Int32), p1, (0 : Int32))) (f_X2_goesRound_K10)
set_option maxRecDepth 100000 in
set_option maxHeartbeats 4000000 in
theorem w_X2_goesRound (p0 : Nat) (p1 : Int32) (hp0 : p0 < mi_n 8) (mem : mi_M) (a : Int32) (e : f_X2_goesRound p0 p1 mem = some a) : mi_Ci (3) mX2_goesRound [vr 8 p0, vi p1] mem (fun x m' => x = a ∧ m' = mem) := by
  unfold mi_Ci
  refine mi_C_intro (ls := [(0, vr 8 p0), (1, vi p1)]) (by decide) rfl rfl ?_
  obtain ⟨Q0, hq0, h⟩ : ∃ Q0 : Int32 → Prop, (∀ b, Q0 b → b = a) ∧ wo (f_X2_goesRound p0 p1 mem) Q0 := ⟨fun b => b = a, fun _ h => h, wo_eq e⟩
  obtain ⟨QX, hQX⟩ : ∃ QX : Option mi_V → mi_M → Prop, QX = (fun r m' => ∃ x, r = some (vi x) ∧ x = a ∧ m' = mem) := ⟨_, rfl⟩
  rw [← hQX]
  unfold f_X2_goesRound at h
  refine x_iconst (pc := 0) dX2_goesRound_0 (v := (-1 : Int32)) (by decide) ?_
  refine x_istore_n (ls' := [(2, _), (0, _), (1, _)]) (pc := 1) dX2_goesRound_1 rfl rfl rfl ?_
  refine x_iconst (pc := 2) dX2_goesRound_2 (v := (-1 : Int32)) (by decide) ?_
  refine x_istore_n (ls' := [(3, _), (2, _), (0, _), (1, _)]) (pc := 3) dX2_goesRound_3 rfl rfl rfl ?_
  refine x_iload_n (pc := 4) dX2_goesRound_4 rfl ?_
  refine x_istore (ls' := [(4, _), (3, _), (2, _), (0, _), (1, _)]) (pc := 5) dX2_goesRound_5 rfl rfl ?_
  refine x_iconst (pc := 7) dX2_goesRound_7 (v := (0 : Int32)) (by decide) ?_
  refine x_istore (ls' := [(5, _), (4, _), (3, _), (2, _), (0, _), (1, _)]) (pc := 8) dX2_goesRound_8 rfl rfl ?_
  have k10_0 : ∀ (_ : Unit), wo (f_X2_goesRound_K10 (.inl ())) Q0 → mi_X mX2_goesRound (3) 37 [] [] mem QX := by
    intro _ h
    unfold f_X2_goesRound_K10 at h
    try dsimp only at h
    refine x_iconst (pc := 37) dX2_goesRound_37 (v := (0 : Int32)) (by decide) ?_
    obtain ⟨hb1, h⟩ := wo_g h
    exact x_zretB (pc := 38) dX2_goesRound_38 rfl hb1 (by rw [hQX]; exact ⟨_, rfl, hq0 _ (wo_some h), rfl⟩)
  have k10_1 : ∀ (e2 : Int32) (e3 : Int32) (e4 : Int32), wo (f_X2_goesRound_K10 (.inr (e2, e3, e4))) Q0 → mi_X mX2_goesRound (3) 77 [(2, vi e2), (3, vi e3), (4, vi e4)] [] mem QX := by
    intro e2 e3 e4 h
    unfold f_X2_goesRound_K10 at h
    try dsimp only at h
    refine x_iload (pc := 77) dX2_goesRound_77 rfl ?_
    have j92 : ∀ (u5 : Int32), wo (f_X2_goesRound_J92 u5) Q0 → mi_X mX2_goesRound (3) 92 [] [vi u5] mem QX := by
      intro u5 h
      unfold f_X2_goesRound_J92 at h
      obtain ⟨hb6, h⟩ := wo_g h
      exact x_zretB (pc := 92) dX2_goesRound_92 rfl hb6 (by rw [hQX]; exact ⟨_, rfl, hq0 _ (wo_some h), rfl⟩)
    have j91 : wo (f_X2_goesRound_J91) Q0 → mi_X mX2_goesRound (3) 91 [] [] mem QX := by
      intro h
      unfold f_X2_goesRound_J91 at h
      refine x_iconst (pc := 91) dX2_goesRound_91 (v := (0 : Int32)) (by decide) ?_
      refine x_sub [] trivial ?_
      exact j92 _ h
    refine x_if_ne (pc := 79) dX2_goesRound_79 (tgt := 91) (by decide) (fun c8 => ?_) (fun c8 => ?_)
    · replace h := wo_neg c8 h
      refine x_sub [] trivial ?_
      exact j91 h
    · replace h := wo_pos c8 h
      refine x_iload_n (pc := 82) dX2_goesRound_82 rfl ?_
      refine x_iload_n (pc := 83) dX2_goesRound_83 rfl ?_
      refine x_icmp_ne (pc := 84) dX2_goesRound_84 (tgt := 91) (by decide) (fun c7 => ?_) (fun c7 => ?_)
      · replace h := wo_neg c7 h
        refine x_sub [] trivial ?_
        exact j91 h
      · replace h := wo_pos c7 h
        refine x_iconst (pc := 87) dX2_goesRound_87 (v := (1 : Int32)) (by decide) ?_
        refine x_goto (pc := 88) dX2_goesRound_88 (tgt := 92) (by decide) ?_
        refine x_sub [] trivial ?_
        exact j92 _ h
  refine x_sub [(0, _), (2, _), (3, _), (4, _), (5, _)] ⟨rfl, rfl, rfl, rfl, rfl, trivial⟩ ?_
  obtain ⟨ea, eb, h⟩ := wo_bo h
  refine wo_lq (X := fun s => match s with | (l9, l10, l11, l12) => mi_X mX2_goesRound (3) 10 [(0, vr 8 p0), (2, vi l9), (3, vi l10), (4, vi l11), (5, vi l12)] [] mem QX) (E := fun e => wo (f_X2_goesRound_K10 e) Q0) ?_ _ ((-1 : Int32), (-1 : Int32), p1, (0 : Int32)) ⟨_, eb, h⟩
  intro Q10 hb10 he10 s h
  obtain ⟨l9, l10, l11, l12⟩ := s
  show mi_X mX2_goesRound (3) 10 [(0, vr 8 p0), (2, vi l9), (3, vi l10), (4, vi l11), (5, vi l12)] [] mem QX
  unfold f_X2_goesRound_B10 at h
  try dsimp only at h
  refine x_iload (pc := 10) dX2_goesRound_10 rfl ?_
  refine x_bipush (pc := 12) dX2_goesRound_12 (v := (8 : Int32)) (by decide) ?_
  refine x_icmp_ge (pc := 14) dX2_goesRound_14 (tgt := 77) (by decide) (fun c23 => ?_) (fun c23 => ?_)
  · replace h := wo_pos c23 h
    refine x_sub [(2, _), (3, _), (4, _)] ⟨rfl, rfl, rfl, trivial⟩ ?_
    exact k10_1 _ _ _ (he10 (.inr (l9, l10, l11)) (wo_some h))
  · replace h := wo_neg c23 h
    refine x_iload (pc := 17) dX2_goesRound_17 rfl ?_
    refine x_if_eq (pc := 19) dX2_goesRound_19 (tgt := 77) (by decide) (fun c22 => ?_) (fun c22 => ?_)
    · replace h := wo_pos c22 h
      refine x_sub [(2, _), (3, _), (4, _)] ⟨rfl, rfl, rfl, trivial⟩ ?_
      exact k10_1 _ _ _ (he10 (.inr (l9, l10, l11)) (wo_some h))
    · replace h := wo_neg c22 h
      refine x_aload_n (pc := 22) dX2_goesRound_22 rfl ?_
      refine x_iload (pc := 23) dX2_goesRound_23 rfl ?_
      refine x_iload_n (pc := 25) dX2_goesRound_25 rfl ?_
      refine z_Si3 (pc := 26) h dX2_goesRound_26 lX2_130 (by omega) rfl (fun a e => w_X2_firstBy _ _ _ hp0 _ a e) (fun v13 h => ?_)
      refine x_istore (ls' := [(6, _), (0, _), (2, _), (3, _), (4, _), (5, _)]) (pc := 29) dX2_goesRound_29 rfl rfl ?_
      refine x_iload (pc := 31) dX2_goesRound_31 rfl ?_
      refine x_iconst (pc := 33) dX2_goesRound_33 (v := (-1 : Int32)) (by decide) ?_
      refine x_icmp_ne (pc := 34) dX2_goesRound_34 (tgt := 39) (by decide) (fun c21 => ?_) (fun c21 => ?_)
      · replace h := wo_neg c21 h
        refine x_iload_n (pc := 39) dX2_goesRound_39 rfl ?_
        refine x_iconst (pc := 40) dX2_goesRound_40 (v := (-1 : Int32)) (by decide) ?_
        have j52 : ∀ (u14 : Int32), wo (f_X2_goesRound_J52 p0 mem l11 l12 v13 u14) Q10 → mi_X mX2_goesRound (3) 52 [(0, vr 8 p0), (2, vi u14), (4, vi l11), (5, vi l12), (6, vi v13)] [] mem QX := by
          intro u14 h
          unfold f_X2_goesRound_J52 at h
          refine x_aload_n (pc := 52) dX2_goesRound_52 rfl ?_
          refine x_getS (pc := 53) dX2_goesRound_53 fX2_109 rfl hp0 ?_
          refine x_iload (pc := 56) dX2_goesRound_56 rfl ?_
          obtain ⟨hx15, h⟩ := wo_g h
          refine x_ialdJ (pc := 58) dX2_goesRound_58 rfl rfl hp0 hx15 ?_
          refine x_leti h (fun v16 h => ?_)
          refine x_istore_n (ls' := [(3, _), (0, _), (2, _), (4, _), (5, _), (6, _)]) (pc := 59) dX2_goesRound_59 rfl rfl rfl ?_
          refine x_iload (pc := 60) dX2_goesRound_60 rfl ?_
          refine x_iconst (pc := 62) dX2_goesRound_62 (v := (1 : Int32)) (by decide) ?_
          refine x_iload (pc := 63) dX2_goesRound_63 rfl ?_
          refine x_ishl (pc := 65) dX2_goesRound_65 ?_
          refine x_iconst (pc := 66) dX2_goesRound_66 (v := (-1 : Int32)) (by decide) ?_
          refine x_ixor (pc := 67) dX2_goesRound_67 ?_
          refine x_iand (pc := 68) dX2_goesRound_68 ?_
          refine x_leti h (fun v17 h => ?_)
          refine x_istore (ls' := [(4, _), (3, _), (0, _), (2, _), (5, _), (6, _)]) (pc := 69) dX2_goesRound_69 rfl rfl ?_
          refine x_iinc (ls' := [(5, _), (4, _), (3, _), (0, _), (2, _), (6, _)]) (pc := 71) dX2_goesRound_71 rfl (v := l12 + (1 : Int32)) rfl rfl rfl ?_
          refine x_goto (pc := 74) dX2_goesRound_74 (tgt := 10) (by decide) ?_
          refine x_sub [(0, _), (2, _), (3, _), (4, _), (5, _)] ⟨rfl, rfl, rfl, rfl, rfl, trivial⟩ ?_
          exact hb10 (u14, v16, v17, (l12 + (1 : Int32))) (wo_some h)
        refine x_icmp_ne (pc := 41) dX2_goesRound_41 (tgt := 52) (by decide) (fun c20 => ?_) (fun c20 => ?_)
        · replace h := wo_neg c20 h
          refine x_sub [(0, _), (2, _), (4, _), (5, _), (6, _)] ⟨rfl, rfl, rfl, rfl, rfl, trivial⟩ ?_
          exact j52 _ h
        · replace h := wo_pos c20 h
          refine x_aload_n (pc := 44) dX2_goesRound_44 rfl ?_
          refine x_getS (pc := 45) dX2_goesRound_45 fX2_100 rfl hp0 ?_
          refine x_iload (pc := 48) dX2_goesRound_48 rfl ?_
          obtain ⟨hx18, h⟩ := wo_g h
          refine x_ialdJ (pc := 50) dX2_goesRound_50 rfl rfl hp0 hx18 ?_
          refine x_leti h (fun v19 h => ?_)
          refine x_istore_n (ls' := [(2, _), (6, _), (0, _), (3, _), (4, _), (5, _)]) (pc := 51) dX2_goesRound_51 rfl rfl rfl ?_
          refine x_sub [(0, _), (2, _), (4, _), (5, _), (6, _)] ⟨rfl, rfl, rfl, rfl, rfl, trivial⟩ ?_
          exact j52 _ h
      · replace h := wo_pos c21 h
        refine x_sub [] trivial ?_
        exact k10_0 () (he10 (.inl ()) (wo_some h))
noncomputable def f_J6_bitCount_0f7a4 (p0 : Int32) (mem : mi_M) : Option (Int32) := mi_let (p0 - ((((p0).toUInt32 >>> (((1 : Int32) : Int32).toUInt32 &&& Int32.toUInt32 31)).toInt32) &&& (1431655765 : Int32))) fun v1 => mi_let ((v1 &&& (858993459 : Int32)) + ((((v1).toUInt32 >>> (((2 : Int32) : Int32).toUInt32 &&& Int32.toUInt32 31)).toInt32) &&& (858993459 : Int32))) fun v2 => mi_let ((v2 + (((v2).toUInt32 >>> (((4 : Int32) : Int32).toUInt32 &&& Int32.toUInt32 31)).toInt32)) &&& (252645135 : Int32)) fun v3 => mi_let (v3 + (((v3).toUInt32 >>> (((8 : Int32) : Int32).toUInt32 &&& Int32.toUInt32 31)).toInt32)) fun v4 => mi_let (v4 + (((v4).toUInt32 >>> (((16 : Int32) : Int32).toUInt32 &&& Int32.toUInt32 31)).toInt32)) fun v5 => some (v5 &&& (63 : Int32))
set_option maxRecDepth 100000 in
set_option maxHeartbeats 4000000 in
theorem w_J6_bitCount_0f7a4 (p0 : Int32) (mem : mi_M) (a : Int32) (e : f_J6_bitCount_0f7a4 p0 mem = some a) : mi_Ci (1) mJ6_bitCount_0f7a4 [vi p0] mem (fun x m' => x = a ∧ m' = mem) := by
  unfold mi_Ci
  refine mi_C_intro (ls := [(0, vi p0)]) (by decide) rfl rfl ?_
  obtain ⟨Q0, hq0, h⟩ : ∃ Q0 : Int32 → Prop, (∀ b, Q0 b → b = a) ∧ wo (f_J6_bitCount_0f7a4 p0 mem) Q0 := ⟨fun b => b = a, fun _ h => h, wo_eq e⟩
  obtain ⟨QX, hQX⟩ : ∃ QX : Option mi_V → mi_M → Prop, QX = (fun r m' => ∃ x, r = some (vi x) ∧ x = a ∧ m' = mem) := ⟨_, rfl⟩
  rw [← hQX]
  unfold f_J6_bitCount_0f7a4 at h
  refine x_iload_n (pc := 0) dJ6_bitCount_0f7a4_0 rfl ?_
  refine x_iload_n (pc := 1) dJ6_bitCount_0f7a4_1 rfl ?_
  refine x_iconst (pc := 2) dJ6_bitCount_0f7a4_2 (v := (1 : Int32)) (by decide) ?_
  refine x_iushr (pc := 3) dJ6_bitCount_0f7a4_3 rfl ?_
  refine x_ldcw (pc := 4) dJ6_bitCount_0f7a4_4 kJ6_265 ?_
  refine x_iand (pc := 7) dJ6_bitCount_0f7a4_7 ?_
  refine x_isub (pc := 8) dJ6_bitCount_0f7a4_8 ?_
  refine x_leti h (fun v1 h => ?_)
  refine x_istore_n (ls' := [(0, _)]) (pc := 9) dJ6_bitCount_0f7a4_9 rfl rfl rfl ?_
  refine x_iload_n (pc := 10) dJ6_bitCount_0f7a4_10 rfl ?_
  refine x_ldcw (pc := 11) dJ6_bitCount_0f7a4_11 kJ6_266 ?_
  refine x_iand (pc := 14) dJ6_bitCount_0f7a4_14 ?_
  refine x_iload_n (pc := 15) dJ6_bitCount_0f7a4_15 rfl ?_
  refine x_iconst (pc := 16) dJ6_bitCount_0f7a4_16 (v := (2 : Int32)) (by decide) ?_
  refine x_iushr (pc := 17) dJ6_bitCount_0f7a4_17 rfl ?_
  refine x_ldcw (pc := 18) dJ6_bitCount_0f7a4_18 kJ6_266 ?_
  refine x_iand (pc := 21) dJ6_bitCount_0f7a4_21 ?_
  refine x_iadd (pc := 22) dJ6_bitCount_0f7a4_22 ?_
  refine x_leti h (fun v2 h => ?_)
  refine x_istore_n (ls' := [(0, _)]) (pc := 23) dJ6_bitCount_0f7a4_23 rfl rfl rfl ?_
  refine x_iload_n (pc := 24) dJ6_bitCount_0f7a4_24 rfl ?_
  refine x_iload_n (pc := 25) dJ6_bitCount_0f7a4_25 rfl ?_
  refine x_iconst (pc := 26) dJ6_bitCount_0f7a4_26 (v := (4 : Int32)) (by decide) ?_
  refine x_iushr (pc := 27) dJ6_bitCount_0f7a4_27 rfl ?_
  refine x_iadd (pc := 28) dJ6_bitCount_0f7a4_28 ?_
  refine x_ldcw (pc := 29) dJ6_bitCount_0f7a4_29 kJ6_267 ?_
  refine x_iand (pc := 32) dJ6_bitCount_0f7a4_32 ?_
  refine x_leti h (fun v3 h => ?_)
  refine x_istore_n (ls' := [(0, _)]) (pc := 33) dJ6_bitCount_0f7a4_33 rfl rfl rfl ?_
  refine x_iload_n (pc := 34) dJ6_bitCount_0f7a4_34 rfl ?_
  refine x_iload_n (pc := 35) dJ6_bitCount_0f7a4_35 rfl ?_
  refine x_bipush (pc := 36) dJ6_bitCount_0f7a4_36 (v := (8 : Int32)) (by decide) ?_
  refine x_iushr (pc := 38) dJ6_bitCount_0f7a4_38 rfl ?_
  refine x_iadd (pc := 39) dJ6_bitCount_0f7a4_39 ?_
  refine x_leti h (fun v4 h => ?_)
  refine x_istore_n (ls' := [(0, _)]) (pc := 40) dJ6_bitCount_0f7a4_40 rfl rfl rfl ?_
  refine x_iload_n (pc := 41) dJ6_bitCount_0f7a4_41 rfl ?_
  refine x_iload_n (pc := 42) dJ6_bitCount_0f7a4_42 rfl ?_
  refine x_bipush (pc := 43) dJ6_bitCount_0f7a4_43 (v := (16 : Int32)) (by decide) ?_
  refine x_iushr (pc := 45) dJ6_bitCount_0f7a4_45 rfl ?_
  refine x_iadd (pc := 46) dJ6_bitCount_0f7a4_46 ?_
  refine x_leti h (fun v5 h => ?_)
  refine x_istore_n (ls' := [(0, _)]) (pc := 47) dJ6_bitCount_0f7a4_47 rfl rfl rfl ?_
  refine x_iload_n (pc := 48) dJ6_bitCount_0f7a4_48 rfl ?_
  refine x_bipush (pc := 49) dJ6_bitCount_0f7a4_49 (v := (63 : Int32)) (by decide) ?_
  refine x_iand (pc := 51) dJ6_bitCount_0f7a4_51 ?_
  exact x_iret (pc := 52) dJ6_bitCount_0f7a4_52 rfl (by rw [hQX]; exact ⟨_, rfl, hq0 _ (wo_some h), rfl⟩)
noncomputable def f_X2_leastCircle_J55 (l3 : Int32) (u4 : Int32) : Option ((Int32 × Int32) ⊕ (Int32)) := some (.inl (u4, (l3 + (1 : Int32))))
noncomputable def f_X2_leastCircle_J43 (p0 : Nat) (mem : mi_M) (l2 : Int32) (l3 : Int32) : Option ((Int32 × Int32) ⊕ (Int32)) := mi_bo (f_X2_goesRound p0 l3 mem) fun v5 => if v5 = 0 then f_X2_leastCircle_J55 l3 l2 else f_X2_leastCircle_J55 l3 l3
noncomputable def f_X2_leastCircle_B5 (p0 : Nat) (p1 : Nat) (mem : mi_M) : (Int32 × Int32) → Option ((Int32 × Int32) ⊕ (Int32)) := fun s => match s with | (l2, l3) => if ((1 : Int32) <<< ((mem.1 8 p0 1) &&& 31)) ≤ l3 then some (.inr l2) else if (l3 &&& (mem.1 5 p1 2)) = 0 then if l2 = (-1 : Int32) then f_X2_leastCircle_J43 p0 mem l2 l3 else mi_bo (f_J6_bitCount_0f7a4 l3 mem) fun v7 => mi_bo (f_J6_bitCount_0f7a4 l2 mem) fun v8 => if v8 ≤ v7 then f_X2_leastCircle_J55 l3 l2 else f_X2_leastCircle_J43 p0 mem l2 l3 else f_X2_leastCircle_J55 l3 l2
noncomputable def f_X2_leastCircle_K5 : Int32 → Option (Int32) := fun e1 => some e1
noncomputable def f_X2_leastCircle (p0 : Nat) (p1 : Nat) (mem : mi_M) : Option (Int32) := mi_bo (mi_lp (f_X2_leastCircle_B5 p0 p1 mem) mi_fu ((-1 : Int32), (1 : Int32))) (f_X2_leastCircle_K5)
set_option maxRecDepth 100000 in
set_option maxHeartbeats 4000000 in
theorem w_X2_leastCircle (p0 : Nat) (p1 : Nat) (hp0 : p0 < mi_n 8) (hp1 : p1 < mi_n 5) (mem : mi_M) (a : Int32) (e : f_X2_leastCircle p0 p1 mem = some a) : mi_Ci (4) mX2_leastCircle [vr 2 0, vr 8 p0, vr 5 p1] mem (fun x m' => x = a ∧ m' = mem) := by
  unfold mi_Ci
  refine mi_C_intro (ls := [(0, vr 2 0), (1, vr 8 p0), (2, vr 5 p1)]) (by decide) rfl rfl ?_
  obtain ⟨Q0, hq0, h⟩ : ∃ Q0 : Int32 → Prop, (∀ b, Q0 b → b = a) ∧ wo (f_X2_leastCircle p0 p1 mem) Q0 := ⟨fun b => b = a, fun _ h => h, wo_eq e⟩
  obtain ⟨QX, hQX⟩ : ∃ QX : Option mi_V → mi_M → Prop, QX = (fun r m' => ∃ x, r = some (vi x) ∧ x = a ∧ m' = mem) := ⟨_, rfl⟩
  rw [← hQX]
  unfold f_X2_leastCircle at h
  refine x_iconst (pc := 0) dX2_leastCircle_0 (v := (-1 : Int32)) (by decide) ?_
  refine x_istore_n (ls' := [(3, _), (0, _), (1, _), (2, _)]) (pc := 1) dX2_leastCircle_1 rfl rfl rfl ?_
  refine x_iconst (pc := 2) dX2_leastCircle_2 (v := (1 : Int32)) (by decide) ?_
  refine x_istore (ls' := [(4, _), (3, _), (0, _), (1, _), (2, _)]) (pc := 3) dX2_leastCircle_3 rfl rfl ?_
  have k5_0 : ∀ (e1 : Int32), wo (f_X2_leastCircle_K5 e1) Q0 → mi_X mX2_leastCircle (4) 61 [(3, vi e1)] [] mem QX := by
    intro e1 h
    unfold f_X2_leastCircle_K5 at h
    try dsimp only at h
    refine x_iload_n (pc := 61) dX2_leastCircle_61 rfl ?_
    exact x_iret (pc := 62) dX2_leastCircle_62 rfl (by rw [hQX]; exact ⟨_, rfl, hq0 _ (wo_some h), rfl⟩)
  refine x_sub [(1, _), (2, _), (3, _), (4, _)] ⟨rfl, rfl, rfl, rfl, trivial⟩ ?_
  obtain ⟨ea, eb, h⟩ := wo_bo h
  refine wo_lq (X := fun s => match s with | (l2, l3) => mi_X mX2_leastCircle (4) 5 [(1, vr 8 p0), (2, vr 5 p1), (3, vi l2), (4, vi l3)] [] mem QX) (E := fun e => wo (f_X2_leastCircle_K5 e) Q0) ?_ _ ((-1 : Int32), (1 : Int32)) ⟨_, eb, h⟩
  intro Q5 hb5 he5 s h
  obtain ⟨l2, l3⟩ := s
  show mi_X mX2_leastCircle (4) 5 [(1, vr 8 p0), (2, vr 5 p1), (3, vi l2), (4, vi l3)] [] mem QX
  unfold f_X2_leastCircle_B5 at h
  try dsimp only at h
  refine x_iload (pc := 5) dX2_leastCircle_5 rfl ?_
  refine x_iconst (pc := 7) dX2_leastCircle_7 (v := (1 : Int32)) (by decide) ?_
  refine x_aload_n (pc := 8) dX2_leastCircle_8 rfl ?_
  refine x_getI (pc := 9) dX2_leastCircle_9 fX2_40 rfl hp0 ?_
  refine x_ishl (pc := 12) dX2_leastCircle_12 ?_
  refine x_icmp_ge (pc := 13) dX2_leastCircle_13 (tgt := 61) (by decide) (fun c12 => ?_) (fun c12 => ?_)
  · replace h := wo_pos c12 h
    refine x_sub [(3, _)] ⟨rfl, trivial⟩ ?_
    exact k5_0 _ (he5 l2 (wo_some h))
  · replace h := wo_neg c12 h
    refine x_iload (pc := 16) dX2_leastCircle_16 rfl ?_
    refine x_aload_n (pc := 18) dX2_leastCircle_18 rfl ?_
    refine x_getI (pc := 19) dX2_leastCircle_19 fX2_46 rfl hp1 ?_
    refine x_iand (pc := 22) dX2_leastCircle_22 ?_
    have j55 : ∀ (u4 : Int32), wo (f_X2_leastCircle_J55 l3 u4) Q5 → mi_X mX2_leastCircle (4) 55 [(1, vr 8 p0), (2, vr 5 p1), (3, vi u4), (4, vi l3)] [] mem QX := by
      intro u4 h
      unfold f_X2_leastCircle_J55 at h
      refine x_iinc (ls' := [(4, _), (1, _), (2, _), (3, _)]) (pc := 55) dX2_leastCircle_55 rfl (v := l3 + (1 : Int32)) rfl rfl rfl ?_
      refine x_goto (pc := 58) dX2_leastCircle_58 (tgt := 5) (by decide) ?_
      refine x_sub [(1, _), (2, _), (3, _), (4, _)] ⟨rfl, rfl, rfl, rfl, trivial⟩ ?_
      exact hb5 (u4, (l3 + (1 : Int32))) (wo_some h)
    refine x_if_ne (pc := 23) dX2_leastCircle_23 (tgt := 55) (by decide) (fun c11 => ?_) (fun c11 => ?_)
    · replace h := wo_neg c11 h
      refine x_sub [(1, _), (2, _), (3, _), (4, _)] ⟨rfl, rfl, rfl, rfl, trivial⟩ ?_
      exact j55 _ h
    · replace h := wo_pos c11 h
      refine x_iload_n (pc := 26) dX2_leastCircle_26 rfl ?_
      refine x_iconst (pc := 27) dX2_leastCircle_27 (v := (-1 : Int32)) (by decide) ?_
      have j43 : wo (f_X2_leastCircle_J43 p0 mem l2 l3) Q5 → mi_X mX2_leastCircle (4) 43 [(1, vr 8 p0), (2, vr 5 p1), (3, vi l2), (4, vi l3)] [] mem QX := by
        intro h
        unfold f_X2_leastCircle_J43 at h
        refine x_aload_n (pc := 43) dX2_leastCircle_43 rfl ?_
        refine x_iload (pc := 44) dX2_leastCircle_44 rfl ?_
        refine z_Si2 (pc := 46) h dX2_leastCircle_46 lX2_126 (by omega) rfl (fun a e => w_X2_goesRound _ _ hp0 _ a e) (fun v5 h => ?_)
        refine x_if_eq (pc := 49) dX2_leastCircle_49 (tgt := 55) (by decide) (fun c6 => ?_) (fun c6 => ?_)
        · replace h := wo_pos c6 h
          refine x_sub [(1, _), (2, _), (3, _), (4, _)] ⟨rfl, rfl, rfl, rfl, trivial⟩ ?_
          exact j55 _ h
        · replace h := wo_neg c6 h
          refine x_iload (pc := 52) dX2_leastCircle_52 rfl ?_
          refine x_istore_n (ls' := [(3, _), (1, _), (2, _), (4, _)]) (pc := 54) dX2_leastCircle_54 rfl rfl rfl ?_
          refine x_sub [(1, _), (2, _), (3, _), (4, _)] ⟨rfl, rfl, rfl, rfl, trivial⟩ ?_
          exact j55 _ h
      refine x_icmp_eq (pc := 28) dX2_leastCircle_28 (tgt := 43) (by decide) (fun c10 => ?_) (fun c10 => ?_)
      · replace h := wo_pos c10 h
        refine x_sub [(1, _), (2, _), (3, _), (4, _)] ⟨rfl, rfl, rfl, rfl, trivial⟩ ?_
        exact j43 h
      · replace h := wo_neg c10 h
        refine x_iload (pc := 31) dX2_leastCircle_31 rfl ?_
        refine z_Si1 (pc := 33) h dX2_leastCircle_33 lX2_121 (by omega) rfl (fun a e => w_J6_bitCount_0f7a4 _ _ a e) (fun v7 h => ?_)
        refine x_iload_n (pc := 36) dX2_leastCircle_36 rfl ?_
        refine z_Si1 (pc := 37) h dX2_leastCircle_37 lX2_121 (by omega) rfl (fun a e => w_J6_bitCount_0f7a4 _ _ a e) (fun v8 h => ?_)
        refine x_icmp_ge (pc := 40) dX2_leastCircle_40 (tgt := 55) (by decide) (fun c9 => ?_) (fun c9 => ?_)
        · replace h := wo_pos c9 h
          refine x_sub [(1, _), (2, _), (3, _), (4, _)] ⟨rfl, rfl, rfl, rfl, trivial⟩ ?_
          exact j55 _ h
        · replace h := wo_neg c9 h
          refine x_sub [(1, _), (2, _), (3, _), (4, _)] ⟨rfl, rfl, rfl, rfl, trivial⟩ ?_
          exact j43 h
noncomputable def f_X11_circle (mem : mi_M) : Option (Int32) := mi_g (mem.2.2 0 < mi_n 8) (mi_bo (f_X2_leastCircle (mem.2.2 0) 0 mem) fun v2 => some v2)
set_option maxRecDepth 100000 in
set_option maxHeartbeats 4000000 in
theorem w_X11_circle (mem : mi_M) (a : Int32) (e : f_X11_circle  mem = some a) : mi_Ci (5) mX11_circle [vr 11 0] mem (fun x m' => x = a ∧ m' = mem) := by
  unfold mi_Ci
  refine mi_C_intro (ls := [(0, vr 11 0)]) (by decide) rfl rfl ?_
  obtain ⟨Q0, hq0, h⟩ : ∃ Q0 : Int32 → Prop, (∀ b, Q0 b → b = a) ∧ wo (f_X11_circle  mem) Q0 := ⟨fun b => b = a, fun _ h => h, wo_eq e⟩
  obtain ⟨QX, hQX⟩ : ∃ QX : Option mi_V → mi_M → Prop, QX = (fun r m' => ∃ x, r = some (vi x) ∧ x = a ∧ m' = mem) := ⟨_, rfl⟩
  rw [← hQX]
  unfold f_X11_circle at h
  refine x_aload_n (pc := 0) dX11_circle_0 rfl ?_
  refine x_getC (pc := 1) dX11_circle_1 fX11_47 rfl (by decide) ?_
  refine x_aload_n (pc := 4) dX11_circle_4 rfl ?_
  obtain ⟨hm1, h⟩ := wo_g h
  refine x_getM (pc := 5) dX11_circle_5 fX11_54 rfl (by decide) ?_
  refine x_aload_n (pc := 8) dX11_circle_8 rfl ?_
  refine x_getC (pc := 9) dX11_circle_9 fX11_19 rfl (by decide) ?_
  refine z_Vi2 (pc := 12) h dX11_circle_12 lX11_238 (by decide) (by omega) rfl (fun a e => w_X2_leastCircle _ _ hm1 (by decide) _ a e) (fun v2 h => ?_)
  exact x_iret (pc := 15) dX11_circle_15 rfl (by rw [hQX]; exact ⟨_, rfl, hq0 _ (wo_some h), rfl⟩)
noncomputable def f_X5_coinsOfAll_B4 (i0 : Nat) (mem : mi_M) : (Int32 × Int32) → Option ((Int32 × Int32) ⊕ (Int32)) := fun s => match s with | (l2, l3) => if (6 : Int32) ≤ l3 then some (.inr l2) else mi_g (vp_in l3 6) (mi_let (l2 + (mem.1 36 i0 l3.toNatClampNeg)) fun v5 => some (.inl (v5, (l3 + (1 : Int32)))))
noncomputable def f_X5_coinsOfAll_K4 : Int32 → Option (Int32) := fun e1 => some e1
noncomputable def f_X5_coinsOfAll (i0 : Nat) (mem : mi_M) : Option (Int32) := mi_bo (mi_lp (f_X5_coinsOfAll_B4 i0 mem) mi_fu ((0 : Int32), (0 : Int32))) (f_X5_coinsOfAll_K4)
set_option maxRecDepth 100000 in
set_option maxHeartbeats 4000000 in
theorem w_X5_coinsOfAll (i0 : Nat) (hi0 : i0 < mi_n 5) (mem : mi_M) (a : Int32) (e : f_X5_coinsOfAll i0 mem = some a) : mi_Ci (1) mX5_coinsOfAll [vr 5 i0] mem (fun x m' => x = a ∧ m' = mem) := by
  unfold mi_Ci
  refine mi_C_intro (ls := [(0, vr 5 i0)]) (by decide) rfl rfl ?_
  obtain ⟨Q0, hq0, h⟩ : ∃ Q0 : Int32 → Prop, (∀ b, Q0 b → b = a) ∧ wo (f_X5_coinsOfAll i0 mem) Q0 := ⟨fun b => b = a, fun _ h => h, wo_eq e⟩
  obtain ⟨QX, hQX⟩ : ∃ QX : Option mi_V → mi_M → Prop, QX = (fun r m' => ∃ x, r = some (vi x) ∧ x = a ∧ m' = mem) := ⟨_, rfl⟩
  rw [← hQX]
  unfold f_X5_coinsOfAll at h
  refine x_iconst (pc := 0) dX5_coinsOfAll_0 (v := (0 : Int32)) (by decide) ?_
  refine x_istore_n (ls' := [(1, _), (0, _)]) (pc := 1) dX5_coinsOfAll_1 rfl rfl rfl ?_
  refine x_iconst (pc := 2) dX5_coinsOfAll_2 (v := (0 : Int32)) (by decide) ?_
  refine x_istore_n (ls' := [(2, _), (1, _), (0, _)]) (pc := 3) dX5_coinsOfAll_3 rfl rfl rfl ?_
  have k4_0 : ∀ (e1 : Int32), wo (f_X5_coinsOfAll_K4 e1) Q0 → mi_X mX5_coinsOfAll (1) 25 [(1, vi e1)] [] mem QX := by
    intro e1 h
    unfold f_X5_coinsOfAll_K4 at h
    try dsimp only at h
    refine x_iload_n (pc := 25) dX5_coinsOfAll_25 rfl ?_
    exact x_iret (pc := 26) dX5_coinsOfAll_26 rfl (by rw [hQX]; exact ⟨_, rfl, hq0 _ (wo_some h), rfl⟩)
  refine x_sub [(0, _), (1, _), (2, _)] ⟨rfl, rfl, rfl, trivial⟩ ?_
  obtain ⟨ea, eb, h⟩ := wo_bo h
  refine wo_lq (X := fun s => match s with | (l2, l3) => mi_X mX5_coinsOfAll (1) 4 [(0, vr 5 i0), (1, vi l2), (2, vi l3)] [] mem QX) (E := fun e => wo (f_X5_coinsOfAll_K4 e) Q0) ?_ _ ((0 : Int32), (0 : Int32)) ⟨_, eb, h⟩
  intro Q4 hb4 he4 s h
  obtain ⟨l2, l3⟩ := s
  show mi_X mX5_coinsOfAll (1) 4 [(0, vr 5 i0), (1, vi l2), (2, vi l3)] [] mem QX
  unfold f_X5_coinsOfAll_B4 at h
  try dsimp only at h
  refine x_iload_n (pc := 4) dX5_coinsOfAll_4 rfl ?_
  refine x_bipush (pc := 5) dX5_coinsOfAll_5 (v := (6 : Int32)) (by decide) ?_
  refine x_icmp_ge (pc := 7) dX5_coinsOfAll_7 (tgt := 25) (by decide) (fun c6 => ?_) (fun c6 => ?_)
  · replace h := wo_pos c6 h
    refine x_sub [(1, _)] ⟨rfl, trivial⟩ ?_
    exact k4_0 _ (he4 l2 (wo_some h))
  · replace h := wo_neg c6 h
    refine x_iload_n (pc := 10) dX5_coinsOfAll_10 rfl ?_
    refine x_aload_n (pc := 11) dX5_coinsOfAll_11 rfl ?_
    refine x_getS (pc := 12) dX5_coinsOfAll_12 fX5_18 rfl hi0 ?_
    refine x_iload_n (pc := 15) dX5_coinsOfAll_15 rfl ?_
    obtain ⟨hx4, h⟩ := wo_g h
    refine x_ialdJ (pc := 16) dX5_coinsOfAll_16 rfl rfl hi0 hx4 ?_
    refine x_iadd (pc := 17) dX5_coinsOfAll_17 ?_
    refine x_leti h (fun v5 h => ?_)
    refine x_istore_n (ls' := [(1, _), (0, _), (2, _)]) (pc := 18) dX5_coinsOfAll_18 rfl rfl rfl ?_
    refine x_iinc (ls' := [(2, _), (1, _), (0, _)]) (pc := 19) dX5_coinsOfAll_19 rfl (v := l3 + (1 : Int32)) rfl rfl rfl ?_
    refine x_goto (pc := 22) dX5_coinsOfAll_22 (tgt := 4) (by decide) ?_
    refine x_sub [(0, _), (1, _), (2, _)] ⟨rfl, rfl, rfl, trivial⟩ ?_
    exact hb4 (v5, (l3 + (1 : Int32))) (wo_some h)
noncomputable def f_X11_count (p0 : Int32) (mem : mi_M) : Option (Int32) := if p0 = (0 : Int32) then mi_g (mem.2.2 0 < mi_n 8) (some (mem.1 8 (mem.2.2 0) 0)) else if p0 = (1 : Int32) then mi_g (mem.2.2 0 < mi_n 8) (some (mem.1 9 (mem.2.2 0) 0)) else if p0 = (2 : Int32) then mi_g (mem.2.2 0 < mi_n 8) (some (mem.1 8 (mem.2.2 0) 1)) else if p0 = (3 : Int32) then mi_g (mem.2.2 0 < mi_n 8) (some (mem.1 9 (mem.2.2 0) 1)) else if p0 = (4 : Int32) then some (mem.1 5 0 0) else if p0 = (5 : Int32) then some (mem.1 5 0 2) else if p0 = (6 : Int32) then some (mem.1 5 0 1) else if p0 = (7 : Int32) then mi_bo (f_X5_coinsOfAll 0 mem) fun v13 => some v13 else if p0 = (8 : Int32) then mi_g (mem.2.2 2 < mi_n 10) (some (mem.1 10 (mem.2.2 2) 0)) else if p0 = (9 : Int32) then some (mem.1 4 0 0) else if p0 = (10 : Int32) then some (mem.1 3 0 0) else if p0 = (11 : Int32) then some (mem.1 6 0 0) else some (-1 : Int32)
set_option maxRecDepth 100000 in
set_option maxHeartbeats 4000000 in
theorem w_X11_count (p0 : Int32) (mem : mi_M) (a : Int32) (e : f_X11_count p0 mem = some a) : mi_Ci (2) mX11_count [vr 11 0, vi p0] mem (fun x m' => x = a ∧ m' = mem) := by
  unfold mi_Ci
  refine mi_C_intro (ls := [(0, vr 11 0), (1, vi p0)]) (by decide) rfl rfl ?_
  obtain ⟨Q0, hq0, h⟩ : ∃ Q0 : Int32 → Prop, (∀ b, Q0 b → b = a) ∧ wo (f_X11_count p0 mem) Q0 := ⟨fun b => b = a, fun _ h => h, wo_eq e⟩
  obtain ⟨QX, hQX⟩ : ∃ QX : Option mi_V → mi_M → Prop, QX = (fun r m' => ∃ x, r = some (vi x) ∧ x = a ∧ m' = mem) := ⟨_, rfl⟩
  rw [← hQX]
  unfold f_X11_count at h
  refine x_iload_n (pc := 0) dX11_count_0 rfl ?_
  by_cases c1 : p0 = (0 : Int32)
  · replace h := wo_pos c1 h
    refine x_swT (pc := 1) (c := (0 : Int32)) c1 dX11_count_1 (by decide) (by decide) rfl (tgt := 64) (by decide) ?_
    refine x_aload_n (pc := 64) dX11_count_64 rfl ?_
    obtain ⟨hm2, h⟩ := wo_g h
    refine x_getM (pc := 65) dX11_count_65 fX11_54 rfl (by decide) ?_
    refine x_getI (pc := 68) dX11_count_68 fX11_228 rfl hm2 ?_
    exact x_iret (pc := 71) dX11_count_71 rfl (by rw [hQX]; exact ⟨_, rfl, hq0 _ (wo_some h), rfl⟩)
  · replace h := wo_neg c1 h
    by_cases c3 : p0 = (1 : Int32)
    · replace h := wo_pos c3 h
      refine x_swT (pc := 1) (c := (1 : Int32)) c3 dX11_count_1 (by decide) (by decide) rfl (tgt := 72) (by decide) ?_
      refine x_aload_n (pc := 72) dX11_count_72 rfl ?_
      obtain ⟨hm4, h⟩ := wo_g h
      refine x_getM (pc := 73) dX11_count_73 fX11_54 rfl (by decide) ?_
      refine x_getS (pc := 76) dX11_count_76 fX11_159 rfl hm4 ?_
      refine x_getI (pc := 79) dX11_count_79 fX11_284 rfl hm4 ?_
      exact x_iret (pc := 82) dX11_count_82 rfl (by rw [hQX]; exact ⟨_, rfl, hq0 _ (wo_some h), rfl⟩)
    · replace h := wo_neg c3 h
      by_cases c5 : p0 = (2 : Int32)
      · replace h := wo_pos c5 h
        refine x_swT (pc := 1) (c := (2 : Int32)) c5 dX11_count_1 (by decide) (by decide) rfl (tgt := 83) (by decide) ?_
        refine x_aload_n (pc := 83) dX11_count_83 rfl ?_
        obtain ⟨hm6, h⟩ := wo_g h
        refine x_getM (pc := 84) dX11_count_84 fX11_54 rfl (by decide) ?_
        refine x_getI (pc := 87) dX11_count_87 fX11_102 rfl hm6 ?_
        exact x_iret (pc := 90) dX11_count_90 rfl (by rw [hQX]; exact ⟨_, rfl, hq0 _ (wo_some h), rfl⟩)
      · replace h := wo_neg c5 h
        by_cases c7 : p0 = (3 : Int32)
        · replace h := wo_pos c7 h
          refine x_swT (pc := 1) (c := (3 : Int32)) c7 dX11_count_1 (by decide) (by decide) rfl (tgt := 91) (by decide) ?_
          refine x_aload_n (pc := 91) dX11_count_91 rfl ?_
          obtain ⟨hm8, h⟩ := wo_g h
          refine x_getM (pc := 92) dX11_count_92 fX11_54 rfl (by decide) ?_
          refine x_getS (pc := 95) dX11_count_95 fX11_159 rfl hm8 ?_
          refine x_getI (pc := 98) dX11_count_98 fX11_287 rfl hm8 ?_
          exact x_iret (pc := 101) dX11_count_101 rfl (by rw [hQX]; exact ⟨_, rfl, hq0 _ (wo_some h), rfl⟩)
        · replace h := wo_neg c7 h
          by_cases c9 : p0 = (4 : Int32)
          · replace h := wo_pos c9 h
            refine x_swT (pc := 1) (c := (4 : Int32)) c9 dX11_count_1 (by decide) (by decide) rfl (tgt := 102) (by decide) ?_
            refine x_aload_n (pc := 102) dX11_count_102 rfl ?_
            refine x_getC (pc := 103) dX11_count_103 fX11_19 rfl (by decide) ?_
            refine x_getI (pc := 106) dX11_count_106 fX11_290 rfl (by decide) ?_
            exact x_iret (pc := 109) dX11_count_109 rfl (by rw [hQX]; exact ⟨_, rfl, hq0 _ (wo_some h), rfl⟩)
          · replace h := wo_neg c9 h
            by_cases c10 : p0 = (5 : Int32)
            · replace h := wo_pos c10 h
              refine x_swT (pc := 1) (c := (5 : Int32)) c10 dX11_count_1 (by decide) (by decide) rfl (tgt := 110) (by decide) ?_
              refine x_aload_n (pc := 110) dX11_count_110 rfl ?_
              refine x_getC (pc := 111) dX11_count_111 fX11_19 rfl (by decide) ?_
              refine x_getI (pc := 114) dX11_count_114 fX11_293 rfl (by decide) ?_
              exact x_iret (pc := 117) dX11_count_117 rfl (by rw [hQX]; exact ⟨_, rfl, hq0 _ (wo_some h), rfl⟩)
            · replace h := wo_neg c10 h
              by_cases c11 : p0 = (6 : Int32)
              · replace h := wo_pos c11 h
                refine x_swT (pc := 1) (c := (6 : Int32)) c11 dX11_count_1 (by decide) (by decide) rfl (tgt := 118) (by decide) ?_
                refine x_aload_n (pc := 118) dX11_count_118 rfl ?_
                refine x_getC (pc := 119) dX11_count_119 fX11_19 rfl (by decide) ?_
                refine x_getI (pc := 122) dX11_count_122 fX11_184 rfl (by decide) ?_
                exact x_iret (pc := 125) dX11_count_125 rfl (by rw [hQX]; exact ⟨_, rfl, hq0 _ (wo_some h), rfl⟩)
              · replace h := wo_neg c11 h
                by_cases c12 : p0 = (7 : Int32)
                · replace h := wo_pos c12 h
                  refine x_swT (pc := 1) (c := (7 : Int32)) c12 dX11_count_1 (by decide) (by decide) rfl (tgt := 126) (by decide) ?_
                  refine x_aload_n (pc := 126) dX11_count_126 rfl ?_
                  refine x_getC (pc := 127) dX11_count_127 fX11_19 rfl (by decide) ?_
                  refine z_Vi0 (pc := 130) h dX11_count_130 lX11_296 (by decide) (by omega) rfl (fun a e => w_X5_coinsOfAll _ (by decide) _ a e) (fun v13 h => ?_)
                  exact x_iret (pc := 133) dX11_count_133 rfl (by rw [hQX]; exact ⟨_, rfl, hq0 _ (wo_some h), rfl⟩)
                · replace h := wo_neg c12 h
                  by_cases c14 : p0 = (8 : Int32)
                  · replace h := wo_pos c14 h
                    refine x_swT (pc := 1) (c := (8 : Int32)) c14 dX11_count_1 (by decide) (by decide) rfl (tgt := 134) (by decide) ?_
                    refine x_aload_n (pc := 134) dX11_count_134 rfl ?_
                    obtain ⟨hm15, h⟩ := wo_g h
                    refine x_getM (pc := 135) dX11_count_135 fX11_64 rfl (by decide) ?_
                    refine x_getI (pc := 138) dX11_count_138 fX11_89 rfl hm15 ?_
                    exact x_iret (pc := 141) dX11_count_141 rfl (by rw [hQX]; exact ⟨_, rfl, hq0 _ (wo_some h), rfl⟩)
                  · replace h := wo_neg c14 h
                    by_cases c16 : p0 = (9 : Int32)
                    · replace h := wo_pos c16 h
                      refine x_swT (pc := 1) (c := (9 : Int32)) c16 dX11_count_1 (by decide) (by decide) rfl (tgt := 142) (by decide) ?_
                      refine x_aload_n (pc := 142) dX11_count_142 rfl ?_
                      refine x_getC (pc := 143) dX11_count_143 fX11_33 rfl (by decide) ?_
                      refine x_getI (pc := 146) dX11_count_146 fX11_99 rfl (by decide) ?_
                      exact x_iret (pc := 149) dX11_count_149 rfl (by rw [hQX]; exact ⟨_, rfl, hq0 _ (wo_some h), rfl⟩)
                    · replace h := wo_neg c16 h
                      by_cases c17 : p0 = (10 : Int32)
                      · replace h := wo_pos c17 h
                        refine x_swT (pc := 1) (c := (10 : Int32)) c17 dX11_count_1 (by decide) (by decide) rfl (tgt := 150) (by decide) ?_
                        refine x_aload_n (pc := 150) dX11_count_150 rfl ?_
                        refine x_getC (pc := 151) dX11_count_151 fX11_26 rfl (by decide) ?_
                        refine x_getI (pc := 154) dX11_count_154 fX11_300 rfl (by decide) ?_
                        exact x_iret (pc := 157) dX11_count_157 rfl (by rw [hQX]; exact ⟨_, rfl, hq0 _ (wo_some h), rfl⟩)
                      · replace h := wo_neg c17 h
                        by_cases c18 : p0 = (11 : Int32)
                        · replace h := wo_pos c18 h
                          refine x_swT (pc := 1) (c := (11 : Int32)) c18 dX11_count_1 (by decide) (by decide) rfl (tgt := 158) (by decide) ?_
                          refine x_aload_n (pc := 158) dX11_count_158 rfl ?_
                          refine x_getC (pc := 159) dX11_count_159 fX11_10 rfl (by decide) ?_
                          refine x_getC (pc := 162) dX11_count_162 fX11_71 rfl (by decide) ?_
                          refine x_getI (pc := 165) dX11_count_165 fX11_81 rfl (by decide) ?_
                          exact x_iret (pc := 168) dX11_count_168 rfl (by rw [hQX]; exact ⟨_, rfl, hq0 _ (wo_some h), rfl⟩)
                        · replace h := wo_neg c18 h
                          refine x_tableOut (pc := 1) dX11_count_1 (by have := lv_neT (a := 0) c1 (by decide); have := lv_neT (a := 1) c3 (by decide); have := lv_neT (a := 2) c5 (by decide); have := lv_neT (a := 3) c7 (by decide); have := lv_neT (a := 4) c9 (by decide); have := lv_neT (a := 5) c10 (by decide); have := lv_neT (a := 6) c11 (by decide); have := lv_neT (a := 7) c12 (by decide); have := lv_neT (a := 8) c14 (by decide); have := lv_neT (a := 9) c16 (by decide); have := lv_neT (a := 10) c17 (by decide); have := lv_neT (a := 11) c18 (by decide); omega) (tgt := 169) (by decide) ?_
                          refine x_iconst (pc := 169) dX11_count_169 (v := (-1 : Int32)) (by decide) ?_
                          exact x_iret (pc := 170) dX11_count_170 rfl (by rw [hQX]; exact ⟨_, rfl, hq0 _ (wo_some h), rfl⟩)
noncomputable def f_X8_hasPerson (i0 : Nat) (p0 : Int32) (mem : mi_M) : Option (Int32) := mi_bo (f_X11_isWithin p0 (0 : Int32) ((mem.1 8 i0 0) - (1 : Int32)) mem) fun v1 => mi_g (v1 = 0 ∨ v1 = 1) (some v1)
set_option maxRecDepth 100000 in
set_option maxHeartbeats 4000000 in
theorem w_X8_hasPerson (i0 : Nat) (p0 : Int32) (hi0 : i0 < mi_n 8) (mem : mi_M) (a : Int32) (e : f_X8_hasPerson i0 p0 mem = some a) : mi_Ci (2) mX8_hasPerson [vr 8 i0, vi p0] mem (fun x m' => x = a ∧ m' = mem) := by
  unfold mi_Ci
  refine mi_C_intro (ls := [(0, vr 8 i0), (1, vi p0)]) (by decide) rfl rfl ?_
  obtain ⟨Q0, hq0, h⟩ : ∃ Q0 : Int32 → Prop, (∀ b, Q0 b → b = a) ∧ wo (f_X8_hasPerson i0 p0 mem) Q0 := ⟨fun b => b = a, fun _ h => h, wo_eq e⟩
  obtain ⟨QX, hQX⟩ : ∃ QX : Option mi_V → mi_M → Prop, QX = (fun r m' => ∃ x, r = some (vi x) ∧ x = a ∧ m' = mem) := ⟨_, rfl⟩
  rw [← hQX]
  unfold f_X8_hasPerson at h
  refine x_iload_n (pc := 0) dX8_hasPerson_0 rfl ?_
  refine x_iconst (pc := 1) dX8_hasPerson_1 (v := (0 : Int32)) (by decide) ?_
  refine x_aload_n (pc := 2) dX8_hasPerson_2 rfl ?_
  refine x_getI (pc := 3) dX8_hasPerson_3 fX8_45 rfl hi0 ?_
  refine x_iconst (pc := 6) dX8_hasPerson_6 (v := (1 : Int32)) (by decide) ?_
  refine x_isub (pc := 7) dX8_hasPerson_7 ?_
  refine z_Ni3 (pc := 8) h dX8_hasPerson_8 nX8_65 (by omega) rfl (fun a e => w_X11_isWithin _ _ _ _ a e) (fun v1 h => ?_)
  obtain ⟨hb2, h⟩ := wo_g h
  exact x_zretB (pc := 11) dX8_hasPerson_11 rfl hb2 (by rw [hQX]; exact ⟨_, rfl, hq0 _ (wo_some h), rfl⟩)
noncomputable def f_X8_hasTwoDoors_J26 (u2 : Int32) : Option (Int32) := mi_g (u2 = 0 ∨ u2 = 1) (some u2)
noncomputable def f_X8_hasTwoDoors_J25 : Option (Int32) := f_X8_hasTwoDoors_J26 (0 : Int32)
noncomputable def f_X8_hasTwoDoors (i0 : Nat) (p0 : Int32) (p1 : Int32) (mem : mi_M) : Option (Int32) := mi_bo (f_X8_hasPerson i0 p0 mem) fun v1 => if v1 = 0 then f_X8_hasTwoDoors_J25 else mi_bo (f_X8_hasPerson i0 p1 mem) fun v4 => if v4 = 0 then f_X8_hasTwoDoors_J25 else if p0 = p1 then f_X8_hasTwoDoors_J25 else f_X8_hasTwoDoors_J26 (1 : Int32)
set_option maxRecDepth 100000 in
set_option maxHeartbeats 4000000 in
theorem w_X8_hasTwoDoors (i0 : Nat) (p0 : Int32) (p1 : Int32) (hi0 : i0 < mi_n 8) (mem : mi_M) (a : Int32) (e : f_X8_hasTwoDoors i0 p0 p1 mem = some a) : mi_Ci (3) mX8_hasTwoDoors [vr 8 i0, vi p0, vi p1] mem (fun x m' => x = a ∧ m' = mem) := by
  unfold mi_Ci
  refine mi_C_intro (ls := [(0, vr 8 i0), (1, vi p0), (2, vi p1)]) (by decide) rfl rfl ?_
  obtain ⟨Q0, hq0, h⟩ : ∃ Q0 : Int32 → Prop, (∀ b, Q0 b → b = a) ∧ wo (f_X8_hasTwoDoors i0 p0 p1 mem) Q0 := ⟨fun b => b = a, fun _ h => h, wo_eq e⟩
  obtain ⟨QX, hQX⟩ : ∃ QX : Option mi_V → mi_M → Prop, QX = (fun r m' => ∃ x, r = some (vi x) ∧ x = a ∧ m' = mem) := ⟨_, rfl⟩
  rw [← hQX]
  unfold f_X8_hasTwoDoors at h
  refine x_aload_n (pc := 0) dX8_hasTwoDoors_0 rfl ?_
  refine x_iload_n (pc := 1) dX8_hasTwoDoors_1 rfl ?_
  refine z_Vi1 (pc := 2) h dX8_hasTwoDoors_2 lX8_69 hi0 (by omega) rfl (fun a e => w_X8_hasPerson _ _ hi0 _ a e) (fun v1 h => ?_)
  have j26 : ∀ (u2 : Int32), wo (f_X8_hasTwoDoors_J26 u2) Q0 → mi_X mX8_hasTwoDoors (3) 26 [] [vi u2] mem QX := by
    intro u2 h
    unfold f_X8_hasTwoDoors_J26 at h
    obtain ⟨hb3, h⟩ := wo_g h
    exact x_zretB (pc := 26) dX8_hasTwoDoors_26 rfl hb3 (by rw [hQX]; exact ⟨_, rfl, hq0 _ (wo_some h), rfl⟩)
  have j25 : wo (f_X8_hasTwoDoors_J25) Q0 → mi_X mX8_hasTwoDoors (3) 25 [] [] mem QX := by
    intro h
    unfold f_X8_hasTwoDoors_J25 at h
    refine x_iconst (pc := 25) dX8_hasTwoDoors_25 (v := (0 : Int32)) (by decide) ?_
    refine x_sub [] trivial ?_
    exact j26 _ h
  refine x_if_eq (pc := 5) dX8_hasTwoDoors_5 (tgt := 25) (by decide) (fun c7 => ?_) (fun c7 => ?_)
  · replace h := wo_pos c7 h
    refine x_sub [] trivial ?_
    exact j25 h
  · replace h := wo_neg c7 h
    refine x_aload_n (pc := 8) dX8_hasTwoDoors_8 rfl ?_
    refine x_iload_n (pc := 9) dX8_hasTwoDoors_9 rfl ?_
    refine z_Vi1 (pc := 10) h dX8_hasTwoDoors_10 lX8_69 hi0 (by omega) rfl (fun a e => w_X8_hasPerson _ _ hi0 _ a e) (fun v4 h => ?_)
    refine x_if_eq (pc := 13) dX8_hasTwoDoors_13 (tgt := 25) (by decide) (fun c6 => ?_) (fun c6 => ?_)
    · replace h := wo_pos c6 h
      refine x_sub [] trivial ?_
      exact j25 h
    · replace h := wo_neg c6 h
      refine x_iload_n (pc := 16) dX8_hasTwoDoors_16 rfl ?_
      refine x_iload_n (pc := 17) dX8_hasTwoDoors_17 rfl ?_
      refine x_icmp_eq (pc := 18) dX8_hasTwoDoors_18 (tgt := 25) (by decide) (fun c5 => ?_) (fun c5 => ?_)
      · replace h := wo_pos c5 h
        refine x_sub [] trivial ?_
        exact j25 h
      · replace h := wo_neg c5 h
        refine x_iconst (pc := 21) dX8_hasTwoDoors_21 (v := (1 : Int32)) (by decide) ?_
        refine x_goto (pc := 22) dX8_hasTwoDoors_22 (tgt := 26) (by decide) ?_
        refine x_sub [] trivial ?_
        exact j26 _ h
noncomputable def f_X9_darkOf (i0 : Nat) (p0 : Int32) (p1 : Int32) (p2 : Int32) (mem : mi_M) : Option (Int32 × mi_M) := mi_b (f_X9_costOf i0 p0 p1 p2 mem) fun v1 m2 => some ((v1 / (1024 : Int32)), m2)
set_option maxRecDepth 100000 in
set_option maxHeartbeats 4000000 in
theorem w_X9_darkOf (i0 : Nat) (p0 : Int32) (p1 : Int32) (p2 : Int32) (hi0 : i0 < mi_n 9) (mem : mi_M) (a : Int32 × mi_M) (e : f_X9_darkOf i0 p0 p1 p2 mem = some a) : mi_Ci (4) mX9_darkOf [vr 9 i0, vi p0, vi p1, vi p2] mem (fun x m' => x = a.1 ∧ m' = a.2) := by
  unfold mi_Ci
  refine mi_C_intro (ls := [(0, vr 9 i0), (1, vi p0), (2, vi p1), (3, vi p2)]) (by decide) rfl rfl ?_
  obtain ⟨Q0, hq0, h⟩ : ∃ Q0 : (Int32 × mi_M) → Prop, (∀ b, Q0 b → b = a) ∧ wo (f_X9_darkOf i0 p0 p1 p2 mem) Q0 := ⟨fun b => b = a, fun _ h => h, wo_eq e⟩
  obtain ⟨QX, hQX⟩ : ∃ QX : Option mi_V → mi_M → Prop, QX = (fun r m' => ∃ x, r = some (vi x) ∧ x = a.1 ∧ m' = a.2) := ⟨_, rfl⟩
  rw [← hQX]
  unfold f_X9_darkOf at h
  refine x_aload_n (pc := 0) dX9_darkOf_0 rfl ?_
  refine x_iload_n (pc := 1) dX9_darkOf_1 rfl ?_
  refine x_iload_n (pc := 2) dX9_darkOf_2 rfl ?_
  refine x_iload_n (pc := 3) dX9_darkOf_3 rfl ?_
  refine y_Vi3 (pc := 4) h dX9_darkOf_4 lX9_37 hi0 (by omega) rfl (fun a e => w_X9_costOf _ _ _ _ hi0 _ a e) (fun v1 m2 h => ?_)
  refine x_sipush (pc := 7) dX9_darkOf_7 (v := (1024 : Int32)) (by decide) ?_
  refine x_idiv (pc := 10) dX9_darkOf_10 (by decide) ?_
  exact x_iret (pc := 11) dX9_darkOf_11 rfl (by rw [hQX]; exact ⟨_, rfl, congrArg Prod.fst (hq0 _ (wo_some h)), congrArg Prod.snd (hq0 _ (wo_some h))⟩)
noncomputable def f_X9_firstDoor_B12 (i0 : Nat) (p0 : Int32) (p1 : Int32) (p2 : Int32) (v1 : Int32) : (Int32 × mi_M) → Option ((Int32 × mi_M) ⊕ ((Int32 × mi_M) ⊕ mi_M)) := fun s => match s with | (l6, m7) => if (6 : Int32) ≤ l6 then some (.inr (.inr m7)) else mi_bo (f_X9_laneCost i0 p0 p1 l6 m7) fun v8 => mi_b (f_X9_costOf i0 p0 l6 p2 m7) fun v9 m10 => if (v8 + v9) = v1 then some (.inr (.inl (l6, m10))) else some (.inl ((l6 + (1 : Int32)), m10))
noncomputable def f_X9_firstDoor_K12 : ((Int32 × mi_M) ⊕ mi_M) → Option (Int32 × mi_M) := fun e => match e with | (.inl (e3, m4)) => some (e3, m4) | (.inr m5) => some ((-1 : Int32), m5)
noncomputable def f_X9_firstDoor (i0 : Nat) (p0 : Int32) (p1 : Int32) (p2 : Int32) (mem : mi_M) : Option (Int32 × mi_M) := mi_b (f_X9_costOf i0 p0 p1 p2 mem) fun v1 m2 => mi_bo (mi_lp (f_X9_firstDoor_B12 i0 p0 p1 p2 v1) mi_fu ((0 : Int32), m2)) (f_X9_firstDoor_K12)
set_option maxRecDepth 100000 in
set_option maxHeartbeats 4000000 in
theorem w_X9_firstDoor (i0 : Nat) (p0 : Int32) (p1 : Int32) (p2 : Int32) (hi0 : i0 < mi_n 9) (mem : mi_M) (a : Int32 × mi_M) (e : f_X9_firstDoor i0 p0 p1 p2 mem = some a) : mi_Ci (4) mX9_firstDoor [vr 9 i0, vi p0, vi p1, vi p2] mem (fun x m' => x = a.1 ∧ m' = a.2) := by
  unfold mi_Ci
  refine mi_C_intro (ls := [(0, vr 9 i0), (1, vi p0), (2, vi p1), (3, vi p2)]) (by decide) rfl rfl ?_
  obtain ⟨Q0, hq0, h⟩ : ∃ Q0 : (Int32 × mi_M) → Prop, (∀ b, Q0 b → b = a) ∧ wo (f_X9_firstDoor i0 p0 p1 p2 mem) Q0 := ⟨fun b => b = a, fun _ h => h, wo_eq e⟩
  obtain ⟨QX, hQX⟩ : ∃ QX : Option mi_V → mi_M → Prop, QX = (fun r m' => ∃ x, r = some (vi x) ∧ x = a.1 ∧ m' = a.2) := ⟨_, rfl⟩
  rw [← hQX]
  unfold f_X9_firstDoor at h
  refine x_aload_n (pc := 0) dX9_firstDoor_0 rfl ?_
  refine x_iload_n (pc := 1) dX9_firstDoor_1 rfl ?_
  refine x_iload_n (pc := 2) dX9_firstDoor_2 rfl ?_
  refine x_iload_n (pc := 3) dX9_firstDoor_3 rfl ?_
  refine y_Vi3 (pc := 4) h dX9_firstDoor_4 lX9_37 hi0 (by omega) rfl (fun a e => w_X9_costOf _ _ _ _ hi0 _ a e) (fun v1 m2 h => ?_)
  refine x_istore (ls' := [(4, _), (0, _), (1, _), (2, _), (3, _)]) (pc := 7) dX9_firstDoor_7 rfl rfl ?_
  refine x_iconst (pc := 9) dX9_firstDoor_9 (v := (0 : Int32)) (by decide) ?_
  refine x_istore (ls' := [(5, _), (4, _), (0, _), (1, _), (2, _), (3, _)]) (pc := 10) dX9_firstDoor_10 rfl rfl ?_
  have k12_0 : ∀ (e3 : Int32) (m4 : mi_M), wo (f_X9_firstDoor_K12 (.inl (e3, m4))) Q0 → mi_X mX9_firstDoor (4) 41 [(5, vi e3)] [] m4 QX := by
    intro e3 m4 h
    unfold f_X9_firstDoor_K12 at h
    try dsimp only at h
    refine x_iload (pc := 41) dX9_firstDoor_41 rfl ?_
    exact x_iret (pc := 43) dX9_firstDoor_43 rfl (by rw [hQX]; exact ⟨_, rfl, congrArg Prod.fst (hq0 _ (wo_some h)), congrArg Prod.snd (hq0 _ (wo_some h))⟩)
  have k12_1 : ∀ (m5 : mi_M), wo (f_X9_firstDoor_K12 (.inr m5)) Q0 → mi_X mX9_firstDoor (4) 50 [] [] m5 QX := by
    intro m5 h
    unfold f_X9_firstDoor_K12 at h
    try dsimp only at h
    refine x_iconst (pc := 50) dX9_firstDoor_50 (v := (-1 : Int32)) (by decide) ?_
    exact x_iret (pc := 51) dX9_firstDoor_51 rfl (by rw [hQX]; exact ⟨_, rfl, congrArg Prod.fst (hq0 _ (wo_some h)), congrArg Prod.snd (hq0 _ (wo_some h))⟩)
  refine x_sub [(0, _), (1, _), (2, _), (3, _), (4, _), (5, _)] ⟨rfl, rfl, rfl, rfl, rfl, rfl, trivial⟩ ?_
  obtain ⟨ea, eb, h⟩ := wo_bo h
  refine wo_lq (X := fun s => match s with | (l6, m7) => mi_X mX9_firstDoor (4) 12 [(0, vr 9 i0), (1, vi p0), (2, vi p1), (3, vi p2), (4, vi v1), (5, vi l6)] [] m7 QX) (E := fun e => wo (f_X9_firstDoor_K12 e) Q0) ?_ _ ((0 : Int32), m2) ⟨_, eb, h⟩
  intro Q12 hb12 he12 s h
  obtain ⟨l6, m7⟩ := s
  show mi_X mX9_firstDoor (4) 12 [(0, vr 9 i0), (1, vi p0), (2, vi p1), (3, vi p2), (4, vi v1), (5, vi l6)] [] m7 QX
  unfold f_X9_firstDoor_B12 at h
  try dsimp only at h
  refine x_iload (pc := 12) dX9_firstDoor_12 rfl ?_
  refine x_bipush (pc := 14) dX9_firstDoor_14 (v := (6 : Int32)) (by decide) ?_
  refine x_icmp_ge (pc := 16) dX9_firstDoor_16 (tgt := 50) (by decide) (fun c12 => ?_) (fun c12 => ?_)
  · replace h := wo_pos c12 h
    refine x_sub [] trivial ?_
    exact k12_1 _ (he12 (.inr m7) (wo_some h))
  · replace h := wo_neg c12 h
    refine x_aload_n (pc := 19) dX9_firstDoor_19 rfl ?_
    refine x_iload_n (pc := 20) dX9_firstDoor_20 rfl ?_
    refine x_iload_n (pc := 21) dX9_firstDoor_21 rfl ?_
    refine x_iload (pc := 22) dX9_firstDoor_22 rfl ?_
    refine z_Vi3 (pc := 24) h dX9_firstDoor_24 lX9_42 hi0 (by omega) rfl (fun a e => w_X9_laneCost _ _ _ _ hi0 _ a e) (fun v8 h => ?_)
    refine x_aload_n (pc := 27) dX9_firstDoor_27 rfl ?_
    refine x_iload_n (pc := 28) dX9_firstDoor_28 rfl ?_
    refine x_iload (pc := 29) dX9_firstDoor_29 rfl ?_
    refine x_iload_n (pc := 31) dX9_firstDoor_31 rfl ?_
    refine y_Vi3 (pc := 32) h dX9_firstDoor_32 lX9_37 hi0 (by omega) rfl (fun a e => w_X9_costOf _ _ _ _ hi0 _ a e) (fun v9 m10 h => ?_)
    refine x_iadd (pc := 35) dX9_firstDoor_35 ?_
    refine x_iload (pc := 36) dX9_firstDoor_36 rfl ?_
    refine x_icmp_ne (pc := 38) dX9_firstDoor_38 (tgt := 44) (by decide) (fun c11 => ?_) (fun c11 => ?_)
    · replace h := wo_neg c11 h
      refine x_iinc (ls' := [(5, _), (0, _), (1, _), (2, _), (3, _), (4, _)]) (pc := 44) dX9_firstDoor_44 rfl (v := l6 + (1 : Int32)) rfl rfl rfl ?_
      refine x_goto (pc := 47) dX9_firstDoor_47 (tgt := 12) (by decide) ?_
      refine x_sub [(0, _), (1, _), (2, _), (3, _), (4, _), (5, _)] ⟨rfl, rfl, rfl, rfl, rfl, rfl, trivial⟩ ?_
      exact hb12 ((l6 + (1 : Int32)), m10) (wo_some h)
    · replace h := wo_pos c11 h
      refine x_sub [(5, _)] ⟨rfl, trivial⟩ ?_
      exact k12_0 _ _ (he12 (.inl (l6, m10)) (wo_some h))
noncomputable def f_X9_isThere_J17 (m2 : mi_M) (u3 : Int32) : Option (Int32 × mi_M) := mi_g (u3 = 0 ∨ u3 = 1) (some (u3, m2))
noncomputable def f_X9_isThere (i0 : Nat) (p0 : Int32) (p1 : Int32) (p2 : Int32) (mem : mi_M) : Option (Int32 × mi_M) := mi_b (f_X9_costOf i0 p0 p1 p2 mem) fun v1 m2 => if (1048576 : Int32) ≤ v1 then f_X9_isThere_J17 m2 (0 : Int32) else f_X9_isThere_J17 m2 (1 : Int32)
set_option maxRecDepth 100000 in
set_option maxHeartbeats 4000000 in
theorem w_X9_isThere (i0 : Nat) (p0 : Int32) (p1 : Int32) (p2 : Int32) (hi0 : i0 < mi_n 9) (mem : mi_M) (a : Int32 × mi_M) (e : f_X9_isThere i0 p0 p1 p2 mem = some a) : mi_Ci (4) mX9_isThere [vr 9 i0, vi p0, vi p1, vi p2] mem (fun x m' => x = a.1 ∧ m' = a.2) := by
  unfold mi_Ci
  refine mi_C_intro (ls := [(0, vr 9 i0), (1, vi p0), (2, vi p1), (3, vi p2)]) (by decide) rfl rfl ?_
  obtain ⟨Q0, hq0, h⟩ : ∃ Q0 : (Int32 × mi_M) → Prop, (∀ b, Q0 b → b = a) ∧ wo (f_X9_isThere i0 p0 p1 p2 mem) Q0 := ⟨fun b => b = a, fun _ h => h, wo_eq e⟩
  obtain ⟨QX, hQX⟩ : ∃ QX : Option mi_V → mi_M → Prop, QX = (fun r m' => ∃ x, r = some (vi x) ∧ x = a.1 ∧ m' = a.2) := ⟨_, rfl⟩
  rw [← hQX]
  unfold f_X9_isThere at h
  refine x_aload_n (pc := 0) dX9_isThere_0 rfl ?_
  refine x_iload_n (pc := 1) dX9_isThere_1 rfl ?_
  refine x_iload_n (pc := 2) dX9_isThere_2 rfl ?_
  refine x_iload_n (pc := 3) dX9_isThere_3 rfl ?_
  refine y_Vi3 (pc := 4) h dX9_isThere_4 lX9_37 hi0 (by omega) rfl (fun a e => w_X9_costOf _ _ _ _ hi0 _ a e) (fun v1 m2 h => ?_)
  refine x_ldc (pc := 7) dX9_isThere_7 kX9_41 ?_
  have j17 : ∀ (u3 : Int32), wo (f_X9_isThere_J17 m2 u3) Q0 → mi_X mX9_isThere (4) 17 [] [vi u3] m2 QX := by
    intro u3 h
    unfold f_X9_isThere_J17 at h
    obtain ⟨hb4, h⟩ := wo_g h
    exact x_zretB (pc := 17) dX9_isThere_17 rfl hb4 (by rw [hQX]; exact ⟨_, rfl, congrArg Prod.fst (hq0 _ (wo_some h)), congrArg Prod.snd (hq0 _ (wo_some h))⟩)
  refine x_icmp_ge (pc := 9) dX9_isThere_9 (tgt := 16) (by decide) (fun c5 => ?_) (fun c5 => ?_)
  · replace h := wo_pos c5 h
    refine x_iconst (pc := 16) dX9_isThere_16 (v := (0 : Int32)) (by decide) ?_
    refine x_sub [] trivial ?_
    exact j17 _ h
  · replace h := wo_neg c5 h
    refine x_iconst (pc := 12) dX9_isThere_12 (v := (1 : Int32)) (by decide) ?_
    refine x_goto (pc := 13) dX9_isThere_13 (tgt := 17) (by decide) ?_
    refine x_sub [] trivial ?_
    exact j17 _ h
noncomputable def f_X9_minutesOf (i0 : Nat) (p0 : Int32) (p1 : Int32) (p2 : Int32) (mem : mi_M) : Option (Int32 × mi_M) := mi_b (f_X9_costOf i0 p0 p1 p2 mem) fun v1 m2 => some ((v1 - v1 / (1024 : Int32) * (1024 : Int32)), m2)
set_option maxRecDepth 100000 in
set_option maxHeartbeats 4000000 in
theorem w_X9_minutesOf (i0 : Nat) (p0 : Int32) (p1 : Int32) (p2 : Int32) (hi0 : i0 < mi_n 9) (mem : mi_M) (a : Int32 × mi_M) (e : f_X9_minutesOf i0 p0 p1 p2 mem = some a) : mi_Ci (4) mX9_minutesOf [vr 9 i0, vi p0, vi p1, vi p2] mem (fun x m' => x = a.1 ∧ m' = a.2) := by
  unfold mi_Ci
  refine mi_C_intro (ls := [(0, vr 9 i0), (1, vi p0), (2, vi p1), (3, vi p2)]) (by decide) rfl rfl ?_
  obtain ⟨Q0, hq0, h⟩ : ∃ Q0 : (Int32 × mi_M) → Prop, (∀ b, Q0 b → b = a) ∧ wo (f_X9_minutesOf i0 p0 p1 p2 mem) Q0 := ⟨fun b => b = a, fun _ h => h, wo_eq e⟩
  obtain ⟨QX, hQX⟩ : ∃ QX : Option mi_V → mi_M → Prop, QX = (fun r m' => ∃ x, r = some (vi x) ∧ x = a.1 ∧ m' = a.2) := ⟨_, rfl⟩
  rw [← hQX]
  unfold f_X9_minutesOf at h
  refine x_aload_n (pc := 0) dX9_minutesOf_0 rfl ?_
  refine x_iload_n (pc := 1) dX9_minutesOf_1 rfl ?_
  refine x_iload_n (pc := 2) dX9_minutesOf_2 rfl ?_
  refine x_iload_n (pc := 3) dX9_minutesOf_3 rfl ?_
  refine y_Vi3 (pc := 4) h dX9_minutesOf_4 lX9_37 hi0 (by omega) rfl (fun a e => w_X9_costOf _ _ _ _ hi0 _ a e) (fun v1 m2 h => ?_)
  refine x_sipush (pc := 7) dX9_minutesOf_7 (v := (1024 : Int32)) (by decide) ?_
  refine x_irem (pc := 10) dX9_minutesOf_10 (by decide) ?_
  exact x_iret (pc := 11) dX9_minutesOf_11 rfl (by rw [hQX]; exact ⟨_, rfl, congrArg Prod.fst (hq0 _ (wo_some h)), congrArg Prod.snd (hq0 _ (wo_some h))⟩)
noncomputable def f_X11_dark_J21 (mem : mi_M) : Option (Int32 × mi_M) := some ((-1 : Int32), mem)
noncomputable def f_X11_dark (p0 : Int32) (p1 : Int32) (p2 : Int32) (mem : mi_M) : Option (Int32 × mi_M) := mi_g (mem.2.2 0 < mi_n 8) (mi_bo (f_X8_hasTwoDoors (mem.2.2 0) p0 p1 mem) fun v2 => if v2 = 0 then f_X11_dark_J21 mem else mi_bo (f_X11_isWithin p2 (0 : Int32) (2 : Int32) mem) fun v3 => if v3 = 0 then f_X11_dark_J21 mem else mi_bo (f_X5_burningBehind 0 (0 : Int32) mem) fun v4 => mi_g (mem.2.2 0 < mi_n 8) (mi_b (f_X9_isThere (mem.2.2 0) v4 p0 p1 mem) fun v6 m7 => if v6 = 0 then some ((-1 : Int32), m7) else if p2 = (0 : Int32) then mi_g (m7.2.2 0 < mi_n 8) (mi_b (f_X9_darkOf (m7.2.2 0) v4 p0 p1 m7) fun v10 m11 => some (v10, m11)) else if p2 = (1 : Int32) then mi_g (m7.2.2 0 < mi_n 8) (mi_b (f_X9_minutesOf (m7.2.2 0) v4 p0 p1 m7) fun v14 m15 => some (v14, m15)) else mi_g (m7.2.2 0 < mi_n 8) (mi_b (f_X9_firstDoor (m7.2.2 0) v4 p0 p1 m7) fun v17 m18 => some (v17, m18))))
set_option maxRecDepth 100000 in
set_option maxHeartbeats 4000000 in
theorem w_X11_dark (p0 : Int32) (p1 : Int32) (p2 : Int32) (mem : mi_M) (a : Int32 × mi_M) (e : f_X11_dark p0 p1 p2 mem = some a) : mi_Ci (5) mX11_dark [vr 11 0, vi p0, vi p1, vi p2] mem (fun x m' => x = a.1 ∧ m' = a.2) := by
  unfold mi_Ci
  refine mi_C_intro (ls := [(0, vr 11 0), (1, vi p0), (2, vi p1), (3, vi p2)]) (by decide) rfl rfl ?_
  obtain ⟨Q0, hq0, h⟩ : ∃ Q0 : (Int32 × mi_M) → Prop, (∀ b, Q0 b → b = a) ∧ wo (f_X11_dark p0 p1 p2 mem) Q0 := ⟨fun b => b = a, fun _ h => h, wo_eq e⟩
  obtain ⟨QX, hQX⟩ : ∃ QX : Option mi_V → mi_M → Prop, QX = (fun r m' => ∃ x, r = some (vi x) ∧ x = a.1 ∧ m' = a.2) := ⟨_, rfl⟩
  rw [← hQX]
  unfold f_X11_dark at h
  refine x_aload_n (pc := 0) dX11_dark_0 rfl ?_
  obtain ⟨hm1, h⟩ := wo_g h
  refine x_getM (pc := 1) dX11_dark_1 fX11_54 rfl (by decide) ?_
  refine x_iload_n (pc := 4) dX11_dark_4 rfl ?_
  refine x_iload_n (pc := 5) dX11_dark_5 rfl ?_
  refine z_Vi2 (pc := 6) h dX11_dark_6 lX11_151 hm1 (by omega) rfl (fun a e => w_X8_hasTwoDoors _ _ _ hm1 _ a e) (fun v2 h => ?_)
  have j21 : wo (f_X11_dark_J21 mem) Q0 → mi_X mX11_dark (5) 21 [] [] mem QX := by
    intro h
    unfold f_X11_dark_J21 at h
    refine x_iconst (pc := 21) dX11_dark_21 (v := (-1 : Int32)) (by decide) ?_
    exact x_iret (pc := 22) dX11_dark_22 rfl (by rw [hQX]; exact ⟨_, rfl, congrArg Prod.fst (hq0 _ (wo_some h)), congrArg Prod.snd (hq0 _ (wo_some h))⟩)
  refine x_if_eq (pc := 9) dX11_dark_9 (tgt := 21) (by decide) (fun c21 => ?_) (fun c21 => ?_)
  · replace h := wo_pos c21 h
    refine x_sub [] trivial ?_
    exact j21 h
  · replace h := wo_neg c21 h
    refine x_iload_n (pc := 12) dX11_dark_12 rfl ?_
    refine x_iconst (pc := 13) dX11_dark_13 (v := (0 : Int32)) (by decide) ?_
    refine x_iconst (pc := 14) dX11_dark_14 (v := (2 : Int32)) (by decide) ?_
    refine z_Si3 (pc := 15) h dX11_dark_15 lX11_155 (by omega) rfl (fun a e => w_X11_isWithin _ _ _ _ a e) (fun v3 h => ?_)
    refine x_if_ne (pc := 18) dX11_dark_18 (tgt := 23) (by decide) (fun c20 => ?_) (fun c20 => ?_)
    · replace h := wo_neg c20 h
      refine x_aload_n (pc := 23) dX11_dark_23 rfl ?_
      refine x_getC (pc := 24) dX11_dark_24 fX11_19 rfl (by decide) ?_
      refine x_iconst (pc := 27) dX11_dark_27 (v := (0 : Int32)) (by decide) ?_
      refine z_Vi1 (pc := 28) h dX11_dark_28 lX11_148 (by decide) (by omega) rfl (fun a e => w_X5_burningBehind _ _ (by decide) _ a e) (fun v4 h => ?_)
      refine x_istore (ls' := [(4, _), (0, _), (1, _), (2, _), (3, _)]) (pc := 31) dX11_dark_31 rfl rfl ?_
      refine x_aload_n (pc := 33) dX11_dark_33 rfl ?_
      obtain ⟨hm5, h⟩ := wo_g h
      refine x_getM (pc := 34) dX11_dark_34 fX11_54 rfl (by decide) ?_
      refine x_getS (pc := 37) dX11_dark_37 fX11_159 rfl hm5 ?_
      refine x_iload (pc := 40) dX11_dark_40 rfl ?_
      refine x_iload_n (pc := 42) dX11_dark_42 rfl ?_
      refine x_iload_n (pc := 43) dX11_dark_43 rfl ?_
      refine y_Vi3 (pc := 44) h dX11_dark_44 lX11_163 hm5 (by omega) rfl (fun a e => w_X9_isThere _ _ _ _ hm5 _ a e) (fun v6 m7 h => ?_)
      refine x_if_ne (pc := 47) dX11_dark_47 (tgt := 52) (by decide) (fun c19 => ?_) (fun c19 => ?_)
      · replace h := wo_neg c19 h
        refine x_iload_n (pc := 52) dX11_dark_52 rfl ?_
        by_cases c8 : p2 = (0 : Int32)
        · replace h := wo_pos c8 h
          refine x_lkT (pc := 53) (c := (0 : Int32)) c8 dX11_dark_53 (by decide) rfl (tgt := 80) (by decide) ?_
          refine x_aload_n (pc := 80) dX11_dark_80 rfl ?_
          obtain ⟨hm9, h⟩ := wo_g h
          refine x_getM (pc := 81) dX11_dark_81 fX11_54 rfl (by decide) ?_
          refine x_getS (pc := 84) dX11_dark_84 fX11_159 rfl hm9 ?_
          refine x_iload (pc := 87) dX11_dark_87 rfl ?_
          refine x_iload_n (pc := 89) dX11_dark_89 rfl ?_
          refine x_iload_n (pc := 90) dX11_dark_90 rfl ?_
          refine y_Vi3 (pc := 91) h dX11_dark_91 lX11_168 hm9 (by omega) rfl (fun a e => w_X9_darkOf _ _ _ _ hm9 _ a e) (fun v10 m11 h => ?_)
          exact x_iret (pc := 94) dX11_dark_94 rfl (by rw [hQX]; exact ⟨_, rfl, congrArg Prod.fst (hq0 _ (wo_some h)), congrArg Prod.snd (hq0 _ (wo_some h))⟩)
        · replace h := wo_neg c8 h
          by_cases c12 : p2 = (1 : Int32)
          · replace h := wo_pos c12 h
            refine x_lkT (pc := 53) (c := (1 : Int32)) c12 dX11_dark_53 (by decide) rfl (tgt := 95) (by decide) ?_
            refine x_aload_n (pc := 95) dX11_dark_95 rfl ?_
            obtain ⟨hm13, h⟩ := wo_g h
            refine x_getM (pc := 96) dX11_dark_96 fX11_54 rfl (by decide) ?_
            refine x_getS (pc := 99) dX11_dark_99 fX11_159 rfl hm13 ?_
            refine x_iload (pc := 102) dX11_dark_102 rfl ?_
            refine x_iload_n (pc := 104) dX11_dark_104 rfl ?_
            refine x_iload_n (pc := 105) dX11_dark_105 rfl ?_
            refine y_Vi3 (pc := 106) h dX11_dark_106 lX11_172 hm13 (by omega) rfl (fun a e => w_X9_minutesOf _ _ _ _ hm13 _ a e) (fun v14 m15 h => ?_)
            exact x_iret (pc := 109) dX11_dark_109 rfl (by rw [hQX]; exact ⟨_, rfl, congrArg Prod.fst (hq0 _ (wo_some h)), congrArg Prod.snd (hq0 _ (wo_some h))⟩)
          · replace h := wo_neg c12 h
            refine x_lookup (pc := 53) dX11_dark_53 (by decide) (off := 57) (by rw [lv_osw c8 (by decide)]; rw [lv_osw c12 (by decide)]; rfl) (tgt := 110) (by decide) ?_
            refine x_aload_n (pc := 110) dX11_dark_110 rfl ?_
            obtain ⟨hm16, h⟩ := wo_g h
            refine x_getM (pc := 111) dX11_dark_111 fX11_54 rfl (by decide) ?_
            refine x_getS (pc := 114) dX11_dark_114 fX11_159 rfl hm16 ?_
            refine x_iload (pc := 117) dX11_dark_117 rfl ?_
            refine x_iload_n (pc := 119) dX11_dark_119 rfl ?_
            refine x_iload_n (pc := 120) dX11_dark_120 rfl ?_
            refine y_Vi3 (pc := 121) h dX11_dark_121 lX11_175 hm16 (by omega) rfl (fun a e => w_X9_firstDoor _ _ _ _ hm16 _ a e) (fun v17 m18 h => ?_)
            exact x_iret (pc := 124) dX11_dark_124 rfl (by rw [hQX]; exact ⟨_, rfl, congrArg Prod.fst (hq0 _ (wo_some h)), congrArg Prod.snd (hq0 _ (wo_some h))⟩)
      · replace h := wo_pos c19 h
        refine x_iconst (pc := 50) dX11_dark_50 (v := (-1 : Int32)) (by decide) ?_
        exact x_iret (pc := 51) dX11_dark_51 rfl (by rw [hQX]; exact ⟨_, rfl, congrArg Prod.fst (hq0 _ (wo_some h)), congrArg Prod.snd (hq0 _ (wo_some h))⟩)
    · replace h := wo_pos c20 h
      refine x_sub [] trivial ?_
      exact j21 h
noncomputable def f_X6_append_J70 (l2 : Int32) (m5 : mi_M) : Option ((Int32 × mi_M) ⊕ (mi_M)) := some (.inl ((l2 + (-8 : Int32)), m5))
noncomputable def f_X6_append_J36 (l2 : Int32) (m3 : mi_M) (v4 : Int32) : Option ((Int32 × mi_M) ⊕ (mi_M)) := if (1000 : Int32) ≤ (m3.1 6 0 0) then f_X6_append_J70 l2 m3 else mi_g (vp_in (m3.1 6 0 0) 1000) (mi_let (mi_wI m3 37 0 (m3.1 6 0 0).toNatClampNeg (vp_nar .byte ((v4).toInt8.toInt32))) fun m7 => mi_let (mi_wI m7 6 0 0 ((m7.1 6 0 0) + (1 : Int32))) fun m8 => f_X6_append_J70 l2 m8)
noncomputable def f_X6_append_B3 (p0 : Int64) : (Int32 × mi_M) → Option ((Int32 × mi_M) ⊕ (mi_M)) := fun s => match s with | (l2, m3) => if l2 < 0 then some (.inr m3) else mi_let (((((p0).toUInt64 >>> ((l2).toInt64.toUInt64 &&& Int64.toUInt64 63)).toInt64 &&& (255 : Int64))).toInt32) fun v4 => if v4 = (10 : Int32) then f_X6_append_J36 l2 m3 v4 else mi_bo (f_X11_isWithin v4 (32 : Int32) (126 : Int32) m3) fun v10 => if v10 = 0 then f_X6_append_J70 l2 m3 else f_X6_append_J36 l2 m3 v4
noncomputable def f_X6_append_K3 : mi_M → Option (mi_M) := fun m1 => some m1
noncomputable def f_X6_append (p0 : Int64) (mem : mi_M) : Option (mi_M) := mi_bo (mi_lp (f_X6_append_B3 p0) mi_fu ((56 : Int32), mem)) (f_X6_append_K3)
set_option maxRecDepth 100000 in
set_option maxHeartbeats 4000000 in
theorem w_X6_append (p0 : Int64) (mem : mi_M) (a : mi_M) (e : f_X6_append p0 mem = some a) : mi_Cv (2) mX6_append [vr 6 0, vl p0] mem (fun m' => m' = a) := by
  unfold mi_Cv
  refine mi_C_intro (ls := [(0, vr 6 0), (1, vl p0)]) (by decide) rfl rfl ?_
  obtain ⟨Q0, hq0, h⟩ : ∃ Q0 : mi_M → Prop, (∀ b, Q0 b → b = a) ∧ wo (f_X6_append p0 mem) Q0 := ⟨fun b => b = a, fun _ h => h, wo_eq e⟩
  obtain ⟨QX, hQX⟩ : ∃ QX : Option mi_V → mi_M → Prop, QX = (fun r m' => r = none ∧ m' = a) := ⟨_, rfl⟩
  rw [← hQX]
  unfold f_X6_append at h
  refine x_bipush (pc := 0) dX6_append_0 (v := (56 : Int32)) (by decide) ?_
  refine x_istore_n (ls' := [(3, _), (0, _), (1, _)]) (pc := 2) dX6_append_2 rfl rfl rfl ?_
  have k3_0 : ∀ (m1 : mi_M), wo (f_X6_append_K3 m1) Q0 → mi_X mX6_append (2) 76 [] [] m1 QX := by
    intro m1 h
    unfold f_X6_append_K3 at h
    try dsimp only at h
    exact x_ret (pc := 76) dX6_append_76 rfl (by rw [hQX]; exact ⟨rfl, hq0 _ (wo_some h)⟩)
  refine x_sub [(0, _), (1, _), (3, _)] ⟨rfl, rfl, rfl, trivial⟩ ?_
  obtain ⟨ea, eb, h⟩ := wo_bo h
  refine wo_lq (X := fun s => match s with | (l2, m3) => mi_X mX6_append (2) 3 [(0, vr 6 0), (1, vl p0), (3, vi l2)] [] m3 QX) (E := fun e => wo (f_X6_append_K3 e) Q0) ?_ _ ((56 : Int32), mem) ⟨_, eb, h⟩
  intro Q3 hb3 he3 s h
  obtain ⟨l2, m3⟩ := s
  show mi_X mX6_append (2) 3 [(0, vr 6 0), (1, vl p0), (3, vi l2)] [] m3 QX
  unfold f_X6_append_B3 at h
  try dsimp only at h
  refine x_iload_n (pc := 3) dX6_append_3 rfl ?_
  refine x_if_lt (pc := 4) dX6_append_4 (tgt := 76) (by decide) (fun c13 => ?_) (fun c13 => ?_)
  · replace h := wo_pos c13 h
    refine x_sub [] trivial ?_
    exact k3_0 _ (he3 m3 (wo_some h))
  · replace h := wo_neg c13 h
    refine x_lload_n (pc := 7) dX6_append_7 rfl ?_
    refine x_iload_n (pc := 8) dX6_append_8 rfl ?_
    refine x_lushr (pc := 9) dX6_append_9 rfl ?_
    refine x_ldc2 (pc := 10) dX6_append_10 kX6_15 ?_
    refine x_land (pc := 13) dX6_append_13 ?_
    refine x_l2i (pc := 14) dX6_append_14 rfl ?_
    refine x_leti h (fun v4 h => ?_)
    refine x_istore (ls' := [(4, _), (0, _), (1, _), (3, _)]) (pc := 15) dX6_append_15 rfl rfl ?_
    refine x_iload (pc := 17) dX6_append_17 rfl ?_
    refine x_bipush (pc := 19) dX6_append_19 (v := (10 : Int32)) (by decide) ?_
    have j70 : ∀ (m5 : mi_M), wo (f_X6_append_J70 l2 m5) Q3 → mi_X mX6_append (2) 70 [(0, vr 6 0), (1, vl p0), (3, vi l2)] [] m5 QX := by
      intro m5 h
      unfold f_X6_append_J70 at h
      refine x_iinc (ls' := [(3, _), (0, _), (1, _)]) (pc := 70) dX6_append_70 rfl (v := l2 + (-8 : Int32)) rfl rfl rfl ?_
      refine x_goto (pc := 73) dX6_append_73 (tgt := 3) (by decide) ?_
      refine x_sub [(0, _), (1, _), (3, _)] ⟨rfl, rfl, rfl, trivial⟩ ?_
      exact hb3 ((l2 + (-8 : Int32)), m5) (wo_some h)
    have j36 : wo (f_X6_append_J36 l2 m3 v4) Q3 → mi_X mX6_append (2) 36 [(0, vr 6 0), (1, vl p0), (3, vi l2), (4, vi v4)] [] m3 QX := by
      intro h
      unfold f_X6_append_J36 at h
      refine x_aload_n (pc := 36) dX6_append_36 rfl ?_
      refine x_getI (pc := 37) dX6_append_37 fX6_21 rfl (by decide) ?_
      refine x_aload_n (pc := 40) dX6_append_40 rfl ?_
      refine x_getS (pc := 41) dX6_append_41 fX6_11 rfl (by decide) ?_
      refine x_alen (pc := 44) dX6_append_44 rfl (by decide) rfl (by decide) (v := (1000 : Int32)) (by decide) ?_
      refine x_icmp_ge (pc := 45) dX6_append_45 (tgt := 70) (by decide) (fun c9 => ?_) (fun c9 => ?_)
      · replace h := wo_pos c9 h
        refine x_sub [(0, _), (1, _), (3, _)] ⟨rfl, rfl, rfl, trivial⟩ ?_
        exact j70 _ h
      · replace h := wo_neg c9 h
        refine x_aload_n (pc := 48) dX6_append_48 rfl ?_
        refine x_getS (pc := 49) dX6_append_49 fX6_11 rfl (by decide) ?_
        refine x_aload_n (pc := 52) dX6_append_52 rfl ?_
        refine x_getI (pc := 53) dX6_append_53 fX6_21 rfl (by decide) ?_
        refine x_iload (pc := 56) dX6_append_56 rfl ?_
        refine x_i2b (pc := 58) dX6_append_58 rfl ?_
        obtain ⟨hx6, h⟩ := wo_g h
        refine x_bastJ (pc := 59) dX6_append_59 rfl rfl (by decide) rfl hx6 ?_
        refine x_letm h (fun m7 h => ?_)
        refine x_aload_n (pc := 60) dX6_append_60 rfl ?_
        refine x_dup (pc := 61) dX6_append_61 rfl ?_
        refine x_getI (pc := 62) dX6_append_62 fX6_21 rfl (by decide) ?_
        refine x_iconst (pc := 65) dX6_append_65 (v := (1 : Int32)) (by decide) ?_
        refine x_iadd (pc := 66) dX6_append_66 ?_
        refine x_putI (pc := 67) dX6_append_67 fX6_21 rfl (by decide) rfl rfl ?_
        refine x_letm h (fun m8 h => ?_)
        refine x_sub [(0, _), (1, _), (3, _)] ⟨rfl, rfl, rfl, trivial⟩ ?_
        exact j70 _ h
    refine x_icmp_eq (pc := 21) dX6_append_21 (tgt := 36) (by decide) (fun c12 => ?_) (fun c12 => ?_)
    · replace h := wo_pos c12 h
      refine x_sub [(0, _), (1, _), (3, _), (4, _)] ⟨rfl, rfl, rfl, rfl, trivial⟩ ?_
      exact j36 h
    · replace h := wo_neg c12 h
      refine x_iload (pc := 24) dX6_append_24 rfl ?_
      refine x_bipush (pc := 26) dX6_append_26 (v := (32 : Int32)) (by decide) ?_
      refine x_bipush (pc := 28) dX6_append_28 (v := (126 : Int32)) (by decide) ?_
      refine z_Ni3 (pc := 30) h dX6_append_30 nX6_17 (by omega) rfl (fun a e => w_X11_isWithin _ _ _ _ a e) (fun v10 h => ?_)
      refine x_if_eq (pc := 33) dX6_append_33 (tgt := 70) (by decide) (fun c11 => ?_) (fun c11 => ?_)
      · replace h := wo_pos c11 h
        refine x_sub [(0, _), (1, _), (3, _)] ⟨rfl, rfl, rfl, trivial⟩ ?_
        exact j70 _ h
      · replace h := wo_neg c11 h
        refine x_sub [(0, _), (1, _), (3, _), (4, _)] ⟨rfl, rfl, rfl, rfl, trivial⟩ ?_
        exact j36 h
noncomputable def f_X11_feed (p0 : Int64) (p1 : Int64) (p2 : Int64) (mem : mi_M) : Option (Int32 × mi_M) := mi_bo (f_X6_append p0 mem) fun m1 => mi_bo (f_X6_append p1 m1) fun m2 => mi_bo (f_X6_append p2 m2) fun m3 => some ((m3.1 6 0 0), m3)
set_option maxRecDepth 100000 in
set_option maxHeartbeats 4000000 in
theorem w_X11_feed (p0 : Int64) (p1 : Int64) (p2 : Int64) (mem : mi_M) (a : Int32 × mi_M) (e : f_X11_feed p0 p1 p2 mem = some a) : mi_Ci (3) mX11_feed [vr 11 0, vl p0, vl p1, vl p2] mem (fun x m' => x = a.1 ∧ m' = a.2) := by
  unfold mi_Ci
  refine mi_C_intro (ls := [(0, vr 11 0), (1, vl p0), (3, vl p1), (5, vl p2)]) (by decide) rfl rfl ?_
  obtain ⟨Q0, hq0, h⟩ : ∃ Q0 : (Int32 × mi_M) → Prop, (∀ b, Q0 b → b = a) ∧ wo (f_X11_feed p0 p1 p2 mem) Q0 := ⟨fun b => b = a, fun _ h => h, wo_eq e⟩
  obtain ⟨QX, hQX⟩ : ∃ QX : Option mi_V → mi_M → Prop, QX = (fun r m' => ∃ x, r = some (vi x) ∧ x = a.1 ∧ m' = a.2) := ⟨_, rfl⟩
  rw [← hQX]
  unfold f_X11_feed at h
  refine x_aload_n (pc := 0) dX11_feed_0 rfl ?_
  refine x_getC (pc := 1) dX11_feed_1 fX11_10 rfl (by decide) ?_
  refine x_getC (pc := 4) dX11_feed_4 fX11_71 rfl (by decide) ?_
  refine x_lload_n (pc := 7) dX11_feed_7 rfl ?_
  refine y_Vv1 (pc := 8) h dX11_feed_8 lX11_75 (by decide) (by omega) rfl (fun a e => w_X6_append _ _ a e) (fun m1 h => ?_)
  refine x_aload_n (pc := 11) dX11_feed_11 rfl ?_
  refine x_getC (pc := 12) dX11_feed_12 fX11_10 rfl (by decide) ?_
  refine x_getC (pc := 15) dX11_feed_15 fX11_71 rfl (by decide) ?_
  refine x_lload_n (pc := 18) dX11_feed_18 rfl ?_
  refine y_Vv1 (pc := 19) h dX11_feed_19 lX11_75 (by decide) (by omega) rfl (fun a e => w_X6_append _ _ a e) (fun m2 h => ?_)
  refine x_aload_n (pc := 22) dX11_feed_22 rfl ?_
  refine x_getC (pc := 23) dX11_feed_23 fX11_10 rfl (by decide) ?_
  refine x_getC (pc := 26) dX11_feed_26 fX11_71 rfl (by decide) ?_
  refine x_lload (pc := 29) dX11_feed_29 rfl ?_
  refine y_Vv1 (pc := 31) h dX11_feed_31 lX11_75 (by decide) (by omega) rfl (fun a e => w_X6_append _ _ a e) (fun m3 h => ?_)
  refine x_aload_n (pc := 34) dX11_feed_34 rfl ?_
  refine x_getC (pc := 35) dX11_feed_35 fX11_10 rfl (by decide) ?_
  refine x_getC (pc := 38) dX11_feed_38 fX11_71 rfl (by decide) ?_
  refine x_getI (pc := 41) dX11_feed_41 fX11_81 rfl (by decide) ?_
  exact x_iret (pc := 44) dX11_feed_44 rfl (by rw [hQX]; exact ⟨_, rfl, congrArg Prod.fst (hq0 _ (wo_some h)), congrArg Prod.snd (hq0 _ (wo_some h))⟩)
noncomputable def f_X11_give_J21 (mem : mi_M) : Option (Int32 × mi_M) := some ((-1 : Int32), mem)
noncomputable def f_X11_give_J46 (m5 : mi_M) (u6 : Int32) : Option (Int32 × mi_M) := some (u6, m5)
noncomputable def f_X11_give (p0 : Int32) (p1 : Int32) (mem : mi_M) : Option (Int32 × mi_M) := mi_g (mem.2.2 0 < mi_n 8) (mi_bo (f_X8_hasWrong (mem.2.2 0) p0 mem) fun v2 => if v2 = 0 then f_X11_give_J21 mem else mi_bo (f_X11_isWithin p1 (1 : Int32) (99 : Int32) mem) fun v3 => if v3 = 0 then f_X11_give_J21 mem else mi_b (f_X11_doByHand (1 : Int32) p0 p1 mem) fun v4 m5 => if v4 = 0 then f_X11_give_J46 m5 (-1 : Int32) else mi_g (vp_in p0 8) (f_X11_give_J46 m5 (m5.1 34 0 p0.toNatClampNeg)))
set_option maxRecDepth 100000 in
set_option maxHeartbeats 4000000 in
theorem w_X11_give (p0 : Int32) (p1 : Int32) (mem : mi_M) (a : Int32 × mi_M) (e : f_X11_give p0 p1 mem = some a) : mi_Ci (8) mX11_give [vr 11 0, vi p0, vi p1] mem (fun x m' => x = a.1 ∧ m' = a.2) := by
  unfold mi_Ci
  refine mi_C_intro (ls := [(0, vr 11 0), (1, vi p0), (2, vi p1)]) (by decide) rfl rfl ?_
  obtain ⟨Q0, hq0, h⟩ : ∃ Q0 : (Int32 × mi_M) → Prop, (∀ b, Q0 b → b = a) ∧ wo (f_X11_give p0 p1 mem) Q0 := ⟨fun b => b = a, fun _ h => h, wo_eq e⟩
  obtain ⟨QX, hQX⟩ : ∃ QX : Option mi_V → mi_M → Prop, QX = (fun r m' => ∃ x, r = some (vi x) ∧ x = a.1 ∧ m' = a.2) := ⟨_, rfl⟩
  rw [← hQX]
  unfold f_X11_give at h
  refine x_aload_n (pc := 0) dX11_give_0 rfl ?_
  obtain ⟨hm1, h⟩ := wo_g h
  refine x_getM (pc := 1) dX11_give_1 fX11_54 rfl (by decide) ?_
  refine x_iload_n (pc := 4) dX11_give_4 rfl ?_
  refine z_Vi1 (pc := 5) h dX11_give_5 lX11_123 hm1 (by omega) rfl (fun a e => w_X8_hasWrong _ _ hm1 _ a e) (fun v2 h => ?_)
  have j21 : wo (f_X11_give_J21 mem) Q0 → mi_X mX11_give (8) 21 [] [] mem QX := by
    intro h
    unfold f_X11_give_J21 at h
    refine x_iconst (pc := 21) dX11_give_21 (v := (-1 : Int32)) (by decide) ?_
    exact x_iret (pc := 22) dX11_give_22 rfl (by rw [hQX]; exact ⟨_, rfl, congrArg Prod.fst (hq0 _ (wo_some h)), congrArg Prod.snd (hq0 _ (wo_some h))⟩)
  refine x_if_eq (pc := 8) dX11_give_8 (tgt := 21) (by decide) (fun c10 => ?_) (fun c10 => ?_)
  · replace h := wo_pos c10 h
    refine x_sub [] trivial ?_
    exact j21 h
  · replace h := wo_neg c10 h
    refine x_iload_n (pc := 11) dX11_give_11 rfl ?_
    refine x_iconst (pc := 12) dX11_give_12 (v := (1 : Int32)) (by decide) ?_
    refine x_bipush (pc := 13) dX11_give_13 (v := (99 : Int32)) (by decide) ?_
    refine z_Si3 (pc := 15) h dX11_give_15 lX11_155 (by omega) rfl (fun a e => w_X11_isWithin _ _ _ _ a e) (fun v3 h => ?_)
    refine x_if_ne (pc := 18) dX11_give_18 (tgt := 23) (by decide) (fun c9 => ?_) (fun c9 => ?_)
    · replace h := wo_neg c9 h
      refine x_aload_n (pc := 23) dX11_give_23 rfl ?_
      refine x_iconst (pc := 24) dX11_give_24 (v := (1 : Int32)) (by decide) ?_
      refine x_iload_n (pc := 25) dX11_give_25 rfl ?_
      refine x_iload_n (pc := 26) dX11_give_26 rfl ?_
      refine y_Vi3 (pc := 27) h dX11_give_27 lX11_181 (by decide) (by omega) rfl (fun a e => w_X11_doByHand _ _ _ _ a e) (fun v4 m5 h => ?_)
      have j46 : ∀ (u6 : Int32), wo (f_X11_give_J46 m5 u6) Q0 → mi_X mX11_give (8) 46 [] [vi u6] m5 QX := by
        intro u6 h
        unfold f_X11_give_J46 at h
        exact x_iret (pc := 46) dX11_give_46 rfl (by rw [hQX]; exact ⟨_, rfl, congrArg Prod.fst (hq0 _ (wo_some h)), congrArg Prod.snd (hq0 _ (wo_some h))⟩)
      refine x_if_eq (pc := 30) dX11_give_30 (tgt := 45) (by decide) (fun c8 => ?_) (fun c8 => ?_)
      · replace h := wo_pos c8 h
        refine x_iconst (pc := 45) dX11_give_45 (v := (-1 : Int32)) (by decide) ?_
        refine x_sub [] trivial ?_
        exact j46 _ h
      · replace h := wo_neg c8 h
        refine x_aload_n (pc := 33) dX11_give_33 rfl ?_
        refine x_getC (pc := 34) dX11_give_34 fX11_19 rfl (by decide) ?_
        refine x_getS (pc := 37) dX11_give_37 fX11_135 rfl (by decide) ?_
        refine x_iload_n (pc := 40) dX11_give_40 rfl ?_
        obtain ⟨hx7, h⟩ := wo_g h
        refine x_ialdJ (pc := 41) dX11_give_41 rfl rfl (by decide) hx7 ?_
        refine x_goto (pc := 42) dX11_give_42 (tgt := 46) (by decide) ?_
        refine x_sub [] trivial ?_
        exact j46 _ h
    · replace h := wo_pos c9 h
      refine x_sub [] trivial ?_
      exact j21 h
noncomputable def f_X11_grudges_J84 (l5 : Int32) (u8 : Int32) : Option ((Int32 × Int32) ⊕ (Int32)) := some (.inl (u8, (l5 + (1 : Int32))))
noncomputable def f_X11_grudges_J57 (p0 : Int32) (mem : mi_M) (l4 : Int32) (l5 : Int32) (u7 : Int32) : Option ((Int32 × Int32) ⊕ (Int32)) := if u7 = p0 then mi_bo (f_X5_isForgiven 0 l5 mem) fun v9 => if v9 = 0 then mi_let (l4 ||| ((1 : Int32) <<< (l5 &&& 31))) fun v10 => f_X11_grudges_J84 l5 v10 else f_X11_grudges_J84 l5 l4 else f_X11_grudges_J84 l5 l4
noncomputable def f_X11_grudges_B18 (p0 : Int32) (p1 : Int32) (mem : mi_M) : (Int32 × Int32) → Option ((Int32 × Int32) ⊕ (Int32)) := fun s => match s with | (l4, l5) => mi_g (mem.2.2 0 < mi_n 8) (if (mem.1 8 (mem.2.2 0) 1) ≤ l5 then some (.inr l4) else if p1 = 0 then mi_g (mem.2.2 0 < mi_n 8) (mi_g (vp_in l5 8) (f_X11_grudges_J57 p0 mem l4 l5 (mem.1 42 (mem.2.2 0) l5.toNatClampNeg))) else mi_g (mem.2.2 0 < mi_n 8) (mi_g (vp_in l5 8) (f_X11_grudges_J57 p0 mem l4 l5 (mem.1 41 (mem.2.2 0) l5.toNatClampNeg))))
noncomputable def f_X11_grudges_K18 : Int32 → Option (Int32) := fun e3 => some e3
noncomputable def f_X11_grudges (p0 : Int32) (p1 : Int32) (mem : mi_M) : Option (Int32) := mi_g (mem.2.2 0 < mi_n 8) (mi_bo (f_X8_hasPerson (mem.2.2 0) p0 mem) fun v2 => if v2 = 0 then some (-1 : Int32) else mi_bo (mi_lp (f_X11_grudges_B18 p0 p1 mem) mi_fu ((0 : Int32), (0 : Int32))) (f_X11_grudges_K18))
set_option maxRecDepth 100000 in
set_option maxHeartbeats 4000000 in
theorem w_X11_grudges (p0 : Int32) (p1 : Int32) (mem : mi_M) (a : Int32) (e : f_X11_grudges p0 p1 mem = some a) : mi_Ci (3) mX11_grudges [vr 11 0, vi p0, vi p1] mem (fun x m' => x = a ∧ m' = mem) := by
  unfold mi_Ci
  refine mi_C_intro (ls := [(0, vr 11 0), (1, vi p0), (2, vi p1)]) (by decide) rfl rfl ?_
  obtain ⟨Q0, hq0, h⟩ : ∃ Q0 : Int32 → Prop, (∀ b, Q0 b → b = a) ∧ wo (f_X11_grudges p0 p1 mem) Q0 := ⟨fun b => b = a, fun _ h => h, wo_eq e⟩
  obtain ⟨QX, hQX⟩ : ∃ QX : Option mi_V → mi_M → Prop, QX = (fun r m' => ∃ x, r = some (vi x) ∧ x = a ∧ m' = mem) := ⟨_, rfl⟩
  rw [← hQX]
  unfold f_X11_grudges at h
  refine x_aload_n (pc := 0) dX11_grudges_0 rfl ?_
  obtain ⟨hm1, h⟩ := wo_g h
  refine x_getM (pc := 1) dX11_grudges_1 fX11_54 rfl (by decide) ?_
  refine x_iload_n (pc := 4) dX11_grudges_4 rfl ?_
  refine z_Vi1 (pc := 5) h dX11_grudges_5 lX11_109 hm1 (by omega) rfl (fun a e => w_X8_hasPerson _ _ hm1 _ a e) (fun v2 h => ?_)
  refine x_if_ne (pc := 8) dX11_grudges_8 (tgt := 13) (by decide) (fun c19 => ?_) (fun c19 => ?_)
  · replace h := wo_neg c19 h
    refine x_iconst (pc := 13) dX11_grudges_13 (v := (0 : Int32)) (by decide) ?_
    refine x_istore_n (ls' := [(3, _), (0, _), (1, _), (2, _)]) (pc := 14) dX11_grudges_14 rfl rfl rfl ?_
    refine x_iconst (pc := 15) dX11_grudges_15 (v := (0 : Int32)) (by decide) ?_
    refine x_istore (ls' := [(4, _), (3, _), (0, _), (1, _), (2, _)]) (pc := 16) dX11_grudges_16 rfl rfl ?_
    have k18_0 : ∀ (e3 : Int32), wo (f_X11_grudges_K18 e3) Q0 → mi_X mX11_grudges (3) 90 [(3, vi e3)] [] mem QX := by
      intro e3 h
      unfold f_X11_grudges_K18 at h
      try dsimp only at h
      refine x_iload_n (pc := 90) dX11_grudges_90 rfl ?_
      exact x_iret (pc := 91) dX11_grudges_91 rfl (by rw [hQX]; exact ⟨_, rfl, hq0 _ (wo_some h), rfl⟩)
    refine x_sub [(0, _), (1, _), (2, _), (3, _), (4, _)] ⟨rfl, rfl, rfl, rfl, rfl, trivial⟩ ?_
    obtain ⟨ea, eb, h⟩ := wo_bo h
    refine wo_lq (X := fun s => match s with | (l4, l5) => mi_X mX11_grudges (3) 18 [(0, vr 11 0), (1, vi p0), (2, vi p1), (3, vi l4), (4, vi l5)] [] mem QX) (E := fun e => wo (f_X11_grudges_K18 e) Q0) ?_ _ ((0 : Int32), (0 : Int32)) ⟨_, eb, h⟩
    intro Q18 hb18 he18 s h
    obtain ⟨l4, l5⟩ := s
    show mi_X mX11_grudges (3) 18 [(0, vr 11 0), (1, vi p0), (2, vi p1), (3, vi l4), (4, vi l5)] [] mem QX
    unfold f_X11_grudges_B18 at h
    try dsimp only at h
    refine x_iload (pc := 18) dX11_grudges_18 rfl ?_
    refine x_aload_n (pc := 20) dX11_grudges_20 rfl ?_
    obtain ⟨hm6, h⟩ := wo_g h
    refine x_getM (pc := 21) dX11_grudges_21 fX11_54 rfl (by decide) ?_
    refine x_getI (pc := 24) dX11_grudges_24 fX11_102 rfl hm6 ?_
    refine x_icmp_ge (pc := 27) dX11_grudges_27 (tgt := 90) (by decide) (fun c18 => ?_) (fun c18 => ?_)
    · replace h := wo_pos c18 h
      refine x_sub [(3, _)] ⟨rfl, trivial⟩ ?_
      exact k18_0 _ (he18 l4 (wo_some h))
    · replace h := wo_neg c18 h
      refine x_iload_n (pc := 30) dX11_grudges_30 rfl ?_
      have j57 : ∀ (u7 : Int32), wo (f_X11_grudges_J57 p0 mem l4 l5 u7) Q18 → mi_X mX11_grudges (3) 57 [(0, vr 11 0), (1, vi p0), (2, vi p1), (3, vi l4), (4, vi l5)] [vi u7] mem QX := by
        intro u7 h
        unfold f_X11_grudges_J57 at h
        refine x_istore (ls' := [(5, _), (0, _), (1, _), (2, _), (3, _), (4, _)]) (pc := 57) dX11_grudges_57 rfl rfl ?_
        refine x_iload (pc := 59) dX11_grudges_59 rfl ?_
        refine x_iload_n (pc := 61) dX11_grudges_61 rfl ?_
        have j84 : ∀ (u8 : Int32), wo (f_X11_grudges_J84 l5 u8) Q18 → mi_X mX11_grudges (3) 84 [(0, vr 11 0), (1, vi p0), (2, vi p1), (3, vi u8), (4, vi l5)] [] mem QX := by
          intro u8 h
          unfold f_X11_grudges_J84 at h
          refine x_iinc (ls' := [(4, _), (0, _), (1, _), (2, _), (3, _)]) (pc := 84) dX11_grudges_84 rfl (v := l5 + (1 : Int32)) rfl rfl rfl ?_
          refine x_goto (pc := 87) dX11_grudges_87 (tgt := 18) (by decide) ?_
          refine x_sub [(0, _), (1, _), (2, _), (3, _), (4, _)] ⟨rfl, rfl, rfl, rfl, rfl, trivial⟩ ?_
          exact hb18 (u8, (l5 + (1 : Int32))) (wo_some h)
        refine x_icmp_ne (pc := 62) dX11_grudges_62 (tgt := 84) (by decide) (fun c12 => ?_) (fun c12 => ?_)
        · replace h := wo_neg c12 h
          refine x_sub [(0, _), (1, _), (2, _), (3, _), (4, _)] ⟨rfl, rfl, rfl, rfl, rfl, trivial⟩ ?_
          exact j84 _ h
        · replace h := wo_pos c12 h
          refine x_aload_n (pc := 65) dX11_grudges_65 rfl ?_
          refine x_getC (pc := 66) dX11_grudges_66 fX11_19 rfl (by decide) ?_
          refine x_iload (pc := 69) dX11_grudges_69 rfl ?_
          refine z_Vi1 (pc := 71) h dX11_grudges_71 lX11_138 (by decide) (by omega) rfl (fun a e => w_X5_isForgiven _ _ (by decide) _ a e) (fun v9 h => ?_)
          refine x_if_ne (pc := 74) dX11_grudges_74 (tgt := 84) (by decide) (fun c11 => ?_) (fun c11 => ?_)
          · replace h := wo_neg c11 h
            refine x_sub [(0, _), (1, _), (2, _), (3, _), (4, _)] ⟨rfl, rfl, rfl, rfl, rfl, trivial⟩ ?_
            exact j84 _ h
          · replace h := wo_pos c11 h
            refine x_iload_n (pc := 77) dX11_grudges_77 rfl ?_
            refine x_iconst (pc := 78) dX11_grudges_78 (v := (1 : Int32)) (by decide) ?_
            refine x_iload (pc := 79) dX11_grudges_79 rfl ?_
            refine x_ishl (pc := 81) dX11_grudges_81 ?_
            refine x_ior (pc := 82) dX11_grudges_82 ?_
            refine x_leti h (fun v10 h => ?_)
            refine x_istore_n (ls' := [(3, _), (5, _), (0, _), (1, _), (2, _), (4, _)]) (pc := 83) dX11_grudges_83 rfl rfl rfl ?_
            refine x_sub [(0, _), (1, _), (2, _), (3, _), (4, _)] ⟨rfl, rfl, rfl, rfl, rfl, trivial⟩ ?_
            exact j84 _ h
      refine x_if_eq (pc := 31) dX11_grudges_31 (tgt := 47) (by decide) (fun c17 => ?_) (fun c17 => ?_)
      · replace h := wo_pos c17 h
        refine x_aload_n (pc := 47) dX11_grudges_47 rfl ?_
        obtain ⟨hm13, h⟩ := wo_g h
        refine x_getM (pc := 48) dX11_grudges_48 fX11_54 rfl (by decide) ?_
        refine x_getS (pc := 51) dX11_grudges_51 fX11_129 rfl hm13 ?_
        refine x_iload (pc := 54) dX11_grudges_54 rfl ?_
        obtain ⟨hx14, h⟩ := wo_g h
        refine x_ialdJ (pc := 56) dX11_grudges_56 rfl rfl hm13 hx14 ?_
        refine x_sub [(0, _), (1, _), (2, _), (3, _), (4, _)] ⟨rfl, rfl, rfl, rfl, rfl, trivial⟩ ?_
        exact j57 _ h
      · replace h := wo_neg c17 h
        refine x_aload_n (pc := 34) dX11_grudges_34 rfl ?_
        obtain ⟨hm15, h⟩ := wo_g h
        refine x_getM (pc := 35) dX11_grudges_35 fX11_54 rfl (by decide) ?_
        refine x_getS (pc := 38) dX11_grudges_38 fX11_126 rfl hm15 ?_
        refine x_iload (pc := 41) dX11_grudges_41 rfl ?_
        obtain ⟨hx16, h⟩ := wo_g h
        refine x_ialdJ (pc := 43) dX11_grudges_43 rfl rfl hm15 hx16 ?_
        refine x_goto (pc := 44) dX11_grudges_44 (tgt := 57) (by decide) ?_
        refine x_sub [(0, _), (1, _), (2, _), (3, _), (4, _)] ⟨rfl, rfl, rfl, rfl, rfl, trivial⟩ ?_
        exact j57 _ h
  · replace h := wo_pos c19 h
    refine x_iconst (pc := 11) dX11_grudges_11 (v := (-1 : Int32)) (by decide) ?_
    exact x_iret (pc := 12) dX11_grudges_12 rfl (by rw [hQX]; exact ⟨_, rfl, hq0 _ (wo_some h), rfl⟩)
noncomputable def f_X11_harm (mem : mi_M) : Option (Int32 × mi_M) := mi_g (mem.2.2 0 < mi_n 8) (mi_bo (f_X5_burningBehind 0 (0 : Int32) mem) fun v2 => mi_b (f_X9_harmBy (mem.2.2 0) v2 mem) fun v3 m4 => some (v3, m4))
set_option maxRecDepth 100000 in
set_option maxHeartbeats 4000000 in
theorem w_X11_harm (mem : mi_M) (a : Int32 × mi_M) (e : f_X11_harm  mem = some a) : mi_Ci (5) mX11_harm [vr 11 0] mem (fun x m' => x = a.1 ∧ m' = a.2) := by
  unfold mi_Ci
  refine mi_C_intro (ls := [(0, vr 11 0)]) (by decide) rfl rfl ?_
  obtain ⟨Q0, hq0, h⟩ : ∃ Q0 : (Int32 × mi_M) → Prop, (∀ b, Q0 b → b = a) ∧ wo (f_X11_harm  mem) Q0 := ⟨fun b => b = a, fun _ h => h, wo_eq e⟩
  obtain ⟨QX, hQX⟩ : ∃ QX : Option mi_V → mi_M → Prop, QX = (fun r m' => ∃ x, r = some (vi x) ∧ x = a.1 ∧ m' = a.2) := ⟨_, rfl⟩
  rw [← hQX]
  unfold f_X11_harm at h
  refine x_aload_n (pc := 0) dX11_harm_0 rfl ?_
  obtain ⟨hm1, h⟩ := wo_g h
  refine x_getM (pc := 1) dX11_harm_1 fX11_54 rfl (by decide) ?_
  refine x_getS (pc := 4) dX11_harm_4 fX11_159 rfl hm1 ?_
  refine x_aload_n (pc := 7) dX11_harm_7 rfl ?_
  refine x_getC (pc := 8) dX11_harm_8 fX11_19 rfl (by decide) ?_
  refine x_iconst (pc := 11) dX11_harm_11 (v := (0 : Int32)) (by decide) ?_
  refine z_Vi1 (pc := 12) h dX11_harm_12 lX11_148 (by decide) (by omega) rfl (fun a e => w_X5_burningBehind _ _ (by decide) _ a e) (fun v2 h => ?_)
  refine y_Vi1 (pc := 15) h dX11_harm_15 lX11_178 hm1 (by omega) rfl (fun a e => w_X9_harmBy _ _ hm1 _ a e) (fun v3 m4 h => ?_)
  exact x_iret (pc := 18) dX11_harm_18 rfl (by rw [hQX]; exact ⟨_, rfl, congrArg Prod.fst (hq0 _ (wo_some h)), congrArg Prod.snd (hq0 _ (wo_some h))⟩)
noncomputable def f_X11_isPartOf_J13 (u1 : Int32) : Option (Int32) := mi_g (u1 = 0 ∨ u1 = 1) (some u1)
noncomputable def f_X11_isPartOf (p0 : Int32) (p1 : Int32) (mem : mi_M) : Option (Int32) := if (p0 &&& (p1 ^^^ (-1 : Int32))) = 0 then f_X11_isPartOf_J13 (1 : Int32) else f_X11_isPartOf_J13 (0 : Int32)
set_option maxRecDepth 100000 in
set_option maxHeartbeats 4000000 in
theorem w_X11_isPartOf (p0 : Int32) (p1 : Int32) (mem : mi_M) (a : Int32) (e : f_X11_isPartOf p0 p1 mem = some a) : mi_Ci (1) mX11_isPartOf [vi p0, vi p1] mem (fun x m' => x = a ∧ m' = mem) := by
  unfold mi_Ci
  refine mi_C_intro (ls := [(0, vi p0), (1, vi p1)]) (by decide) rfl rfl ?_
  obtain ⟨Q0, hq0, h⟩ : ∃ Q0 : Int32 → Prop, (∀ b, Q0 b → b = a) ∧ wo (f_X11_isPartOf p0 p1 mem) Q0 := ⟨fun b => b = a, fun _ h => h, wo_eq e⟩
  obtain ⟨QX, hQX⟩ : ∃ QX : Option mi_V → mi_M → Prop, QX = (fun r m' => ∃ x, r = some (vi x) ∧ x = a ∧ m' = mem) := ⟨_, rfl⟩
  rw [← hQX]
  unfold f_X11_isPartOf at h
  refine x_iload_n (pc := 0) dX11_isPartOf_0 rfl ?_
  refine x_iload_n (pc := 1) dX11_isPartOf_1 rfl ?_
  refine x_iconst (pc := 2) dX11_isPartOf_2 (v := (-1 : Int32)) (by decide) ?_
  refine x_ixor (pc := 3) dX11_isPartOf_3 ?_
  refine x_iand (pc := 4) dX11_isPartOf_4 ?_
  have j13 : ∀ (u1 : Int32), wo (f_X11_isPartOf_J13 u1) Q0 → mi_X mX11_isPartOf (1) 13 [] [vi u1] mem QX := by
    intro u1 h
    unfold f_X11_isPartOf_J13 at h
    obtain ⟨hb2, h⟩ := wo_g h
    exact x_zretB (pc := 13) dX11_isPartOf_13 rfl hb2 (by rw [hQX]; exact ⟨_, rfl, hq0 _ (wo_some h), rfl⟩)
  refine x_if_ne (pc := 5) dX11_isPartOf_5 (tgt := 12) (by decide) (fun c3 => ?_) (fun c3 => ?_)
  · replace h := wo_neg c3 h
    refine x_iconst (pc := 12) dX11_isPartOf_12 (v := (0 : Int32)) (by decide) ?_
    refine x_sub [] trivial ?_
    exact j13 _ h
  · replace h := wo_pos c3 h
    refine x_iconst (pc := 8) dX11_isPartOf_8 (v := (1 : Int32)) (by decide) ?_
    refine x_goto (pc := 9) dX11_isPartOf_9 (tgt := 13) (by decide) ?_
    refine x_sub [] trivial ?_
    exact j13 _ h
noncomputable def f_X11_loss_J17 (u1 : Int32) : Option (Int32) := some u1
noncomputable def f_X11_loss (p0 : Int32) (p1 : Int32) (p2 : Int32) (p3 : Int32) (mem : mi_M) : Option (Int32) := if p2 = (1 : Int32) then some p1 else if p3 = (1 : Int32) then f_X11_loss_J17 (0 : Int32) else f_X11_loss_J17 p0
set_option maxRecDepth 100000 in
set_option maxHeartbeats 4000000 in
theorem w_X11_loss (p0 : Int32) (p1 : Int32) (p2 : Int32) (p3 : Int32) (mem : mi_M) (a : Int32) (e : f_X11_loss p0 p1 p2 p3 mem = some a) : mi_Ci (1) mX11_loss [vi p0, vi p1, vi p2, vi p3] mem (fun x m' => x = a ∧ m' = mem) := by
  unfold mi_Ci
  refine mi_C_intro (ls := [(0, vi p0), (1, vi p1), (2, vi p2), (3, vi p3)]) (by decide) rfl rfl ?_
  obtain ⟨Q0, hq0, h⟩ : ∃ Q0 : Int32 → Prop, (∀ b, Q0 b → b = a) ∧ wo (f_X11_loss p0 p1 p2 p3 mem) Q0 := ⟨fun b => b = a, fun _ h => h, wo_eq e⟩
  obtain ⟨QX, hQX⟩ : ∃ QX : Option mi_V → mi_M → Prop, QX = (fun r m' => ∃ x, r = some (vi x) ∧ x = a ∧ m' = mem) := ⟨_, rfl⟩
  rw [← hQX]
  unfold f_X11_loss at h
  refine x_iload_n (pc := 0) dX11_loss_0 rfl ?_
  refine x_iconst (pc := 1) dX11_loss_1 (v := (1 : Int32)) (by decide) ?_
  refine x_icmp_ne (pc := 2) dX11_loss_2 (tgt := 7) (by decide) (fun c3 => ?_) (fun c3 => ?_)
  · replace h := wo_neg c3 h
    refine x_iload_n (pc := 7) dX11_loss_7 rfl ?_
    refine x_iconst (pc := 8) dX11_loss_8 (v := (1 : Int32)) (by decide) ?_
    have j17 : ∀ (u1 : Int32), wo (f_X11_loss_J17 u1) Q0 → mi_X mX11_loss (1) 17 [] [vi u1] mem QX := by
      intro u1 h
      unfold f_X11_loss_J17 at h
      exact x_iret (pc := 17) dX11_loss_17 rfl (by rw [hQX]; exact ⟨_, rfl, hq0 _ (wo_some h), rfl⟩)
    refine x_icmp_ne (pc := 9) dX11_loss_9 (tgt := 16) (by decide) (fun c2 => ?_) (fun c2 => ?_)
    · replace h := wo_neg c2 h
      refine x_iload_n (pc := 16) dX11_loss_16 rfl ?_
      refine x_sub [] trivial ?_
      exact j17 _ h
    · replace h := wo_pos c2 h
      refine x_iconst (pc := 12) dX11_loss_12 (v := (0 : Int32)) (by decide) ?_
      refine x_goto (pc := 13) dX11_loss_13 (tgt := 17) (by decide) ?_
      refine x_sub [] trivial ?_
      exact j17 _ h
  · replace h := wo_pos c3 h
    refine x_iload_n (pc := 5) dX11_loss_5 rfl ?_
    exact x_iret (pc := 6) dX11_loss_6 rfl (by rw [hQX]; exact ⟨_, rfl, hq0 _ (wo_some h), rfl⟩)
noncomputable def f_X11_isRest_J56 (u5 : Int32) : Option (Int32) := mi_g (u5 = 0 ∨ u5 = 1) (some u5)
noncomputable def f_X11_isRest_J55 : Option (Int32) := f_X11_isRest_J56 (0 : Int32)
noncomputable def f_X11_isRest (p0 : Int32) (p1 : Int32) (p2 : Int32) (mem : mi_M) : Option (Int32) := mi_let (p2 / (2 : Int32)) fun v1 => mi_let (p2 - p2 / (2 : Int32) * (2 : Int32)) fun v2 => mi_bo (f_X11_loss p0 p1 v1 v2 mem) fun v3 => mi_bo (f_X11_loss p0 p1 ((1 : Int32) - v1) v2 mem) fun v4 => if v4 < v3 then f_X11_isRest_J55 else mi_bo (f_X11_loss p0 p1 v2 v1 mem) fun v7 => mi_bo (f_X11_loss p0 p1 ((1 : Int32) - v2) v1 mem) fun v8 => if v8 < v7 then f_X11_isRest_J55 else f_X11_isRest_J56 (1 : Int32)
set_option maxRecDepth 100000 in
set_option maxHeartbeats 4000000 in
theorem w_X11_isRest (p0 : Int32) (p1 : Int32) (p2 : Int32) (mem : mi_M) (a : Int32) (e : f_X11_isRest p0 p1 p2 mem = some a) : mi_Ci (2) mX11_isRest [vi p0, vi p1, vi p2] mem (fun x m' => x = a ∧ m' = mem) := by
  unfold mi_Ci
  refine mi_C_intro (ls := [(0, vi p0), (1, vi p1), (2, vi p2)]) (by decide) rfl rfl ?_
  obtain ⟨Q0, hq0, h⟩ : ∃ Q0 : Int32 → Prop, (∀ b, Q0 b → b = a) ∧ wo (f_X11_isRest p0 p1 p2 mem) Q0 := ⟨fun b => b = a, fun _ h => h, wo_eq e⟩
  obtain ⟨QX, hQX⟩ : ∃ QX : Option mi_V → mi_M → Prop, QX = (fun r m' => ∃ x, r = some (vi x) ∧ x = a ∧ m' = mem) := ⟨_, rfl⟩
  rw [← hQX]
  unfold f_X11_isRest at h
  refine x_iload_n (pc := 0) dX11_isRest_0 rfl ?_
  refine x_iconst (pc := 1) dX11_isRest_1 (v := (2 : Int32)) (by decide) ?_
  refine x_idiv (pc := 2) dX11_isRest_2 (by decide) ?_
  refine x_leti h (fun v1 h => ?_)
  refine x_istore_n (ls' := [(3, _), (0, _), (1, _), (2, _)]) (pc := 3) dX11_isRest_3 rfl rfl rfl ?_
  refine x_iload_n (pc := 4) dX11_isRest_4 rfl ?_
  refine x_iconst (pc := 5) dX11_isRest_5 (v := (2 : Int32)) (by decide) ?_
  refine x_irem (pc := 6) dX11_isRest_6 (by decide) ?_
  refine x_leti h (fun v2 h => ?_)
  refine x_istore (ls' := [(4, _), (3, _), (0, _), (1, _), (2, _)]) (pc := 7) dX11_isRest_7 rfl rfl ?_
  refine x_iload_n (pc := 9) dX11_isRest_9 rfl ?_
  refine x_iload_n (pc := 10) dX11_isRest_10 rfl ?_
  refine x_iload_n (pc := 11) dX11_isRest_11 rfl ?_
  refine x_iload (pc := 12) dX11_isRest_12 rfl ?_
  refine z_Si4 (pc := 14) h dX11_isRest_14 lX11_269 (by omega) rfl (fun a e => w_X11_loss _ _ _ _ _ a e) (fun v3 h => ?_)
  refine x_iload_n (pc := 17) dX11_isRest_17 rfl ?_
  refine x_iload_n (pc := 18) dX11_isRest_18 rfl ?_
  refine x_iconst (pc := 19) dX11_isRest_19 (v := (1 : Int32)) (by decide) ?_
  refine x_iload_n (pc := 20) dX11_isRest_20 rfl ?_
  refine x_isub (pc := 21) dX11_isRest_21 ?_
  refine x_iload (pc := 22) dX11_isRest_22 rfl ?_
  refine z_Si4 (pc := 24) h dX11_isRest_24 lX11_269 (by omega) rfl (fun a e => w_X11_loss _ _ _ _ _ a e) (fun v4 h => ?_)
  have j56 : ∀ (u5 : Int32), wo (f_X11_isRest_J56 u5) Q0 → mi_X mX11_isRest (2) 56 [] [vi u5] mem QX := by
    intro u5 h
    unfold f_X11_isRest_J56 at h
    obtain ⟨hb6, h⟩ := wo_g h
    exact x_zretB (pc := 56) dX11_isRest_56 rfl hb6 (by rw [hQX]; exact ⟨_, rfl, hq0 _ (wo_some h), rfl⟩)
  have j55 : wo (f_X11_isRest_J55) Q0 → mi_X mX11_isRest (2) 55 [] [] mem QX := by
    intro h
    unfold f_X11_isRest_J55 at h
    refine x_iconst (pc := 55) dX11_isRest_55 (v := (0 : Int32)) (by decide) ?_
    refine x_sub [] trivial ?_
    exact j56 _ h
  refine x_icmp_gt (pc := 27) dX11_isRest_27 (tgt := 55) (by decide) (fun c10 => ?_) (fun c10 => ?_)
  · replace h := wo_pos c10 h
    refine x_sub [] trivial ?_
    exact j55 h
  · replace h := wo_neg c10 h
    refine x_iload_n (pc := 30) dX11_isRest_30 rfl ?_
    refine x_iload_n (pc := 31) dX11_isRest_31 rfl ?_
    refine x_iload (pc := 32) dX11_isRest_32 rfl ?_
    refine x_iload_n (pc := 34) dX11_isRest_34 rfl ?_
    refine z_Si4 (pc := 35) h dX11_isRest_35 lX11_269 (by omega) rfl (fun a e => w_X11_loss _ _ _ _ _ a e) (fun v7 h => ?_)
    refine x_iload_n (pc := 38) dX11_isRest_38 rfl ?_
    refine x_iload_n (pc := 39) dX11_isRest_39 rfl ?_
    refine x_iconst (pc := 40) dX11_isRest_40 (v := (1 : Int32)) (by decide) ?_
    refine x_iload (pc := 41) dX11_isRest_41 rfl ?_
    refine x_isub (pc := 43) dX11_isRest_43 ?_
    refine x_iload_n (pc := 44) dX11_isRest_44 rfl ?_
    refine z_Si4 (pc := 45) h dX11_isRest_45 lX11_269 (by omega) rfl (fun a e => w_X11_loss _ _ _ _ _ a e) (fun v8 h => ?_)
    refine x_icmp_gt (pc := 48) dX11_isRest_48 (tgt := 55) (by decide) (fun c9 => ?_) (fun c9 => ?_)
    · replace h := wo_pos c9 h
      refine x_sub [] trivial ?_
      exact j55 h
    · replace h := wo_neg c9 h
      refine x_iconst (pc := 51) dX11_isRest_51 (v := (1 : Int32)) (by decide) ?_
      refine x_goto (pc := 52) dX11_isRest_52 (tgt := 56) (by decide) ?_
      refine x_sub [] trivial ?_
      exact j56 _ h
noncomputable def f_X5_begin_J98 (i0 : Nat) (l7 : Int32) (m10 : mi_M) (u11 : Int32) : Option ((Int32 × mi_M) ⊕ (mi_M)) := mi_g (vp_in l7 6) (mi_let (mi_wI m10 36 i0 l7.toNatClampNeg u11) fun m13 => some (.inl ((l7 + (1 : Int32)), m13)))
noncomputable def f_X5_begin_B62 (i0 : Nat) (p0 : Nat) : (Int32 × mi_M) → Option ((Int32 × mi_M) ⊕ (mi_M)) := fun s => match s with | (l7, m8) => if (6 : Int32) ≤ l7 then some (.inr m8) else mi_g (vp_in l7 6) (mi_let (mi_wI m8 35 i0 l7.toNatClampNeg (0 : Int32)) fun m10 => if (m10.1 8 p0 0) ≤ l7 then f_X5_begin_J98 i0 l7 m10 (0 : Int32) else mi_g (vp_in l7 6) (f_X5_begin_J98 i0 l7 m10 (m10.1 40 p0 l7.toNatClampNeg)))
noncomputable def f_X5_begin_K62 : mi_M → Option (mi_M) := fun m6 => some m6
noncomputable def f_X5_begin_J53 (i0 : Nat) (l17 : Int32) (m18 : mi_M) (u19 : Int32) : Option ((Int32 × mi_M) ⊕ (mi_M)) := mi_g (vp_in l17 8) (mi_let (mi_wI m18 34 i0 l17.toNatClampNeg u19) fun m21 => some (.inl ((l17 + (1 : Int32)), m21)))
noncomputable def f_X5_begin_B22 (i0 : Nat) (p0 : Nat) : (Int32 × mi_M) → Option ((Int32 × mi_M) ⊕ (mi_M)) := fun s => match s with | (l17, m18) => if (8 : Int32) ≤ l17 then some (.inr m18) else if (m18.1 8 p0 1) ≤ l17 then f_X5_begin_J53 i0 l17 m18 (0 : Int32) else mi_g (vp_in l17 8) (f_X5_begin_J53 i0 l17 m18 ((3 : Int32) * (m18.1 43 p0 l17.toNatClampNeg)))
noncomputable def f_X5_begin_K22 (i0 : Nat) (p0 : Nat) : mi_M → Option (mi_M) := fun m5 => mi_bo (mi_lp (f_X5_begin_B62 i0 p0) mi_fu ((0 : Int32), m5)) (f_X5_begin_K62)
noncomputable def f_X5_begin (i0 : Nat) (p0 : Nat) (mem : mi_M) : Option (mi_M) := mi_let (mi_wI mem 5 i0 0 (0 : Int32)) fun m1 => mi_let (mi_wI m1 5 i0 1 (0 : Int32)) fun m2 => mi_let (mi_wI m2 5 i0 2 (0 : Int32)) fun m3 => mi_let (mi_wI m3 5 i0 3 (0 : Int32)) fun m4 => mi_bo (mi_lp (f_X5_begin_B22 i0 p0) mi_fu ((0 : Int32), m4)) (f_X5_begin_K22 i0 p0)
set_option maxRecDepth 100000 in
set_option maxHeartbeats 4000000 in
theorem w_X5_begin (i0 : Nat) (p0 : Nat) (hi0 : i0 < mi_n 5) (hp0 : p0 < mi_n 8) (mem : mi_M) (a : mi_M) (e : f_X5_begin i0 p0 mem = some a) : mi_Cv (1) mX5_begin [vr 5 i0, vr 8 p0] mem (fun m' => m' = a) := by
  unfold mi_Cv
  refine mi_C_intro (ls := [(0, vr 5 i0), (1, vr 8 p0)]) (by decide) rfl rfl ?_
  obtain ⟨Q0, hq0, h⟩ : ∃ Q0 : mi_M → Prop, (∀ b, Q0 b → b = a) ∧ wo (f_X5_begin i0 p0 mem) Q0 := ⟨fun b => b = a, fun _ h => h, wo_eq e⟩
  obtain ⟨QX, hQX⟩ : ∃ QX : Option mi_V → mi_M → Prop, QX = (fun r m' => r = none ∧ m' = a) := ⟨_, rfl⟩
  rw [← hQX]
  unfold f_X5_begin at h
  refine x_aload_n (pc := 0) dX5_begin_0 rfl ?_
  refine x_iconst (pc := 1) dX5_begin_1 (v := (0 : Int32)) (by decide) ?_
  refine x_putI (pc := 2) dX5_begin_2 fX5_21 rfl hi0 rfl rfl ?_
  refine x_letm h (fun m1 h => ?_)
  refine x_aload_n (pc := 5) dX5_begin_5 rfl ?_
  refine x_iconst (pc := 6) dX5_begin_6 (v := (0 : Int32)) (by decide) ?_
  refine x_putI (pc := 7) dX5_begin_7 fX5_25 rfl hi0 rfl rfl ?_
  refine x_letm h (fun m2 h => ?_)
  refine x_aload_n (pc := 10) dX5_begin_10 rfl ?_
  refine x_iconst (pc := 11) dX5_begin_11 (v := (0 : Int32)) (by decide) ?_
  refine x_putI (pc := 12) dX5_begin_12 fX5_28 rfl hi0 rfl rfl ?_
  refine x_letm h (fun m3 h => ?_)
  refine x_aload_n (pc := 15) dX5_begin_15 rfl ?_
  refine x_iconst (pc := 16) dX5_begin_16 (v := (0 : Int32)) (by decide) ?_
  refine x_putI (pc := 17) dX5_begin_17 fX5_31 rfl hi0 rfl rfl ?_
  refine x_letm h (fun m4 h => ?_)
  refine x_iconst (pc := 20) dX5_begin_20 (v := (0 : Int32)) (by decide) ?_
  refine x_istore_n (ls' := [(2, _), (0, _), (1, _)]) (pc := 21) dX5_begin_21 rfl rfl rfl ?_
  have k22_0 : ∀ (m5 : mi_M), wo (f_X5_begin_K22 i0 p0 m5) Q0 → mi_X mX5_begin (1) 60 [(0, vr 5 i0), (1, vr 8 p0)] [] m5 QX := by
    intro m5 h
    unfold f_X5_begin_K22 at h
    try dsimp only at h
    refine x_iconst (pc := 60) dX5_begin_60 (v := (0 : Int32)) (by decide) ?_
    refine x_istore_n (ls' := [(2, _), (0, _), (1, _)]) (pc := 61) dX5_begin_61 rfl rfl rfl ?_
    have k62_0 : ∀ (m6 : mi_M), wo (f_X5_begin_K62 m6) Q0 → mi_X mX5_begin (1) 105 [] [] m6 QX := by
      intro m6 h
      unfold f_X5_begin_K62 at h
      try dsimp only at h
      exact x_ret (pc := 105) dX5_begin_105 rfl (by rw [hQX]; exact ⟨rfl, hq0 _ (wo_some h)⟩)
    refine x_sub [(0, _), (1, _), (2, _)] ⟨rfl, rfl, rfl, trivial⟩ ?_
    obtain ⟨ea, eb, h⟩ := wo_bo h
    refine wo_lq (X := fun s => match s with | (l7, m8) => mi_X mX5_begin (1) 62 [(0, vr 5 i0), (1, vr 8 p0), (2, vi l7)] [] m8 QX) (E := fun e => wo (f_X5_begin_K62 e) Q0) ?_ _ ((0 : Int32), m5) ⟨_, eb, h⟩
    intro Q62 hb62 he62 s h
    obtain ⟨l7, m8⟩ := s
    show mi_X mX5_begin (1) 62 [(0, vr 5 i0), (1, vr 8 p0), (2, vi l7)] [] m8 QX
    unfold f_X5_begin_B62 at h
    try dsimp only at h
    refine x_iload_n (pc := 62) dX5_begin_62 rfl ?_
    refine x_bipush (pc := 63) dX5_begin_63 (v := (6 : Int32)) (by decide) ?_
    refine x_icmp_ge (pc := 65) dX5_begin_65 (tgt := 105) (by decide) (fun c16 => ?_) (fun c16 => ?_)
    · replace h := wo_pos c16 h
      refine x_sub [] trivial ?_
      exact k62_0 _ (he62 m8 (wo_some h))
    · replace h := wo_neg c16 h
      refine x_aload_n (pc := 68) dX5_begin_68 rfl ?_
      refine x_getS (pc := 69) dX5_begin_69 fX5_15 rfl hi0 ?_
      refine x_iload_n (pc := 72) dX5_begin_72 rfl ?_
      refine x_iconst (pc := 73) dX5_begin_73 (v := (0 : Int32)) (by decide) ?_
      obtain ⟨hx9, h⟩ := wo_g h
      refine x_iastJ (pc := 74) dX5_begin_74 rfl rfl hi0 rfl hx9 ?_
      refine x_letm h (fun m10 h => ?_)
      refine x_aload_n (pc := 75) dX5_begin_75 rfl ?_
      refine x_getS (pc := 76) dX5_begin_76 fX5_18 rfl hi0 ?_
      refine x_iload_n (pc := 79) dX5_begin_79 rfl ?_
      refine x_iload_n (pc := 80) dX5_begin_80 rfl ?_
      refine x_aload_n (pc := 81) dX5_begin_81 rfl ?_
      refine x_getI (pc := 82) dX5_begin_82 fX5_42 rfl hp0 ?_
      have j98 : ∀ (u11 : Int32), wo (f_X5_begin_J98 i0 l7 m10 u11) Q62 → mi_X mX5_begin (1) 98 [(0, vr 5 i0), (1, vr 8 p0), (2, vi l7)] [vi u11, vi l7, vr 36 i0] m10 QX := by
        intro u11 h
        unfold f_X5_begin_J98 at h
        obtain ⟨hx12, h⟩ := wo_g h
        refine x_iastJ (pc := 98) dX5_begin_98 rfl rfl hi0 rfl hx12 ?_
        refine x_letm h (fun m13 h => ?_)
        refine x_iinc (ls' := [(2, _), (0, _), (1, _)]) (pc := 99) dX5_begin_99 rfl (v := l7 + (1 : Int32)) rfl rfl rfl ?_
        refine x_goto (pc := 102) dX5_begin_102 (tgt := 62) (by decide) ?_
        refine x_sub [(0, _), (1, _), (2, _)] ⟨rfl, rfl, rfl, trivial⟩ ?_
        exact hb62 ((l7 + (1 : Int32)), m13) (wo_some h)
      refine x_icmp_ge (pc := 85) dX5_begin_85 (tgt := 97) (by decide) (fun c15 => ?_) (fun c15 => ?_)
      · replace h := wo_pos c15 h
        refine x_iconst (pc := 97) dX5_begin_97 (v := (0 : Int32)) (by decide) ?_
        refine x_sub [(0, _), (1, _), (2, _)] ⟨rfl, rfl, rfl, trivial⟩ ?_
        exact j98 _ h
      · replace h := wo_neg c15 h
        refine x_aload_n (pc := 88) dX5_begin_88 rfl ?_
        refine x_getS (pc := 89) dX5_begin_89 fX5_45 rfl hp0 ?_
        refine x_iload_n (pc := 92) dX5_begin_92 rfl ?_
        obtain ⟨hx14, h⟩ := wo_g h
        refine x_ialdJ (pc := 93) dX5_begin_93 rfl rfl hp0 hx14 ?_
        refine x_goto (pc := 94) dX5_begin_94 (tgt := 98) (by decide) ?_
        refine x_sub [(0, _), (1, _), (2, _)] ⟨rfl, rfl, rfl, trivial⟩ ?_
        exact j98 _ h
  refine x_sub [(0, _), (1, _), (2, _)] ⟨rfl, rfl, rfl, trivial⟩ ?_
  obtain ⟨ea, eb, h⟩ := wo_bo h
  refine wo_lq (X := fun s => match s with | (l17, m18) => mi_X mX5_begin (1) 22 [(0, vr 5 i0), (1, vr 8 p0), (2, vi l17)] [] m18 QX) (E := fun e => wo (f_X5_begin_K22 i0 p0 e) Q0) ?_ _ ((0 : Int32), m4) ⟨_, eb, h⟩
  intro Q22 hb22 he22 s h
  obtain ⟨l17, m18⟩ := s
  show mi_X mX5_begin (1) 22 [(0, vr 5 i0), (1, vr 8 p0), (2, vi l17)] [] m18 QX
  unfold f_X5_begin_B22 at h
  try dsimp only at h
  refine x_iload_n (pc := 22) dX5_begin_22 rfl ?_
  refine x_bipush (pc := 23) dX5_begin_23 (v := (8 : Int32)) (by decide) ?_
  refine x_icmp_ge (pc := 25) dX5_begin_25 (tgt := 60) (by decide) (fun c24 => ?_) (fun c24 => ?_)
  · replace h := wo_pos c24 h
    refine x_sub [(0, _), (1, _)] ⟨rfl, rfl, trivial⟩ ?_
    exact k22_0 _ (he22 m18 (wo_some h))
  · replace h := wo_neg c24 h
    refine x_aload_n (pc := 28) dX5_begin_28 rfl ?_
    refine x_getS (pc := 29) dX5_begin_29 fX5_9 rfl hi0 ?_
    refine x_iload_n (pc := 32) dX5_begin_32 rfl ?_
    refine x_iload_n (pc := 33) dX5_begin_33 rfl ?_
    refine x_aload_n (pc := 34) dX5_begin_34 rfl ?_
    refine x_getI (pc := 35) dX5_begin_35 fX5_34 rfl hp0 ?_
    have j53 : ∀ (u19 : Int32), wo (f_X5_begin_J53 i0 l17 m18 u19) Q22 → mi_X mX5_begin (1) 53 [(0, vr 5 i0), (1, vr 8 p0), (2, vi l17)] [vi u19, vi l17, vr 34 i0] m18 QX := by
      intro u19 h
      unfold f_X5_begin_J53 at h
      obtain ⟨hx20, h⟩ := wo_g h
      refine x_iastJ (pc := 53) dX5_begin_53 rfl rfl hi0 rfl hx20 ?_
      refine x_letm h (fun m21 h => ?_)
      refine x_iinc (ls' := [(2, _), (0, _), (1, _)]) (pc := 54) dX5_begin_54 rfl (v := l17 + (1 : Int32)) rfl rfl rfl ?_
      refine x_goto (pc := 57) dX5_begin_57 (tgt := 22) (by decide) ?_
      refine x_sub [(0, _), (1, _), (2, _)] ⟨rfl, rfl, rfl, trivial⟩ ?_
      exact hb22 ((l17 + (1 : Int32)), m21) (wo_some h)
    refine x_icmp_ge (pc := 38) dX5_begin_38 (tgt := 52) (by decide) (fun c23 => ?_) (fun c23 => ?_)
    · replace h := wo_pos c23 h
      refine x_iconst (pc := 52) dX5_begin_52 (v := (0 : Int32)) (by decide) ?_
      refine x_sub [(0, _), (1, _), (2, _)] ⟨rfl, rfl, rfl, trivial⟩ ?_
      exact j53 _ h
    · replace h := wo_neg c23 h
      refine x_iconst (pc := 41) dX5_begin_41 (v := (3 : Int32)) (by decide) ?_
      refine x_aload_n (pc := 42) dX5_begin_42 rfl ?_
      refine x_getS (pc := 43) dX5_begin_43 fX5_39 rfl hp0 ?_
      refine x_iload_n (pc := 46) dX5_begin_46 rfl ?_
      obtain ⟨hx22, h⟩ := wo_g h
      refine x_ialdJ (pc := 47) dX5_begin_47 rfl rfl hp0 hx22 ?_
      refine x_imul (pc := 48) dX5_begin_48 ?_
      refine x_goto (pc := 49) dX5_begin_49 (tgt := 53) (by decide) ?_
      refine x_sub [(0, _), (1, _), (2, _)] ⟨rfl, rfl, rfl, trivial⟩ ?_
      exact j53 _ h
noncomputable def f_X0_judge_J135 (m3 : mi_M) (u4 : Int32) : Option (Int32 × mi_M) := some (u4, m3)
noncomputable def f_X0_judge_J97 (l9 : Int32) (u15 : Int32) (m16 : mi_M) : Option ((Int32 × Int32 × mi_M) ⊕ (Int32 × mi_M)) := some (.inl (u15, (l9 + (1 : Int32)), m16))
noncomputable def f_X0_judge_B14 (p0 : Nat) (p1 : Nat) : (Int32 × Int32 × mi_M) → Option ((Int32 × Int32 × mi_M) ⊕ (Int32 × mi_M)) := fun s => match s with | (l8, l9, m10) => if (m10.1 10 p1 0) ≤ l9 then some (.inr (l8, m10)) else mi_g (vp_in l9 30) (mi_g (vp_in l9 30) (mi_g (vp_in l9 30) (mi_bo (f_X5_may 21 p0 (m10.1 48 p1 l9.toNatClampNeg) (m10.1 49 p1 l9.toNatClampNeg) (m10.1 50 p1 l9.toNatClampNeg) m10) fun v14 => if v14 = 0 then if l8 = (-1 : Int32) then f_X0_judge_J97 l9 l9 m10 else f_X0_judge_J97 l9 l8 m10 else mi_g (vp_in l9 30) (mi_g (vp_in l9 30) (mi_g (vp_in l9 30) (mi_bo (f_X5_act 21 p0 (m10.1 48 p1 l9.toNatClampNeg) (m10.1 49 p1 l9.toNatClampNeg) (m10.1 50 p1 l9.toNatClampNeg) m10) fun m21 => f_X0_judge_J97 l9 l8 m21))))))
noncomputable def f_X0_judge_K14 (p2 : Int32) : (Int32 × mi_M) → Option (Int32 × mi_M) := fun e => match e with | (e2, m3) => if p2 = 0 then some (e2, m3) else if p2 = (1 : Int32) then mi_bo (f_J6_bitCount_0f7a4 (m3.1 5 21 2) m3) fun v5 => f_X0_judge_J135 m3 v5 else f_X0_judge_J135 m3 (m3.1 5 21 1)
noncomputable def f_X0_judge (p0 : Nat) (p1 : Nat) (p2 : Int32) (mem : mi_M) : Option (Int32 × mi_M) := mi_bo (f_X5_begin 21 p0 mem) fun m1 => mi_bo (mi_lp (f_X0_judge_B14 p0 p1) mi_fu ((-1 : Int32), (0 : Int32), m1)) (f_X0_judge_K14 p2)
set_option maxRecDepth 100000 in
set_option maxHeartbeats 4000000 in
theorem w_X0_judge (p0 : Nat) (p1 : Nat) (p2 : Int32) (hp0 : p0 < mi_n 8) (hp1 : p1 < mi_n 10) (mem : mi_M) (a : Int32 × mi_M) (e : f_X0_judge p0 p1 p2 mem = some a) : mi_Ci (7) mX0_judge [vr 0 0, vr 8 p0, vr 10 p1, vi p2] mem (fun x m' => x = a.1 ∧ m' = a.2) := by
  unfold mi_Ci
  refine mi_C_intro (ls := [(0, vr 0 0), (1, vr 8 p0), (2, vr 10 p1), (3, vi p2)]) (by decide) rfl rfl ?_
  obtain ⟨Q0, hq0, h⟩ : ∃ Q0 : (Int32 × mi_M) → Prop, (∀ b, Q0 b → b = a) ∧ wo (f_X0_judge p0 p1 p2 mem) Q0 := ⟨fun b => b = a, fun _ h => h, wo_eq e⟩
  obtain ⟨QX, hQX⟩ : ∃ QX : Option mi_V → mi_M → Prop, QX = (fun r m' => ∃ x, r = some (vi x) ∧ x = a.1 ∧ m' = a.2) := ⟨_, rfl⟩
  rw [← hQX]
  unfold f_X0_judge at h
  refine x_iconst (pc := 0) dX0_judge_0 (v := (-1 : Int32)) (by decide) ?_
  refine x_istore (ls' := [(4, _), (0, _), (1, _), (2, _), (3, _)]) (pc := 1) dX0_judge_1 rfl rfl ?_
  refine x_aload_n (pc := 3) dX0_judge_3 rfl ?_
  refine x_getC (pc := 4) dX0_judge_4 fX0_12 rfl (by decide) ?_
  refine x_aload_n (pc := 7) dX0_judge_7 rfl ?_
  refine y_Vv1 (pc := 8) h dX0_judge_8 lX0_29 (by decide) (by omega) rfl (fun a e => w_X5_begin _ _ (by decide) hp0 _ a e) (fun m1 h => ?_)
  refine x_iconst (pc := 11) dX0_judge_11 (v := (0 : Int32)) (by decide) ?_
  refine x_istore (ls' := [(5, _), (4, _), (0, _), (1, _), (2, _), (3, _)]) (pc := 12) dX0_judge_12 rfl rfl ?_
  have k14_0 : ∀ (e2 : Int32) (m3 : mi_M), wo (f_X0_judge_K14 p2 (e2, m3)) Q0 → mi_X mX0_judge (7) 103 [(0, vr 0 0), (3, vi p2), (4, vi e2)] [] m3 QX := by
    intro e2 m3 h
    unfold f_X0_judge_K14 at h
    try dsimp only at h
    refine x_iload_n (pc := 103) dX0_judge_103 rfl ?_
    refine x_if_ne (pc := 104) dX0_judge_104 (tgt := 110) (by decide) (fun c7 => ?_) (fun c7 => ?_)
    · replace h := wo_neg c7 h
      refine x_iload_n (pc := 110) dX0_judge_110 rfl ?_
      refine x_iconst (pc := 111) dX0_judge_111 (v := (1 : Int32)) (by decide) ?_
      have j135 : ∀ (u4 : Int32), wo (f_X0_judge_J135 m3 u4) Q0 → mi_X mX0_judge (7) 135 [] [vi u4] m3 QX := by
        intro u4 h
        unfold f_X0_judge_J135 at h
        exact x_iret (pc := 135) dX0_judge_135 rfl (by rw [hQX]; exact ⟨_, rfl, congrArg Prod.fst (hq0 _ (wo_some h)), congrArg Prod.snd (hq0 _ (wo_some h))⟩)
      refine x_icmp_ne (pc := 112) dX0_judge_112 (tgt := 128) (by decide) (fun c6 => ?_) (fun c6 => ?_)
      · replace h := wo_neg c6 h
        refine x_aload_n (pc := 128) dX0_judge_128 rfl ?_
        refine x_getC (pc := 129) dX0_judge_129 fX0_12 rfl (by decide) ?_
        refine x_getI (pc := 132) dX0_judge_132 fX0_65 rfl (by decide) ?_
        refine x_sub [] trivial ?_
        exact j135 _ h
      · replace h := wo_pos c6 h
        refine x_aload_n (pc := 115) dX0_judge_115 rfl ?_
        refine x_getC (pc := 116) dX0_judge_116 fX0_12 rfl (by decide) ?_
        refine x_getI (pc := 119) dX0_judge_119 fX0_56 rfl (by decide) ?_
        refine z_Si1 (pc := 122) h dX0_judge_122 lX0_59 (by omega) rfl (fun a e => w_J6_bitCount_0f7a4 _ _ a e) (fun v5 h => ?_)
        refine x_goto (pc := 125) dX0_judge_125 (tgt := 135) (by decide) ?_
        refine x_sub [] trivial ?_
        exact j135 _ h
    · replace h := wo_pos c7 h
      refine x_iload (pc := 107) dX0_judge_107 rfl ?_
      exact x_iret (pc := 109) dX0_judge_109 rfl (by rw [hQX]; exact ⟨_, rfl, congrArg Prod.fst (hq0 _ (wo_some h)), congrArg Prod.snd (hq0 _ (wo_some h))⟩)
  refine x_sub [(0, _), (1, _), (2, _), (3, _), (4, _), (5, _)] ⟨rfl, rfl, rfl, rfl, rfl, rfl, trivial⟩ ?_
  obtain ⟨ea, eb, h⟩ := wo_bo h
  refine wo_lq (X := fun s => match s with | (l8, l9, m10) => mi_X mX0_judge (7) 14 [(0, vr 0 0), (1, vr 8 p0), (2, vr 10 p1), (3, vi p2), (4, vi l8), (5, vi l9)] [] m10 QX) (E := fun e => wo (f_X0_judge_K14 p2 e) Q0) ?_ _ ((-1 : Int32), (0 : Int32), m1) ⟨_, eb, h⟩
  intro Q14 hb14 he14 s h
  obtain ⟨l8, l9, m10⟩ := s
  show mi_X mX0_judge (7) 14 [(0, vr 0 0), (1, vr 8 p0), (2, vr 10 p1), (3, vi p2), (4, vi l8), (5, vi l9)] [] m10 QX
  unfold f_X0_judge_B14 at h
  try dsimp only at h
  refine x_iload (pc := 14) dX0_judge_14 rfl ?_
  refine x_aload_n (pc := 16) dX0_judge_16 rfl ?_
  refine x_getI (pc := 17) dX0_judge_17 fX0_33 rfl hp1 ?_
  refine x_icmp_ge (pc := 20) dX0_judge_20 (tgt := 103) (by decide) (fun c23 => ?_) (fun c23 => ?_)
  · replace h := wo_pos c23 h
    refine x_sub [(0, _), (3, _), (4, _)] ⟨rfl, rfl, rfl, trivial⟩ ?_
    exact k14_0 _ _ (he14 (l8, m10) (wo_some h))
  · replace h := wo_neg c23 h
    refine x_aload_n (pc := 23) dX0_judge_23 rfl ?_
    refine x_getC (pc := 24) dX0_judge_24 fX0_12 rfl (by decide) ?_
    refine x_aload_n (pc := 27) dX0_judge_27 rfl ?_
    refine x_aload_n (pc := 28) dX0_judge_28 rfl ?_
    refine x_getS (pc := 29) dX0_judge_29 fX0_39 rfl hp1 ?_
    refine x_iload (pc := 32) dX0_judge_32 rfl ?_
    obtain ⟨hx11, h⟩ := wo_g h
    refine x_ialdJ (pc := 34) dX0_judge_34 rfl rfl hp1 hx11 ?_
    refine x_aload_n (pc := 35) dX0_judge_35 rfl ?_
    refine x_getS (pc := 36) dX0_judge_36 fX0_42 rfl hp1 ?_
    refine x_iload (pc := 39) dX0_judge_39 rfl ?_
    obtain ⟨hx12, h⟩ := wo_g h
    refine x_ialdJ (pc := 41) dX0_judge_41 rfl rfl hp1 hx12 ?_
    refine x_aload_n (pc := 42) dX0_judge_42 rfl ?_
    refine x_getS (pc := 43) dX0_judge_43 fX0_45 rfl hp1 ?_
    refine x_iload (pc := 46) dX0_judge_46 rfl ?_
    obtain ⟨hx13, h⟩ := wo_g h
    refine x_ialdJ (pc := 48) dX0_judge_48 rfl rfl hp1 hx13 ?_
    refine z_Vi4 (pc := 49) h dX0_judge_49 lX0_48 (by decide) (by omega) rfl (fun a e => w_X5_may _ _ _ _ _ (by decide) hp0 _ a e) (fun v14 h => ?_)
    have j97 : ∀ (u15 : Int32) (m16 : mi_M), wo (f_X0_judge_J97 l9 u15 m16) Q14 → mi_X mX0_judge (7) 97 [(0, vr 0 0), (1, vr 8 p0), (2, vr 10 p1), (3, vi p2), (4, vi u15), (5, vi l9)] [] m16 QX := by
      intro u15 m16 h
      unfold f_X0_judge_J97 at h
      refine x_iinc (ls' := [(5, _), (0, _), (1, _), (2, _), (3, _), (4, _)]) (pc := 97) dX0_judge_97 rfl (v := l9 + (1 : Int32)) rfl rfl rfl ?_
      refine x_goto (pc := 100) dX0_judge_100 (tgt := 14) (by decide) ?_
      refine x_sub [(0, _), (1, _), (2, _), (3, _), (4, _), (5, _)] ⟨rfl, rfl, rfl, rfl, rfl, rfl, trivial⟩ ?_
      exact hb14 (u15, (l9 + (1 : Int32)), m16) (wo_some h)
    refine x_if_eq (pc := 52) dX0_judge_52 (tgt := 87) (by decide) (fun c22 => ?_) (fun c22 => ?_)
    · replace h := wo_pos c22 h
      refine x_iload (pc := 87) dX0_judge_87 rfl ?_
      refine x_iconst (pc := 89) dX0_judge_89 (v := (-1 : Int32)) (by decide) ?_
      refine x_icmp_ne (pc := 90) dX0_judge_90 (tgt := 97) (by decide) (fun c17 => ?_) (fun c17 => ?_)
      · replace h := wo_neg c17 h
        refine x_sub [(0, _), (1, _), (2, _), (3, _), (4, _), (5, _)] ⟨rfl, rfl, rfl, rfl, rfl, rfl, trivial⟩ ?_
        exact j97 _ _ h
      · replace h := wo_pos c17 h
        refine x_iload (pc := 93) dX0_judge_93 rfl ?_
        refine x_istore (ls' := [(4, _), (0, _), (1, _), (2, _), (3, _), (5, _)]) (pc := 95) dX0_judge_95 rfl rfl ?_
        refine x_sub [(0, _), (1, _), (2, _), (3, _), (4, _), (5, _)] ⟨rfl, rfl, rfl, rfl, rfl, rfl, trivial⟩ ?_
        exact j97 _ _ h
    · replace h := wo_neg c22 h
      refine x_aload_n (pc := 55) dX0_judge_55 rfl ?_
      refine x_getC (pc := 56) dX0_judge_56 fX0_12 rfl (by decide) ?_
      refine x_aload_n (pc := 59) dX0_judge_59 rfl ?_
      refine x_aload_n (pc := 60) dX0_judge_60 rfl ?_
      refine x_getS (pc := 61) dX0_judge_61 fX0_39 rfl hp1 ?_
      refine x_iload (pc := 64) dX0_judge_64 rfl ?_
      obtain ⟨hx18, h⟩ := wo_g h
      refine x_ialdJ (pc := 66) dX0_judge_66 rfl rfl hp1 hx18 ?_
      refine x_aload_n (pc := 67) dX0_judge_67 rfl ?_
      refine x_getS (pc := 68) dX0_judge_68 fX0_42 rfl hp1 ?_
      refine x_iload (pc := 71) dX0_judge_71 rfl ?_
      obtain ⟨hx19, h⟩ := wo_g h
      refine x_ialdJ (pc := 73) dX0_judge_73 rfl rfl hp1 hx19 ?_
      refine x_aload_n (pc := 74) dX0_judge_74 rfl ?_
      refine x_getS (pc := 75) dX0_judge_75 fX0_45 rfl hp1 ?_
      refine x_iload (pc := 78) dX0_judge_78 rfl ?_
      obtain ⟨hx20, h⟩ := wo_g h
      refine x_ialdJ (pc := 80) dX0_judge_80 rfl rfl hp1 hx20 ?_
      refine y_Vv4 (pc := 81) h dX0_judge_81 lX0_52 (by decide) (by omega) rfl (fun a e => w_X5_act _ _ _ _ _ (by decide) hp0 _ a e) (fun m21 h => ?_)
      refine x_goto (pc := 84) dX0_judge_84 (tgt := 97) (by decide) ?_
      refine x_sub [(0, _), (1, _), (2, _), (3, _), (4, _), (5, _)] ⟨rfl, rfl, rfl, rfl, rfl, rfl, trivial⟩ ?_
      exact j97 _ _ h
noncomputable def f_X11_judged_J30 (u2 : Int32) (m3 : mi_M) : Option (Int32 × mi_M) := some (u2, m3)
noncomputable def f_X11_judged (p0 : Int32) (mem : mi_M) : Option (Int32 × mi_M) := mi_bo (f_X11_isWithin p0 (0 : Int32) (2 : Int32) mem) fun v1 => if v1 = 0 then f_X11_judged_J30 (-2 : Int32) mem else mi_g (mem.2.2 0 < mi_n 8) (mi_g (mem.2.2 2 < mi_n 10) (mi_b (f_X0_judge (mem.2.2 0) (mem.2.2 2) p0 mem) fun v6 m7 => f_X11_judged_J30 v6 m7))
set_option maxRecDepth 100000 in
set_option maxHeartbeats 4000000 in
theorem w_X11_judged (p0 : Int32) (mem : mi_M) (a : Int32 × mi_M) (e : f_X11_judged p0 mem = some a) : mi_Ci (8) mX11_judged [vr 11 0, vi p0] mem (fun x m' => x = a.1 ∧ m' = a.2) := by
  unfold mi_Ci
  refine mi_C_intro (ls := [(0, vr 11 0), (1, vi p0)]) (by decide) rfl rfl ?_
  obtain ⟨Q0, hq0, h⟩ : ∃ Q0 : (Int32 × mi_M) → Prop, (∀ b, Q0 b → b = a) ∧ wo (f_X11_judged p0 mem) Q0 := ⟨fun b => b = a, fun _ h => h, wo_eq e⟩
  obtain ⟨QX, hQX⟩ : ∃ QX : Option mi_V → mi_M → Prop, QX = (fun r m' => ∃ x, r = some (vi x) ∧ x = a.1 ∧ m' = a.2) := ⟨_, rfl⟩
  rw [← hQX]
  unfold f_X11_judged at h
  refine x_iload_n (pc := 0) dX11_judged_0 rfl ?_
  refine x_iconst (pc := 1) dX11_judged_1 (v := (0 : Int32)) (by decide) ?_
  refine x_iconst (pc := 2) dX11_judged_2 (v := (2 : Int32)) (by decide) ?_
  refine z_Si3 (pc := 3) h dX11_judged_3 lX11_155 (by omega) rfl (fun a e => w_X11_isWithin _ _ _ _ a e) (fun v1 h => ?_)
  have j30 : ∀ (u2 : Int32) (m3 : mi_M), wo (f_X11_judged_J30 u2 m3) Q0 → mi_X mX11_judged (8) 30 [] [vi u2] m3 QX := by
    intro u2 m3 h
    unfold f_X11_judged_J30 at h
    exact x_iret (pc := 30) dX11_judged_30 rfl (by rw [hQX]; exact ⟨_, rfl, congrArg Prod.fst (hq0 _ (wo_some h)), congrArg Prod.snd (hq0 _ (wo_some h))⟩)
  refine x_if_eq (pc := 6) dX11_judged_6 (tgt := 28) (by decide) (fun c8 => ?_) (fun c8 => ?_)
  · replace h := wo_pos c8 h
    refine x_bipush (pc := 28) dX11_judged_28 (v := (-2 : Int32)) (by decide) ?_
    refine x_sub [] trivial ?_
    exact j30 _ _ h
  · replace h := wo_neg c8 h
    refine x_aload_n (pc := 9) dX11_judged_9 rfl ?_
    refine x_getC (pc := 10) dX11_judged_10 fX11_40 rfl (by decide) ?_
    refine x_aload_n (pc := 13) dX11_judged_13 rfl ?_
    obtain ⟨hm4, h⟩ := wo_g h
    refine x_getM (pc := 14) dX11_judged_14 fX11_54 rfl (by decide) ?_
    refine x_aload_n (pc := 17) dX11_judged_17 rfl ?_
    obtain ⟨hm5, h⟩ := wo_g h
    refine x_getM (pc := 18) dX11_judged_18 fX11_64 rfl (by decide) ?_
    refine x_iload_n (pc := 21) dX11_judged_21 rfl ?_
    refine y_Vi3 (pc := 22) h dX11_judged_22 lX11_206 (by decide) (by omega) rfl (fun a e => w_X0_judge _ _ _ hm4 hm5 _ a e) (fun v6 m7 h => ?_)
    refine x_goto (pc := 25) dX11_judged_25 (tgt := 30) (by decide) ?_
    refine x_sub [] trivial ?_
    exact j30 _ _ h
noncomputable def f_X11_lamps (mem : mi_M) : Option (Int32) := mi_bo (f_X5_burningBehind 0 (0 : Int32) mem) fun v1 => some v1
set_option maxRecDepth 100000 in
set_option maxHeartbeats 4000000 in
theorem w_X11_lamps (mem : mi_M) (a : Int32) (e : f_X11_lamps  mem = some a) : mi_Ci (2) mX11_lamps [vr 11 0] mem (fun x m' => x = a ∧ m' = mem) := by
  unfold mi_Ci
  refine mi_C_intro (ls := [(0, vr 11 0)]) (by decide) rfl rfl ?_
  obtain ⟨Q0, hq0, h⟩ : ∃ Q0 : Int32 → Prop, (∀ b, Q0 b → b = a) ∧ wo (f_X11_lamps  mem) Q0 := ⟨fun b => b = a, fun _ h => h, wo_eq e⟩
  obtain ⟨QX, hQX⟩ : ∃ QX : Option mi_V → mi_M → Prop, QX = (fun r m' => ∃ x, r = some (vi x) ∧ x = a ∧ m' = mem) := ⟨_, rfl⟩
  rw [← hQX]
  unfold f_X11_lamps at h
  refine x_aload_n (pc := 0) dX11_lamps_0 rfl ?_
  refine x_getC (pc := 1) dX11_lamps_1 fX11_19 rfl (by decide) ?_
  refine x_iconst (pc := 4) dX11_lamps_4 (v := (0 : Int32)) (by decide) ?_
  refine z_Vi1 (pc := 5) h dX11_lamps_5 lX11_148 (by decide) (by omega) rfl (fun a e => w_X5_burningBehind _ _ (by decide) _ a e) (fun v1 h => ?_)
  exact x_iret (pc := 8) dX11_lamps_8 rfl (by rw [hQX]; exact ⟨_, rfl, hq0 _ (wo_some h), rfl⟩)
noncomputable def f_X0_harmByLaw_J62 (l8 : Int32) (m11 : mi_M) : Option ((Int32 × mi_M) ⊕ (mi_M)) := some (.inl ((l8 + (1 : Int32)), m11))
noncomputable def f_X0_harmByLaw_B28 (p0 : Nat) (p3 : Int32) : (Int32 × mi_M) → Option ((Int32 × mi_M) ⊕ (mi_M)) := fun s => match s with | (l8, m9) => if (m9.1 8 p0 1) ≤ l8 then some (.inr m9) else mi_bo (f_X5_isRipe 21 p0 l8 m9) fun v10 => if v10 = 0 then f_X0_harmByLaw_J62 l8 m9 else mi_bo (f_X5_beg 21 p0 l8 p3 m9) fun m12 => f_X0_harmByLaw_J62 l8 m12
noncomputable def f_X0_harmByLaw_K28 (p0 : Nat) (l4 : Int32) : mi_M → Option ((Int32 × mi_M) ⊕ (mi_M)) := fun m6 => mi_bo (f_X5_sleep 21 p0 m6) fun m7 => some (.inl ((l4 + (1 : Int32)), m7))
noncomputable def f_X0_harmByLaw_B19 (p0 : Nat) (p2 : Int32) (p3 : Int32) : (Int32 × mi_M) → Option ((Int32 × mi_M) ⊕ (mi_M)) := fun s => match s with | (l4, m5) => if p2 ≤ l4 then some (.inr m5) else mi_bo (mi_lp (f_X0_harmByLaw_B28 p0 p3) mi_fu ((0 : Int32), m5)) (f_X0_harmByLaw_K28 p0 l4)
noncomputable def f_X0_harmByLaw_K19 : mi_M → Option (Int32 × mi_M) := fun m3 => some ((m3.1 5 21 1), m3)
noncomputable def f_X0_harmByLaw (p0 : Nat) (p1 : Nat) (p2 : Int32) (p3 : Int32) (mem : mi_M) : Option (Int32 × mi_M) := mi_bo (f_X5_become 21 p1 mem) fun m1 => mi_let (mi_wI m1 5 21 1 (0 : Int32)) fun m2 => mi_bo (mi_lp (f_X0_harmByLaw_B19 p0 p2 p3) mi_fu ((0 : Int32), m2)) (f_X0_harmByLaw_K19)
set_option maxRecDepth 100000 in
set_option maxHeartbeats 4000000 in
theorem w_X0_harmByLaw (p0 : Nat) (p1 : Nat) (p2 : Int32) (p3 : Int32) (hp0 : p0 < mi_n 8) (hp1 : p1 < mi_n 5) (mem : mi_M) (a : Int32 × mi_M) (e : f_X0_harmByLaw p0 p1 p2 p3 mem = some a) : mi_Ci (6) mX0_harmByLaw [vr 0 0, vr 8 p0, vr 5 p1, vi p2, vi p3] mem (fun x m' => x = a.1 ∧ m' = a.2) := by
  unfold mi_Ci
  refine mi_C_intro (ls := [(0, vr 0 0), (1, vr 8 p0), (2, vr 5 p1), (3, vi p2), (4, vi p3)]) (by decide) rfl rfl ?_
  obtain ⟨Q0, hq0, h⟩ : ∃ Q0 : (Int32 × mi_M) → Prop, (∀ b, Q0 b → b = a) ∧ wo (f_X0_harmByLaw p0 p1 p2 p3 mem) Q0 := ⟨fun b => b = a, fun _ h => h, wo_eq e⟩
  obtain ⟨QX, hQX⟩ : ∃ QX : Option mi_V → mi_M → Prop, QX = (fun r m' => ∃ x, r = some (vi x) ∧ x = a.1 ∧ m' = a.2) := ⟨_, rfl⟩
  rw [← hQX]
  unfold f_X0_harmByLaw at h
  refine x_aload_n (pc := 0) dX0_harmByLaw_0 rfl ?_
  refine x_getC (pc := 1) dX0_harmByLaw_1 fX0_12 rfl (by decide) ?_
  refine x_aload_n (pc := 4) dX0_harmByLaw_4 rfl ?_
  refine y_Vv1 (pc := 5) h dX0_harmByLaw_5 lX0_72 (by decide) (by omega) rfl (fun a e => w_X5_become _ _ (by decide) hp1 _ a e) (fun m1 h => ?_)
  refine x_aload_n (pc := 8) dX0_harmByLaw_8 rfl ?_
  refine x_getC (pc := 9) dX0_harmByLaw_9 fX0_12 rfl (by decide) ?_
  refine x_iconst (pc := 12) dX0_harmByLaw_12 (v := (0 : Int32)) (by decide) ?_
  refine x_putI (pc := 13) dX0_harmByLaw_13 fX0_65 rfl (by decide) rfl rfl ?_
  refine x_letm h (fun m2 h => ?_)
  refine x_iconst (pc := 16) dX0_harmByLaw_16 (v := (0 : Int32)) (by decide) ?_
  refine x_istore (ls' := [(5, _), (0, _), (1, _), (2, _), (3, _), (4, _)]) (pc := 17) dX0_harmByLaw_17 rfl rfl ?_
  have k19_0 : ∀ (m3 : mi_M), wo (f_X0_harmByLaw_K19 m3) Q0 → mi_X mX0_harmByLaw (6) 82 [(0, vr 0 0)] [] m3 QX := by
    intro m3 h
    unfold f_X0_harmByLaw_K19 at h
    try dsimp only at h
    refine x_aload_n (pc := 82) dX0_harmByLaw_82 rfl ?_
    refine x_getC (pc := 83) dX0_harmByLaw_83 fX0_12 rfl (by decide) ?_
    refine x_getI (pc := 86) dX0_harmByLaw_86 fX0_65 rfl (by decide) ?_
    exact x_iret (pc := 89) dX0_harmByLaw_89 rfl (by rw [hQX]; exact ⟨_, rfl, congrArg Prod.fst (hq0 _ (wo_some h)), congrArg Prod.snd (hq0 _ (wo_some h))⟩)
  refine x_sub [(0, _), (1, _), (3, _), (4, _), (5, _)] ⟨rfl, rfl, rfl, rfl, rfl, trivial⟩ ?_
  obtain ⟨ea, eb, h⟩ := wo_bo h
  refine wo_lq (X := fun s => match s with | (l4, m5) => mi_X mX0_harmByLaw (6) 19 [(0, vr 0 0), (1, vr 8 p0), (3, vi p2), (4, vi p3), (5, vi l4)] [] m5 QX) (E := fun e => wo (f_X0_harmByLaw_K19 e) Q0) ?_ _ ((0 : Int32), m2) ⟨_, eb, h⟩
  intro Q19 hb19 he19 s h
  obtain ⟨l4, m5⟩ := s
  show mi_X mX0_harmByLaw (6) 19 [(0, vr 0 0), (1, vr 8 p0), (3, vi p2), (4, vi p3), (5, vi l4)] [] m5 QX
  unfold f_X0_harmByLaw_B19 at h
  try dsimp only at h
  refine x_iload (pc := 19) dX0_harmByLaw_19 rfl ?_
  refine x_iload_n (pc := 21) dX0_harmByLaw_21 rfl ?_
  refine x_icmp_ge (pc := 22) dX0_harmByLaw_22 (tgt := 82) (by decide) (fun c15 => ?_) (fun c15 => ?_)
  · replace h := wo_pos c15 h
    refine x_sub [(0, _)] ⟨rfl, trivial⟩ ?_
    exact k19_0 _ (he19 m5 (wo_some h))
  · replace h := wo_neg c15 h
    refine x_iconst (pc := 25) dX0_harmByLaw_25 (v := (0 : Int32)) (by decide) ?_
    refine x_istore (ls' := [(6, _), (0, _), (1, _), (3, _), (4, _), (5, _)]) (pc := 26) dX0_harmByLaw_26 rfl rfl ?_
    have k28_0 : ∀ (m6 : mi_M), wo (f_X0_harmByLaw_K28 p0 l4 m6) Q19 → mi_X mX0_harmByLaw (6) 68 [(0, vr 0 0), (1, vr 8 p0), (3, vi p2), (4, vi p3), (5, vi l4)] [] m6 QX := by
      intro m6 h
      unfold f_X0_harmByLaw_K28 at h
      try dsimp only at h
      refine x_aload_n (pc := 68) dX0_harmByLaw_68 rfl ?_
      refine x_getC (pc := 69) dX0_harmByLaw_69 fX0_12 rfl (by decide) ?_
      refine x_aload_n (pc := 72) dX0_harmByLaw_72 rfl ?_
      refine y_Vv1 (pc := 73) h dX0_harmByLaw_73 lX0_98 (by decide) (by omega) rfl (fun a e => w_X5_sleep _ _ (by decide) hp0 _ a e) (fun m7 h => ?_)
      refine x_iinc (ls' := [(5, _), (0, _), (1, _), (3, _), (4, _)]) (pc := 76) dX0_harmByLaw_76 rfl (v := l4 + (1 : Int32)) rfl rfl rfl ?_
      refine x_goto (pc := 79) dX0_harmByLaw_79 (tgt := 19) (by decide) ?_
      refine x_sub [(0, _), (1, _), (3, _), (4, _), (5, _)] ⟨rfl, rfl, rfl, rfl, rfl, trivial⟩ ?_
      exact hb19 ((l4 + (1 : Int32)), m7) (wo_some h)
    refine x_sub [(0, _), (1, _), (3, _), (4, _), (5, _), (6, _)] ⟨rfl, rfl, rfl, rfl, rfl, rfl, trivial⟩ ?_
    obtain ⟨ea, eb, h⟩ := wo_bo h
    refine wo_lq (X := fun s => match s with | (l8, m9) => mi_X mX0_harmByLaw (6) 28 [(0, vr 0 0), (1, vr 8 p0), (3, vi p2), (4, vi p3), (5, vi l4), (6, vi l8)] [] m9 QX) (E := fun e => wo (f_X0_harmByLaw_K28 p0 l4 e) Q19) ?_ _ ((0 : Int32), m5) ⟨_, eb, h⟩
    intro Q28 hb28 he28 s h
    obtain ⟨l8, m9⟩ := s
    show mi_X mX0_harmByLaw (6) 28 [(0, vr 0 0), (1, vr 8 p0), (3, vi p2), (4, vi p3), (5, vi l4), (6, vi l8)] [] m9 QX
    unfold f_X0_harmByLaw_B28 at h
    try dsimp only at h
    refine x_iload (pc := 28) dX0_harmByLaw_28 rfl ?_
    refine x_aload_n (pc := 30) dX0_harmByLaw_30 rfl ?_
    refine x_getI (pc := 31) dX0_harmByLaw_31 fX0_86 rfl hp0 ?_
    refine x_icmp_ge (pc := 34) dX0_harmByLaw_34 (tgt := 68) (by decide) (fun c14 => ?_) (fun c14 => ?_)
    · replace h := wo_pos c14 h
      refine x_sub [(0, _), (1, _), (3, _), (4, _), (5, _)] ⟨rfl, rfl, rfl, rfl, rfl, trivial⟩ ?_
      exact k28_0 _ (he28 m9 (wo_some h))
    · replace h := wo_neg c14 h
      refine x_aload_n (pc := 37) dX0_harmByLaw_37 rfl ?_
      refine x_getC (pc := 38) dX0_harmByLaw_38 fX0_12 rfl (by decide) ?_
      refine x_aload_n (pc := 41) dX0_harmByLaw_41 rfl ?_
      refine x_iload (pc := 42) dX0_harmByLaw_42 rfl ?_
      refine z_Vi2 (pc := 44) h dX0_harmByLaw_44 lX0_126 (by decide) (by omega) rfl (fun a e => w_X5_isRipe _ _ _ (by decide) hp0 _ a e) (fun v10 h => ?_)
      have j62 : ∀ (m11 : mi_M), wo (f_X0_harmByLaw_J62 l8 m11) Q28 → mi_X mX0_harmByLaw (6) 62 [(0, vr 0 0), (1, vr 8 p0), (3, vi p2), (4, vi p3), (5, vi l4), (6, vi l8)] [] m11 QX := by
        intro m11 h
        unfold f_X0_harmByLaw_J62 at h
        refine x_iinc (ls' := [(6, _), (0, _), (1, _), (3, _), (4, _), (5, _)]) (pc := 62) dX0_harmByLaw_62 rfl (v := l8 + (1 : Int32)) rfl rfl rfl ?_
        refine x_goto (pc := 65) dX0_harmByLaw_65 (tgt := 28) (by decide) ?_
        refine x_sub [(0, _), (1, _), (3, _), (4, _), (5, _), (6, _)] ⟨rfl, rfl, rfl, rfl, rfl, rfl, trivial⟩ ?_
        exact hb28 ((l8 + (1 : Int32)), m11) (wo_some h)
      refine x_if_eq (pc := 47) dX0_harmByLaw_47 (tgt := 62) (by decide) (fun c13 => ?_) (fun c13 => ?_)
      · replace h := wo_pos c13 h
        refine x_sub [(0, _), (1, _), (3, _), (4, _), (5, _), (6, _)] ⟨rfl, rfl, rfl, rfl, rfl, rfl, trivial⟩ ?_
        exact j62 _ h
      · replace h := wo_neg c13 h
        refine x_aload_n (pc := 50) dX0_harmByLaw_50 rfl ?_
        refine x_getC (pc := 51) dX0_harmByLaw_51 fX0_12 rfl (by decide) ?_
        refine x_aload_n (pc := 54) dX0_harmByLaw_54 rfl ?_
        refine x_iload (pc := 55) dX0_harmByLaw_55 rfl ?_
        refine x_iload (pc := 57) dX0_harmByLaw_57 rfl ?_
        refine y_Vv3 (pc := 59) h dX0_harmByLaw_59 lX0_95 (by decide) (by omega) rfl (fun a e => w_X5_beg _ _ _ _ (by decide) hp0 _ a e) (fun m12 h => ?_)
        refine x_sub [(0, _), (1, _), (3, _), (4, _), (5, _), (6, _)] ⟨rfl, rfl, rfl, rfl, rfl, rfl, trivial⟩ ?_
        exact j62 _ h
noncomputable def f_X11_law_J20 (mem : mi_M) : Option (Int32 × mi_M) := some ((-1 : Int32), mem)
noncomputable def f_X11_law (p0 : Int32) (p1 : Int32) (mem : mi_M) : Option (Int32 × mi_M) := mi_bo (f_X11_isWithin p0 (1 : Int32) (30 : Int32) mem) fun v1 => if v1 = 0 then f_X11_law_J20 mem else mi_bo (f_X11_isWithin p1 (0 : Int32) (9 : Int32) mem) fun v2 => if v2 = 0 then f_X11_law_J20 mem else mi_g (mem.2.2 0 < mi_n 8) (mi_b (f_X0_harmByLaw (mem.2.2 0) 0 p0 p1 mem) fun v4 m5 => some (v4, m5))
set_option maxRecDepth 100000 in
set_option maxHeartbeats 4000000 in
theorem w_X11_law (p0 : Int32) (p1 : Int32) (mem : mi_M) (a : Int32 × mi_M) (e : f_X11_law p0 p1 mem = some a) : mi_Ci (7) mX11_law [vr 11 0, vi p0, vi p1] mem (fun x m' => x = a.1 ∧ m' = a.2) := by
  unfold mi_Ci
  refine mi_C_intro (ls := [(0, vr 11 0), (1, vi p0), (2, vi p1)]) (by decide) rfl rfl ?_
  obtain ⟨Q0, hq0, h⟩ : ∃ Q0 : (Int32 × mi_M) → Prop, (∀ b, Q0 b → b = a) ∧ wo (f_X11_law p0 p1 mem) Q0 := ⟨fun b => b = a, fun _ h => h, wo_eq e⟩
  obtain ⟨QX, hQX⟩ : ∃ QX : Option mi_V → mi_M → Prop, QX = (fun r m' => ∃ x, r = some (vi x) ∧ x = a.1 ∧ m' = a.2) := ⟨_, rfl⟩
  rw [← hQX]
  unfold f_X11_law at h
  refine x_iload_n (pc := 0) dX11_law_0 rfl ?_
  refine x_iconst (pc := 1) dX11_law_1 (v := (1 : Int32)) (by decide) ?_
  refine x_bipush (pc := 2) dX11_law_2 (v := (30 : Int32)) (by decide) ?_
  refine z_Si3 (pc := 4) h dX11_law_4 lX11_155 (by omega) rfl (fun a e => w_X11_isWithin _ _ _ _ a e) (fun v1 h => ?_)
  have j20 : wo (f_X11_law_J20 mem) Q0 → mi_X mX11_law (7) 20 [] [] mem QX := by
    intro h
    unfold f_X11_law_J20 at h
    refine x_iconst (pc := 20) dX11_law_20 (v := (-1 : Int32)) (by decide) ?_
    exact x_iret (pc := 21) dX11_law_21 rfl (by rw [hQX]; exact ⟨_, rfl, congrArg Prod.fst (hq0 _ (wo_some h)), congrArg Prod.snd (hq0 _ (wo_some h))⟩)
  refine x_if_eq (pc := 7) dX11_law_7 (tgt := 20) (by decide) (fun c7 => ?_) (fun c7 => ?_)
  · replace h := wo_pos c7 h
    refine x_sub [] trivial ?_
    exact j20 h
  · replace h := wo_neg c7 h
    refine x_iload_n (pc := 10) dX11_law_10 rfl ?_
    refine x_iconst (pc := 11) dX11_law_11 (v := (0 : Int32)) (by decide) ?_
    refine x_bipush (pc := 12) dX11_law_12 (v := (9 : Int32)) (by decide) ?_
    refine z_Si3 (pc := 14) h dX11_law_14 lX11_155 (by omega) rfl (fun a e => w_X11_isWithin _ _ _ _ a e) (fun v2 h => ?_)
    refine x_if_ne (pc := 17) dX11_law_17 (tgt := 22) (by decide) (fun c6 => ?_) (fun c6 => ?_)
    · replace h := wo_neg c6 h
      refine x_aload_n (pc := 22) dX11_law_22 rfl ?_
      refine x_getC (pc := 23) dX11_law_23 fX11_40 rfl (by decide) ?_
      refine x_aload_n (pc := 26) dX11_law_26 rfl ?_
      obtain ⟨hm3, h⟩ := wo_g h
      refine x_getM (pc := 27) dX11_law_27 fX11_54 rfl (by decide) ?_
      refine x_aload_n (pc := 30) dX11_law_30 rfl ?_
      refine x_getC (pc := 31) dX11_law_31 fX11_19 rfl (by decide) ?_
      refine x_iload_n (pc := 34) dX11_law_34 rfl ?_
      refine x_iload_n (pc := 35) dX11_law_35 rfl ?_
      refine y_Vi4 (pc := 36) h dX11_law_36 lX11_260 (by decide) (by omega) rfl (fun a e => w_X0_harmByLaw _ _ _ _ hm3 (by decide) _ a e) (fun v4 m5 h => ?_)
      exact x_iret (pc := 39) dX11_law_39 rfl (by rw [hQX]; exact ⟨_, rfl, congrArg Prod.fst (hq0 _ (wo_some h)), congrArg Prod.snd (hq0 _ (wo_some h))⟩)
    · replace h := wo_pos c6 h
      refine x_sub [] trivial ?_
      exact j20 h
noncomputable def f_X2_countBurning_B10 (l2 : Int32) : (Int32 × mi_M) → Option ((Int32 × mi_M) ⊕ (mi_M)) := fun s => match s with | (l5, m6) => if (10 : Int32) ≤ l5 then some (.inr m6) else mi_g (vp_in l2 6) (if (m6.1 23 0 l2.toNatClampNeg) ≤ l5 then some (.inr m6) else mi_g (vp_in ((l2 * (10 : Int32)) + l5) 60) (mi_g (vp_in ((l2 * (10 : Int32)) + l5) 60) (mi_let (mi_wI m6 26 0 ((l2 * (10 : Int32)) + l5).toNatClampNeg ((m6.1 26 0 ((l2 * (10 : Int32)) + l5).toNatClampNeg) + (1 : Int32))) fun m10 => some (.inl ((l5 + (1 : Int32)), m10)))))
noncomputable def f_X2_countBurning_K10 (l2 : Int32) : mi_M → Option ((Int32 × mi_M) ⊕ (mi_M)) := fun m4 => some (.inl ((l2 + (1 : Int32)), m4))
noncomputable def f_X2_countBurning_B2 : (Int32 × mi_M) → Option ((Int32 × mi_M) ⊕ (mi_M)) := fun s => match s with | (l2, m3) => if (6 : Int32) ≤ l2 then some (.inr m3) else mi_bo (mi_lp (f_X2_countBurning_B10 l2) mi_fu ((0 : Int32), m3)) (f_X2_countBurning_K10 l2)
noncomputable def f_X2_countBurning_K2 : mi_M → Option (mi_M) := fun m1 => some m1
noncomputable def f_X2_countBurning (mem : mi_M) : Option (mi_M) := mi_bo (mi_lp (f_X2_countBurning_B2) mi_fu ((0 : Int32), mem)) (f_X2_countBurning_K2)
set_option maxRecDepth 100000 in
set_option maxHeartbeats 4000000 in
theorem w_X2_countBurning (mem : mi_M) (a : mi_M) (e : f_X2_countBurning  mem = some a) : mi_Cv (1) mX2_countBurning [vr 2 0] mem (fun m' => m' = a) := by
  unfold mi_Cv
  refine mi_C_intro (ls := [(0, vr 2 0)]) (by decide) rfl rfl ?_
  obtain ⟨Q0, hq0, h⟩ : ∃ Q0 : mi_M → Prop, (∀ b, Q0 b → b = a) ∧ wo (f_X2_countBurning  mem) Q0 := ⟨fun b => b = a, fun _ h => h, wo_eq e⟩
  obtain ⟨QX, hQX⟩ : ∃ QX : Option mi_V → mi_M → Prop, QX = (fun r m' => r = none ∧ m' = a) := ⟨_, rfl⟩
  rw [← hQX]
  unfold f_X2_countBurning at h
  refine x_iconst (pc := 0) dX2_countBurning_0 (v := (0 : Int32)) (by decide) ?_
  refine x_istore_n (ls' := [(1, _), (0, _)]) (pc := 1) dX2_countBurning_1 rfl rfl rfl ?_
  have k2_0 : ∀ (m1 : mi_M), wo (f_X2_countBurning_K2 m1) Q0 → mi_X mX2_countBurning (1) 53 [] [] m1 QX := by
    intro m1 h
    unfold f_X2_countBurning_K2 at h
    try dsimp only at h
    exact x_ret (pc := 53) dX2_countBurning_53 rfl (by rw [hQX]; exact ⟨rfl, hq0 _ (wo_some h)⟩)
  refine x_sub [(0, _), (1, _)] ⟨rfl, rfl, trivial⟩ ?_
  obtain ⟨ea, eb, h⟩ := wo_bo h
  refine wo_lq (X := fun s => match s with | (l2, m3) => mi_X mX2_countBurning (1) 2 [(0, vr 2 0), (1, vi l2)] [] m3 QX) (E := fun e => wo (f_X2_countBurning_K2 e) Q0) ?_ _ ((0 : Int32), mem) ⟨_, eb, h⟩
  intro Q2 hb2 he2 s h
  obtain ⟨l2, m3⟩ := s
  show mi_X mX2_countBurning (1) 2 [(0, vr 2 0), (1, vi l2)] [] m3 QX
  unfold f_X2_countBurning_B2 at h
  try dsimp only at h
  refine x_iload_n (pc := 2) dX2_countBurning_2 rfl ?_
  refine x_bipush (pc := 3) dX2_countBurning_3 (v := (6 : Int32)) (by decide) ?_
  refine x_icmp_ge (pc := 5) dX2_countBurning_5 (tgt := 53) (by decide) (fun c13 => ?_) (fun c13 => ?_)
  · replace h := wo_pos c13 h
    refine x_sub [] trivial ?_
    exact k2_0 _ (he2 m3 (wo_some h))
  · replace h := wo_neg c13 h
    refine x_iconst (pc := 8) dX2_countBurning_8 (v := (0 : Int32)) (by decide) ?_
    refine x_istore_n (ls' := [(2, _), (0, _), (1, _)]) (pc := 9) dX2_countBurning_9 rfl rfl rfl ?_
    have k10_0 : ∀ (m4 : mi_M), wo (f_X2_countBurning_K10 l2 m4) Q2 → mi_X mX2_countBurning (1) 47 [(0, vr 2 0), (1, vi l2)] [] m4 QX := by
      intro m4 h
      unfold f_X2_countBurning_K10 at h
      try dsimp only at h
      refine x_iinc (ls' := [(1, _), (0, _)]) (pc := 47) dX2_countBurning_47 rfl (v := l2 + (1 : Int32)) rfl rfl rfl ?_
      refine x_goto (pc := 50) dX2_countBurning_50 (tgt := 2) (by decide) ?_
      refine x_sub [(0, _), (1, _)] ⟨rfl, rfl, trivial⟩ ?_
      exact hb2 ((l2 + (1 : Int32)), m4) (wo_some h)
    refine x_sub [(0, _), (1, _), (2, _)] ⟨rfl, rfl, rfl, trivial⟩ ?_
    obtain ⟨ea, eb, h⟩ := wo_bo h
    refine wo_lq (X := fun s => match s with | (l5, m6) => mi_X mX2_countBurning (1) 10 [(0, vr 2 0), (1, vi l2), (2, vi l5)] [] m6 QX) (E := fun e => wo (f_X2_countBurning_K10 l2 e) Q2) ?_ _ ((0 : Int32), m3) ⟨_, eb, h⟩
    intro Q10 hb10 he10 s h
    obtain ⟨l5, m6⟩ := s
    show mi_X mX2_countBurning (1) 10 [(0, vr 2 0), (1, vi l2), (2, vi l5)] [] m6 QX
    unfold f_X2_countBurning_B10 at h
    try dsimp only at h
    refine x_iload_n (pc := 10) dX2_countBurning_10 rfl ?_
    refine x_bipush (pc := 11) dX2_countBurning_11 (v := (10 : Int32)) (by decide) ?_
    refine x_icmp_ge (pc := 13) dX2_countBurning_13 (tgt := 47) (by decide) (fun c12 => ?_) (fun c12 => ?_)
    · replace h := wo_pos c12 h
      refine x_sub [(0, _), (1, _)] ⟨rfl, rfl, trivial⟩ ?_
      exact k10_0 _ (he10 m6 (wo_some h))
    · replace h := wo_neg c12 h
      refine x_iload_n (pc := 16) dX2_countBurning_16 rfl ?_
      refine x_aload_n (pc := 17) dX2_countBurning_17 rfl ?_
      refine x_getS (pc := 18) dX2_countBurning_18 fX2_21 rfl (by decide) ?_
      refine x_iload_n (pc := 21) dX2_countBurning_21 rfl ?_
      obtain ⟨hx7, h⟩ := wo_g h
      refine x_ialdJ (pc := 22) dX2_countBurning_22 rfl rfl (by decide) hx7 ?_
      refine x_icmp_ge (pc := 23) dX2_countBurning_23 (tgt := 47) (by decide) (fun c11 => ?_) (fun c11 => ?_)
      · replace h := wo_pos c11 h
        refine x_sub [(0, _), (1, _)] ⟨rfl, rfl, trivial⟩ ?_
        exact k10_0 _ (he10 m6 (wo_some h))
      · replace h := wo_neg c11 h
        refine x_aload_n (pc := 26) dX2_countBurning_26 rfl ?_
        refine x_getS (pc := 27) dX2_countBurning_27 fX2_30 rfl (by decide) ?_
        refine x_iload_n (pc := 30) dX2_countBurning_30 rfl ?_
        refine x_bipush (pc := 31) dX2_countBurning_31 (v := (10 : Int32)) (by decide) ?_
        refine x_imul (pc := 33) dX2_countBurning_33 ?_
        refine x_iload_n (pc := 34) dX2_countBurning_34 rfl ?_
        refine x_iadd (pc := 35) dX2_countBurning_35 ?_
        refine x_dup2 (pc := 36) dX2_countBurning_36 rfl rfl ?_
        obtain ⟨hx8, h⟩ := wo_g h
        refine x_ialdJ (pc := 37) dX2_countBurning_37 rfl rfl (by decide) hx8 ?_
        refine x_iconst (pc := 38) dX2_countBurning_38 (v := (1 : Int32)) (by decide) ?_
        refine x_iadd (pc := 39) dX2_countBurning_39 ?_
        obtain ⟨hx9, h⟩ := wo_g h
        refine x_iastJ (pc := 40) dX2_countBurning_40 rfl rfl (by decide) rfl hx9 ?_
        refine x_letm h (fun m10 h => ?_)
        refine x_iinc (ls' := [(2, _), (0, _), (1, _)]) (pc := 41) dX2_countBurning_41 rfl (v := l5 + (1 : Int32)) rfl rfl rfl ?_
        refine x_goto (pc := 44) dX2_countBurning_44 (tgt := 10) (by decide) ?_
        refine x_sub [(0, _), (1, _), (2, _)] ⟨rfl, rfl, rfl, trivial⟩ ?_
        exact hb10 ((l5 + (1 : Int32)), m10) (wo_some h)
noncomputable def f_X2_lightBy_J72 (l3 : Int32) (m6 : mi_M) : Option ((Int32 × mi_M) ⊕ (mi_M)) := some (.inl ((l3 + (1 : Int32)), m6))
noncomputable def f_X2_lightBy_B18 (p0 : Nat) (p2 : Int32) : (Int32 × mi_M) → Option ((Int32 × mi_M) ⊕ (mi_M)) := fun s => match s with | (l3, m4) => if (m4.1 8 p0 1) ≤ l3 then some (.inr m4) else mi_bo (f_X11_holds p2 l3 m4) fun v5 => if v5 = 0 then f_X2_lightBy_J72 l3 m4 else mi_g (vp_in l3 8) (mi_let (m4.1 42 p0 l3.toNatClampNeg) fun v8 => mi_g (vp_in v8 6) (mi_g (vp_in l3 8) (mi_let (if ((m4.1 23 0 v8.toNatClampNeg) + (m4.1 21 0 l3.toNatClampNeg)) < (99 : Int32) then ((m4.1 23 0 v8.toNatClampNeg) + (m4.1 21 0 l3.toNatClampNeg)) else (99 : Int32)) fun v11 => mi_g (vp_in v8 6) (mi_let (mi_wI m4 23 0 v8.toNatClampNeg v11) fun m13 => f_X2_lightBy_J72 l3 m13))))
noncomputable def f_X2_lightBy_K18 : mi_M → Option (mi_M) := fun m2 => some m2
noncomputable def f_X2_lightBy (p0 : Nat) (p1 : Nat) (p2 : Int32) (mem : mi_M) : Option (mi_M) := mi_let (mi_cp mem 35 p1 23 0 6) fun m1 => mi_bo (mi_lp (f_X2_lightBy_B18 p0 p2) mi_fu ((0 : Int32), m1)) (f_X2_lightBy_K18)
set_option maxRecDepth 100000 in
set_option maxHeartbeats 4000000 in
theorem w_X2_lightBy (p0 : Nat) (p1 : Nat) (p2 : Int32) (hp0 : p0 < mi_n 8) (hp1 : p1 < mi_n 5) (mem : mi_M) (a : mi_M) (e : f_X2_lightBy p0 p1 p2 mem = some a) : mi_Cv (2) mX2_lightBy [vr 2 0, vr 8 p0, vr 5 p1, vi p2] mem (fun m' => m' = a) := by
  unfold mi_Cv
  refine mi_C_intro (ls := [(0, vr 2 0), (1, vr 8 p0), (2, vr 5 p1), (3, vi p2)]) (by decide) rfl rfl ?_
  obtain ⟨Q0, hq0, h⟩ : ∃ Q0 : mi_M → Prop, (∀ b, Q0 b → b = a) ∧ wo (f_X2_lightBy p0 p1 p2 mem) Q0 := ⟨fun b => b = a, fun _ h => h, wo_eq e⟩
  obtain ⟨QX, hQX⟩ : ∃ QX : Option mi_V → mi_M → Prop, QX = (fun r m' => r = none ∧ m' = a) := ⟨_, rfl⟩
  rw [← hQX]
  unfold f_X2_lightBy at h
  refine x_aload_n (pc := 0) dX2_lightBy_0 rfl ?_
  refine x_getS (pc := 1) dX2_lightBy_1 fX2_185 rfl hp1 ?_
  refine x_iconst (pc := 4) dX2_lightBy_4 (v := (0 : Int32)) (by decide) ?_
  refine x_aload_n (pc := 5) dX2_lightBy_5 rfl ?_
  refine x_getS (pc := 6) dX2_lightBy_6 fX2_21 rfl (by decide) ?_
  refine x_iconst (pc := 9) dX2_lightBy_9 (v := (0 : Int32)) (by decide) ?_
  refine x_bipush (pc := 10) dX2_lightBy_10 (v := (6 : Int32)) (by decide) ?_
  refine x_acpy (pc := 12) (n := 6) dX2_lightBy_12 lX2_186 (by omega) rfl rfl rfl rfl rfl hp1 (by decide) (by decide) (by decide) rfl (by decide) ?_
  refine x_letm h (fun m1 h => ?_)
  refine x_iconst (pc := 15) dX2_lightBy_15 (v := (0 : Int32)) (by decide) ?_
  refine x_istore (ls' := [(4, _), (0, _), (1, _), (2, _), (3, _)]) (pc := 16) dX2_lightBy_16 rfl rfl ?_
  have k18_0 : ∀ (m2 : mi_M), wo (f_X2_lightBy_K18 m2) Q0 → mi_X mX2_lightBy (2) 78 [] [] m2 QX := by
    intro m2 h
    unfold f_X2_lightBy_K18 at h
    try dsimp only at h
    exact x_ret (pc := 78) dX2_lightBy_78 rfl (by rw [hQX]; exact ⟨rfl, hq0 _ (wo_some h)⟩)
  refine x_sub [(0, _), (1, _), (3, _), (4, _)] ⟨rfl, rfl, rfl, rfl, trivial⟩ ?_
  obtain ⟨ea, eb, h⟩ := wo_bo h
  refine wo_lq (X := fun s => match s with | (l3, m4) => mi_X mX2_lightBy (2) 18 [(0, vr 2 0), (1, vr 8 p0), (3, vi p2), (4, vi l3)] [] m4 QX) (E := fun e => wo (f_X2_lightBy_K18 e) Q0) ?_ _ ((0 : Int32), m1) ⟨_, eb, h⟩
  intro Q18 hb18 he18 s h
  obtain ⟨l3, m4⟩ := s
  show mi_X mX2_lightBy (2) 18 [(0, vr 2 0), (1, vr 8 p0), (3, vi p2), (4, vi l3)] [] m4 QX
  unfold f_X2_lightBy_B18 at h
  try dsimp only at h
  refine x_iload (pc := 18) dX2_lightBy_18 rfl ?_
  refine x_aload_n (pc := 20) dX2_lightBy_20 rfl ?_
  refine x_getI (pc := 21) dX2_lightBy_21 fX2_40 rfl hp0 ?_
  refine x_icmp_ge (pc := 24) dX2_lightBy_24 (tgt := 78) (by decide) (fun c15 => ?_) (fun c15 => ?_)
  · replace h := wo_pos c15 h
    refine x_sub [] trivial ?_
    exact k18_0 _ (he18 m4 (wo_some h))
  · replace h := wo_neg c15 h
    refine x_iload_n (pc := 27) dX2_lightBy_27 rfl ?_
    refine x_iload (pc := 28) dX2_lightBy_28 rfl ?_
    refine z_Ni2 (pc := 30) h dX2_lightBy_30 nX2_96 (by omega) rfl (fun a e => w_X11_holds _ _ _ a e) (fun v5 h => ?_)
    have j72 : ∀ (m6 : mi_M), wo (f_X2_lightBy_J72 l3 m6) Q18 → mi_X mX2_lightBy (2) 72 [(0, vr 2 0), (1, vr 8 p0), (3, vi p2), (4, vi l3)] [] m6 QX := by
      intro m6 h
      unfold f_X2_lightBy_J72 at h
      refine x_iinc (ls' := [(4, _), (0, _), (1, _), (3, _)]) (pc := 72) dX2_lightBy_72 rfl (v := l3 + (1 : Int32)) rfl rfl rfl ?_
      refine x_goto (pc := 75) dX2_lightBy_75 (tgt := 18) (by decide) ?_
      refine x_sub [(0, _), (1, _), (3, _), (4, _)] ⟨rfl, rfl, rfl, rfl, trivial⟩ ?_
      exact hb18 ((l3 + (1 : Int32)), m6) (wo_some h)
    refine x_if_eq (pc := 33) dX2_lightBy_33 (tgt := 72) (by decide) (fun c14 => ?_) (fun c14 => ?_)
    · replace h := wo_pos c14 h
      refine x_sub [(0, _), (1, _), (3, _), (4, _)] ⟨rfl, rfl, rfl, rfl, trivial⟩ ?_
      exact j72 _ h
    · replace h := wo_neg c14 h
      refine x_aload_n (pc := 36) dX2_lightBy_36 rfl ?_
      refine x_getS (pc := 37) dX2_lightBy_37 fX2_109 rfl hp0 ?_
      refine x_iload (pc := 40) dX2_lightBy_40 rfl ?_
      obtain ⟨hx7, h⟩ := wo_g h
      refine x_ialdJ (pc := 42) dX2_lightBy_42 rfl rfl hp0 hx7 ?_
      refine x_leti h (fun v8 h => ?_)
      refine x_istore (ls' := [(5, _), (0, _), (1, _), (3, _), (4, _)]) (pc := 43) dX2_lightBy_43 rfl rfl ?_
      refine x_aload_n (pc := 45) dX2_lightBy_45 rfl ?_
      refine x_getS (pc := 46) dX2_lightBy_46 fX2_21 rfl (by decide) ?_
      refine x_iload (pc := 49) dX2_lightBy_49 rfl ?_
      refine x_bipush (pc := 51) dX2_lightBy_51 (v := (99 : Int32)) (by decide) ?_
      refine x_aload_n (pc := 53) dX2_lightBy_53 rfl ?_
      refine x_getS (pc := 54) dX2_lightBy_54 fX2_21 rfl (by decide) ?_
      refine x_iload (pc := 57) dX2_lightBy_57 rfl ?_
      obtain ⟨hx9, h⟩ := wo_g h
      refine x_ialdJ (pc := 59) dX2_lightBy_59 rfl rfl (by decide) hx9 ?_
      refine x_aload_n (pc := 60) dX2_lightBy_60 rfl ?_
      refine x_getS (pc := 61) dX2_lightBy_61 fX2_15 rfl (by decide) ?_
      refine x_iload (pc := 64) dX2_lightBy_64 rfl ?_
      obtain ⟨hx10, h⟩ := wo_g h
      refine x_ialdJ (pc := 66) dX2_lightBy_66 rfl rfl (by decide) hx10 ?_
      refine x_iadd (pc := 67) dX2_lightBy_67 ?_
      refine x_mmin (pc := 68) dX2_lightBy_68 lX2_161 (by omega) rfl ?_
      refine x_leti h (fun v11 h => ?_)
      obtain ⟨hx12, h⟩ := wo_g h
      refine x_iastJ (pc := 71) dX2_lightBy_71 rfl rfl (by decide) rfl hx12 ?_
      refine x_letm h (fun m13 h => ?_)
      refine x_sub [(0, _), (1, _), (3, _), (4, _)] ⟨rfl, rfl, rfl, rfl, trivial⟩ ?_
      exact j72 _ h
noncomputable def f_X2_ripeWrongs_J27 (l3 : Int32) (u5 : Int32) : Option ((Int32 × Int32) ⊕ (Int32)) := some (.inl (u5, (l3 + (1 : Int32))))
noncomputable def f_X2_ripeWrongs_B4 (p0 : Nat) (p1 : Nat) (mem : mi_M) : (Int32 × Int32) → Option ((Int32 × Int32) ⊕ (Int32)) := fun s => match s with | (l2, l3) => if (mem.1 8 p0 1) ≤ l3 then some (.inr l2) else mi_bo (f_X5_isRipe p1 p0 l3 mem) fun v4 => if v4 = 0 then f_X2_ripeWrongs_J27 l3 l2 else mi_let (l2 ||| ((1 : Int32) <<< (l3 &&& 31))) fun v6 => f_X2_ripeWrongs_J27 l3 v6
noncomputable def f_X2_ripeWrongs_K4 : Int32 → Option (Int32) := fun e1 => some e1
noncomputable def f_X2_ripeWrongs (p0 : Nat) (p1 : Nat) (mem : mi_M) : Option (Int32) := mi_bo (mi_lp (f_X2_ripeWrongs_B4 p0 p1 mem) mi_fu ((0 : Int32), (0 : Int32))) (f_X2_ripeWrongs_K4)
set_option maxRecDepth 100000 in
set_option maxHeartbeats 4000000 in
theorem w_X2_ripeWrongs (p0 : Nat) (p1 : Nat) (hp0 : p0 < mi_n 8) (hp1 : p1 < mi_n 5) (mem : mi_M) (a : Int32) (e : f_X2_ripeWrongs p0 p1 mem = some a) : mi_Ci (4) mX2_ripeWrongs [vr 8 p0, vr 5 p1] mem (fun x m' => x = a ∧ m' = mem) := by
  unfold mi_Ci
  refine mi_C_intro (ls := [(0, vr 8 p0), (1, vr 5 p1)]) (by decide) rfl rfl ?_
  obtain ⟨Q0, hq0, h⟩ : ∃ Q0 : Int32 → Prop, (∀ b, Q0 b → b = a) ∧ wo (f_X2_ripeWrongs p0 p1 mem) Q0 := ⟨fun b => b = a, fun _ h => h, wo_eq e⟩
  obtain ⟨QX, hQX⟩ : ∃ QX : Option mi_V → mi_M → Prop, QX = (fun r m' => ∃ x, r = some (vi x) ∧ x = a ∧ m' = mem) := ⟨_, rfl⟩
  rw [← hQX]
  unfold f_X2_ripeWrongs at h
  refine x_iconst (pc := 0) dX2_ripeWrongs_0 (v := (0 : Int32)) (by decide) ?_
  refine x_istore_n (ls' := [(2, _), (0, _), (1, _)]) (pc := 1) dX2_ripeWrongs_1 rfl rfl rfl ?_
  refine x_iconst (pc := 2) dX2_ripeWrongs_2 (v := (0 : Int32)) (by decide) ?_
  refine x_istore_n (ls' := [(3, _), (2, _), (0, _), (1, _)]) (pc := 3) dX2_ripeWrongs_3 rfl rfl rfl ?_
  have k4_0 : ∀ (e1 : Int32), wo (f_X2_ripeWrongs_K4 e1) Q0 → mi_X mX2_ripeWrongs (4) 33 [(2, vi e1)] [] mem QX := by
    intro e1 h
    unfold f_X2_ripeWrongs_K4 at h
    try dsimp only at h
    refine x_iload_n (pc := 33) dX2_ripeWrongs_33 rfl ?_
    exact x_iret (pc := 34) dX2_ripeWrongs_34 rfl (by rw [hQX]; exact ⟨_, rfl, hq0 _ (wo_some h), rfl⟩)
  refine x_sub [(0, _), (1, _), (2, _), (3, _)] ⟨rfl, rfl, rfl, rfl, trivial⟩ ?_
  obtain ⟨ea, eb, h⟩ := wo_bo h
  refine wo_lq (X := fun s => match s with | (l2, l3) => mi_X mX2_ripeWrongs (4) 4 [(0, vr 8 p0), (1, vr 5 p1), (2, vi l2), (3, vi l3)] [] mem QX) (E := fun e => wo (f_X2_ripeWrongs_K4 e) Q0) ?_ _ ((0 : Int32), (0 : Int32)) ⟨_, eb, h⟩
  intro Q4 hb4 he4 s h
  obtain ⟨l2, l3⟩ := s
  show mi_X mX2_ripeWrongs (4) 4 [(0, vr 8 p0), (1, vr 5 p1), (2, vi l2), (3, vi l3)] [] mem QX
  unfold f_X2_ripeWrongs_B4 at h
  try dsimp only at h
  refine x_iload_n (pc := 4) dX2_ripeWrongs_4 rfl ?_
  refine x_aload_n (pc := 5) dX2_ripeWrongs_5 rfl ?_
  refine x_getI (pc := 6) dX2_ripeWrongs_6 fX2_40 rfl hp0 ?_
  refine x_icmp_ge (pc := 9) dX2_ripeWrongs_9 (tgt := 33) (by decide) (fun c8 => ?_) (fun c8 => ?_)
  · replace h := wo_pos c8 h
    refine x_sub [(2, _)] ⟨rfl, trivial⟩ ?_
    exact k4_0 _ (he4 l2 (wo_some h))
  · replace h := wo_neg c8 h
    refine x_aload_n (pc := 12) dX2_ripeWrongs_12 rfl ?_
    refine x_aload_n (pc := 13) dX2_ripeWrongs_13 rfl ?_
    refine x_iload_n (pc := 14) dX2_ripeWrongs_14 rfl ?_
    refine z_Vi2 (pc := 15) h dX2_ripeWrongs_15 lX2_148 hp1 (by omega) rfl (fun a e => w_X5_isRipe _ _ _ hp1 hp0 _ a e) (fun v4 h => ?_)
    have j27 : ∀ (u5 : Int32), wo (f_X2_ripeWrongs_J27 l3 u5) Q4 → mi_X mX2_ripeWrongs (4) 27 [(0, vr 8 p0), (1, vr 5 p1), (2, vi u5), (3, vi l3)] [] mem QX := by
      intro u5 h
      unfold f_X2_ripeWrongs_J27 at h
      refine x_iinc (ls' := [(3, _), (0, _), (1, _), (2, _)]) (pc := 27) dX2_ripeWrongs_27 rfl (v := l3 + (1 : Int32)) rfl rfl rfl ?_
      refine x_goto (pc := 30) dX2_ripeWrongs_30 (tgt := 4) (by decide) ?_
      refine x_sub [(0, _), (1, _), (2, _), (3, _)] ⟨rfl, rfl, rfl, rfl, trivial⟩ ?_
      exact hb4 (u5, (l3 + (1 : Int32))) (wo_some h)
    refine x_if_eq (pc := 18) dX2_ripeWrongs_18 (tgt := 27) (by decide) (fun c7 => ?_) (fun c7 => ?_)
    · replace h := wo_pos c7 h
      refine x_sub [(0, _), (1, _), (2, _), (3, _)] ⟨rfl, rfl, rfl, rfl, trivial⟩ ?_
      exact j27 _ h
    · replace h := wo_neg c7 h
      refine x_iload_n (pc := 21) dX2_ripeWrongs_21 rfl ?_
      refine x_iconst (pc := 22) dX2_ripeWrongs_22 (v := (1 : Int32)) (by decide) ?_
      refine x_iload_n (pc := 23) dX2_ripeWrongs_23 rfl ?_
      refine x_ishl (pc := 24) dX2_ripeWrongs_24 ?_
      refine x_ior (pc := 25) dX2_ripeWrongs_25 ?_
      refine x_leti h (fun v6 h => ?_)
      refine x_istore_n (ls' := [(2, _), (0, _), (1, _), (3, _)]) (pc := 26) dX2_ripeWrongs_26 rfl rfl rfl ?_
      refine x_sub [(0, _), (1, _), (2, _), (3, _)] ⟨rfl, rfl, rfl, rfl, trivial⟩ ?_
      exact j27 _ h
noncomputable def f_X2_weighPardons_B2 (p0 : Nat) (p1 : Nat) : (Int32 × mi_M) → Option ((Int32 × mi_M) ⊕ (mi_M)) := fun s => match s with | (l2, m3) => if (m3.1 8 p0 1) ≤ l2 then some (.inr m3) else mi_g (vp_in l2 8) (mi_bo (f_X8_barOf p0 l2 m3) fun v5 => mi_let (if (0 : Int32) < ((m3.1 34 p1 l2.toNatClampNeg) - v5) then ((m3.1 34 p1 l2.toNatClampNeg) - v5) else (0 : Int32)) fun v6 => mi_g (vp_in l2 8) (mi_let (mi_wI m3 20 0 l2.toNatClampNeg v6) fun m8 => mi_g (vp_in l2 8) (mi_g (vp_in l2 8) (mi_b (f_X8_burnsLonger p0 l2 ((m8.1 34 p1 l2.toNatClampNeg) - (m8.1 20 0 l2.toNatClampNeg)) (m8.1 5 p1 0) m8) fun v11 m12 => mi_g (vp_in l2 8) (mi_let (mi_wI m12 21 0 l2.toNatClampNeg v11) fun m14 => some (.inl ((l2 + (1 : Int32)), m14)))))))
noncomputable def f_X2_weighPardons_K2 : mi_M → Option (mi_M) := fun m1 => some m1
noncomputable def f_X2_weighPardons (p0 : Nat) (p1 : Nat) (mem : mi_M) : Option (mi_M) := mi_bo (mi_lp (f_X2_weighPardons_B2 p0 p1) mi_fu ((0 : Int32), mem)) (f_X2_weighPardons_K2)
set_option maxRecDepth 100000 in
set_option maxHeartbeats 4000000 in
theorem w_X2_weighPardons (p0 : Nat) (p1 : Nat) (hp0 : p0 < mi_n 8) (hp1 : p1 < mi_n 5) (mem : mi_M) (a : mi_M) (e : f_X2_weighPardons p0 p1 mem = some a) : mi_Cv (5) mX2_weighPardons [vr 2 0, vr 8 p0, vr 5 p1] mem (fun m' => m' = a) := by
  unfold mi_Cv
  refine mi_C_intro (ls := [(0, vr 2 0), (1, vr 8 p0), (2, vr 5 p1)]) (by decide) rfl rfl ?_
  obtain ⟨Q0, hq0, h⟩ : ∃ Q0 : mi_M → Prop, (∀ b, Q0 b → b = a) ∧ wo (f_X2_weighPardons p0 p1 mem) Q0 := ⟨fun b => b = a, fun _ h => h, wo_eq e⟩
  obtain ⟨QX, hQX⟩ : ∃ QX : Option mi_V → mi_M → Prop, QX = (fun r m' => r = none ∧ m' = a) := ⟨_, rfl⟩
  rw [← hQX]
  unfold f_X2_weighPardons at h
  refine x_iconst (pc := 0) dX2_weighPardons_0 (v := (0 : Int32)) (by decide) ?_
  refine x_istore_n (ls' := [(3, _), (0, _), (1, _), (2, _)]) (pc := 1) dX2_weighPardons_1 rfl rfl rfl ?_
  have k2_0 : ∀ (m1 : mi_M), wo (f_X2_weighPardons_K2 m1) Q0 → mi_X mX2_weighPardons (5) 66 [] [] m1 QX := by
    intro m1 h
    unfold f_X2_weighPardons_K2 at h
    try dsimp only at h
    exact x_ret (pc := 66) dX2_weighPardons_66 rfl (by rw [hQX]; exact ⟨rfl, hq0 _ (wo_some h)⟩)
  refine x_sub [(0, _), (1, _), (2, _), (3, _)] ⟨rfl, rfl, rfl, rfl, trivial⟩ ?_
  obtain ⟨ea, eb, h⟩ := wo_bo h
  refine wo_lq (X := fun s => match s with | (l2, m3) => mi_X mX2_weighPardons (5) 2 [(0, vr 2 0), (1, vr 8 p0), (2, vr 5 p1), (3, vi l2)] [] m3 QX) (E := fun e => wo (f_X2_weighPardons_K2 e) Q0) ?_ _ ((0 : Int32), mem) ⟨_, eb, h⟩
  intro Q2 hb2 he2 s h
  obtain ⟨l2, m3⟩ := s
  show mi_X mX2_weighPardons (5) 2 [(0, vr 2 0), (1, vr 8 p0), (2, vr 5 p1), (3, vi l2)] [] m3 QX
  unfold f_X2_weighPardons_B2 at h
  try dsimp only at h
  refine x_iload_n (pc := 2) dX2_weighPardons_2 rfl ?_
  refine x_aload_n (pc := 3) dX2_weighPardons_3 rfl ?_
  refine x_getI (pc := 4) dX2_weighPardons_4 fX2_40 rfl hp0 ?_
  refine x_icmp_ge (pc := 7) dX2_weighPardons_7 (tgt := 66) (by decide) (fun c15 => ?_) (fun c15 => ?_)
  · replace h := wo_pos c15 h
    refine x_sub [] trivial ?_
    exact k2_0 _ (he2 m3 (wo_some h))
  · replace h := wo_neg c15 h
    refine x_aload_n (pc := 10) dX2_weighPardons_10 rfl ?_
    refine x_getS (pc := 11) dX2_weighPardons_11 fX2_9 rfl (by decide) ?_
    refine x_iload_n (pc := 14) dX2_weighPardons_14 rfl ?_
    refine x_iconst (pc := 15) dX2_weighPardons_15 (v := (0 : Int32)) (by decide) ?_
    refine x_aload_n (pc := 16) dX2_weighPardons_16 rfl ?_
    refine x_getS (pc := 17) dX2_weighPardons_17 fX2_73 rfl hp1 ?_
    refine x_iload_n (pc := 20) dX2_weighPardons_20 rfl ?_
    obtain ⟨hx4, h⟩ := wo_g h
    refine x_ialdJ (pc := 21) dX2_weighPardons_21 rfl rfl hp1 hx4 ?_
    refine x_aload_n (pc := 22) dX2_weighPardons_22 rfl ?_
    refine x_iload_n (pc := 23) dX2_weighPardons_23 rfl ?_
    refine z_Vi1 (pc := 24) h dX2_weighPardons_24 lX2_76 hp0 (by omega) rfl (fun a e => w_X8_barOf _ _ hp0 _ a e) (fun v5 h => ?_)
    refine x_isub (pc := 27) dX2_weighPardons_27 ?_
    refine x_mmax (pc := 28) dX2_weighPardons_28 lX2_80 (by omega) rfl ?_
    refine x_leti h (fun v6 h => ?_)
    obtain ⟨hx7, h⟩ := wo_g h
    refine x_iastJ (pc := 31) dX2_weighPardons_31 rfl rfl (by decide) rfl hx7 ?_
    refine x_letm h (fun m8 h => ?_)
    refine x_aload_n (pc := 32) dX2_weighPardons_32 rfl ?_
    refine x_getS (pc := 33) dX2_weighPardons_33 fX2_15 rfl (by decide) ?_
    refine x_iload_n (pc := 36) dX2_weighPardons_36 rfl ?_
    refine x_aload_n (pc := 37) dX2_weighPardons_37 rfl ?_
    refine x_iload_n (pc := 38) dX2_weighPardons_38 rfl ?_
    refine x_aload_n (pc := 39) dX2_weighPardons_39 rfl ?_
    refine x_getS (pc := 40) dX2_weighPardons_40 fX2_73 rfl hp1 ?_
    refine x_iload_n (pc := 43) dX2_weighPardons_43 rfl ?_
    obtain ⟨hx9, h⟩ := wo_g h
    refine x_ialdJ (pc := 44) dX2_weighPardons_44 rfl rfl hp1 hx9 ?_
    refine x_aload_n (pc := 45) dX2_weighPardons_45 rfl ?_
    refine x_getS (pc := 46) dX2_weighPardons_46 fX2_9 rfl (by decide) ?_
    refine x_iload_n (pc := 49) dX2_weighPardons_49 rfl ?_
    obtain ⟨hx10, h⟩ := wo_g h
    refine x_ialdJ (pc := 50) dX2_weighPardons_50 rfl rfl (by decide) hx10 ?_
    refine x_isub (pc := 51) dX2_weighPardons_51 ?_
    refine x_aload_n (pc := 52) dX2_weighPardons_52 rfl ?_
    refine x_getI (pc := 53) dX2_weighPardons_53 fX2_86 rfl hp1 ?_
    refine y_Vi3 (pc := 56) h dX2_weighPardons_56 lX2_89 hp0 (by omega) rfl (fun a e => w_X8_burnsLonger _ _ _ _ hp0 _ a e) (fun v11 m12 h => ?_)
    obtain ⟨hx13, h⟩ := wo_g h
    refine x_iastJ (pc := 59) dX2_weighPardons_59 rfl rfl (by decide) rfl hx13 ?_
    refine x_letm h (fun m14 h => ?_)
    refine x_iinc (ls' := [(3, _), (0, _), (1, _), (2, _)]) (pc := 60) dX2_weighPardons_60 rfl (v := l2 + (1 : Int32)) rfl rfl rfl ?_
    refine x_goto (pc := 63) dX2_weighPardons_63 (tgt := 2) (by decide) ?_
    refine x_sub [(0, _), (1, _), (2, _), (3, _)] ⟨rfl, rfl, rfl, rfl, trivial⟩ ?_
    exact hb2 ((l2 + (1 : Int32)), m14) (wo_some h)
