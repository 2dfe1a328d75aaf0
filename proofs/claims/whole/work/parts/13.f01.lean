noncomputable def f_X4_agreeWith_J32 (i0 : Nat) (mem : mi_M) (l3 : Int32) (u7 : Int32) : Option ((Int32) ⊕ (Unit ⊕ Unit)) := mi_g (vp_in l3 8) (if u7 = (mem.1 33 i0 l3.toNatClampNeg) then some (.inl (l3 + (1 : Int32))) else some (.inr (.inl ())))
noncomputable def f_X4_agreeWith_B2 (i0 : Nat) (mem : mi_M) : Int32 → Option ((Int32) ⊕ (Unit ⊕ Unit)) := fun l3 => if (mem.1 4 i0 0) ≤ l3 then some (.inr (.inr ())) else mi_g (vp_in l3 8) (mi_g (vp_in (mem.1 31 i0 l3.toNatClampNeg) 6) (mi_g (vp_in l3 8) (if (mem.1 23 0 (mem.1 31 i0 l3.toNatClampNeg).toNatClampNeg) ≤ (mem.1 32 i0 l3.toNatClampNeg) then f_X4_agreeWith_J32 i0 mem l3 (0 : Int32) else f_X4_agreeWith_J32 i0 mem l3 (1 : Int32))))
noncomputable def f_X4_agreeWith_K2 : (Unit ⊕ Unit) → Option (Int32) := fun e => match e with | (.inl ()) => mi_g ((0 : Int32) = 0 ∨ (0 : Int32) = 1) (some (0 : Int32)) | (.inr ()) => mi_g ((1 : Int32) = 0 ∨ (1 : Int32) = 1) (some (1 : Int32))
noncomputable def f_X4_agreeWith (i0 : Nat) (mem : mi_M) : Option (Int32) := mi_bo (mi_lp (f_X4_agreeWith_B2 i0 mem) mi_fu (0 : Int32)) (f_X4_agreeWith_K2)
set_option maxRecDepth 100000 in
set_option maxHeartbeats 4000000 in
theorem w_X4_agreeWith (i0 : Nat) (hi0 : i0 < mi_n 4) (mem : mi_M) (a : Int32) (e : f_X4_agreeWith i0 mem = some a) : mi_Ci (1) mX4_agreeWith [vr 4 i0, vr 23 0] mem (fun x m' => x = a ∧ m' = mem) := by
  unfold mi_Ci
  refine mi_C_intro (ls := [(0, vr 4 i0), (1, vr 23 0)]) (by decide) rfl rfl ?_
  obtain ⟨Q0, hq0, h⟩ : ∃ Q0 : Int32 → Prop, (∀ b, Q0 b → b = a) ∧ wo (f_X4_agreeWith i0 mem) Q0 := ⟨fun b => b = a, fun _ h => h, wo_eq e⟩
  obtain ⟨QX, hQX⟩ : ∃ QX : Option mi_V → mi_M → Prop, QX = (fun r m' => ∃ x, r = some (vi x) ∧ x = a ∧ m' = mem) := ⟨_, rfl⟩
  rw [← hQX]
  unfold f_X4_agreeWith at h
  refine x_iconst (pc := 0) dX4_agreeWith_0 (v := (0 : Int32)) (by decide) ?_
  refine x_istore_n (ls' := [(2, _), (0, _), (1, _)]) (pc := 1) dX4_agreeWith_1 rfl rfl rfl ?_
  have k2_0 : ∀ (_ : Unit), wo (f_X4_agreeWith_K2 (.inl ())) Q0 → mi_X mX4_agreeWith (1) 41 [] [] mem QX := by
    intro _ h
    unfold f_X4_agreeWith_K2 at h
    try dsimp only at h
    refine x_iconst (pc := 41) dX4_agreeWith_41 (v := (0 : Int32)) (by decide) ?_
    obtain ⟨hb1, h⟩ := wo_g h
    exact x_zretB (pc := 42) dX4_agreeWith_42 rfl hb1 (by rw [hQX]; exact ⟨_, rfl, hq0 _ (wo_some h), rfl⟩)
  have k2_1 : ∀ (_ : Unit), wo (f_X4_agreeWith_K2 (.inr ())) Q0 → mi_X mX4_agreeWith (1) 49 [] [] mem QX := by
    intro _ h
    unfold f_X4_agreeWith_K2 at h
    try dsimp only at h
    refine x_iconst (pc := 49) dX4_agreeWith_49 (v := (1 : Int32)) (by decide) ?_
    obtain ⟨hb2, h⟩ := wo_g h
    exact x_zretB (pc := 50) dX4_agreeWith_50 rfl hb2 (by rw [hQX]; exact ⟨_, rfl, hq0 _ (wo_some h), rfl⟩)
  refine x_sub [(0, _), (1, _), (2, _)] ⟨rfl, rfl, rfl, trivial⟩ ?_
  obtain ⟨ea, eb, h⟩ := wo_bo h
  refine wo_lq (X := fun l3 => mi_X mX4_agreeWith (1) 2 [(0, vr 4 i0), (1, vr 23 0), (2, vi l3)] [] mem QX) (E := fun e => wo (f_X4_agreeWith_K2 e) Q0) ?_ _ (0 : Int32) ⟨_, eb, h⟩
  intro Q2 hb2 he2 s h
  obtain ⟨l3, rfl⟩ : ∃ z, z = s := ⟨_, rfl⟩
  show mi_X mX4_agreeWith (1) 2 [(0, vr 4 i0), (1, vr 23 0), (2, vi l3)] [] mem QX
  unfold f_X4_agreeWith_B2 at h
  try dsimp only at h
  refine x_iload_n (pc := 2) dX4_agreeWith_2 rfl ?_
  refine x_aload_n (pc := 3) dX4_agreeWith_3 rfl ?_
  refine x_getI (pc := 4) dX4_agreeWith_4 fX4_22 rfl hi0 ?_
  refine x_icmp_ge (pc := 7) dX4_agreeWith_7 (tgt := 49) (by decide) (fun c11 => ?_) (fun c11 => ?_)
  · replace h := wo_pos c11 h
    refine x_sub [] trivial ?_
    exact k2_1 () (he2 (.inr ()) (wo_some h))
  · replace h := wo_neg c11 h
    refine x_aload_n (pc := 10) dX4_agreeWith_10 rfl ?_
    refine x_aload_n (pc := 11) dX4_agreeWith_11 rfl ?_
    refine x_getS (pc := 12) dX4_agreeWith_12 fX4_9 rfl hi0 ?_
    refine x_iload_n (pc := 15) dX4_agreeWith_15 rfl ?_
    obtain ⟨hx4, h⟩ := wo_g h
    refine x_ialdJ (pc := 16) dX4_agreeWith_16 rfl rfl hi0 hx4 ?_
    obtain ⟨hx5, h⟩ := wo_g h
    refine x_ialdJ (pc := 17) dX4_agreeWith_17 rfl rfl (by decide) hx5 ?_
    refine x_aload_n (pc := 18) dX4_agreeWith_18 rfl ?_
    refine x_getS (pc := 19) dX4_agreeWith_19 fX4_15 rfl hi0 ?_
    refine x_iload_n (pc := 22) dX4_agreeWith_22 rfl ?_
    obtain ⟨hx6, h⟩ := wo_g h
    refine x_ialdJ (pc := 23) dX4_agreeWith_23 rfl rfl hi0 hx6 ?_
    have j32 : ∀ (u7 : Int32), wo (f_X4_agreeWith_J32 i0 mem l3 u7) Q2 → mi_X mX4_agreeWith (1) 32 [(0, vr 4 i0), (1, vr 23 0), (2, vi l3)] [vi u7] mem QX := by
      intro u7 h
      unfold f_X4_agreeWith_J32 at h
      refine x_aload_n (pc := 32) dX4_agreeWith_32 rfl ?_
      refine x_getS (pc := 33) dX4_agreeWith_33 fX4_18 rfl hi0 ?_
      refine x_iload_n (pc := 36) dX4_agreeWith_36 rfl ?_
      obtain ⟨hx8, h⟩ := wo_g h
      refine x_zaldJ (pc := 37) dX4_agreeWith_37 rfl rfl hi0 hx8 ?_
      refine x_icmp_eq (pc := 38) dX4_agreeWith_38 (tgt := 43) (by decide) (fun c9 => ?_) (fun c9 => ?_)
      · replace h := wo_pos c9 h
        refine x_iinc (ls' := [(2, _), (0, _), (1, _)]) (pc := 43) dX4_agreeWith_43 rfl (v := l3 + (1 : Int32)) rfl rfl rfl ?_
        refine x_goto (pc := 46) dX4_agreeWith_46 (tgt := 2) (by decide) ?_
        refine x_sub [(0, _), (1, _), (2, _)] ⟨rfl, rfl, rfl, trivial⟩ ?_
        exact hb2 (l3 + (1 : Int32)) (wo_some h)
      · replace h := wo_neg c9 h
        refine x_sub [] trivial ?_
        exact k2_0 () (he2 (.inl ()) (wo_some h))
    refine x_icmp_le (pc := 24) dX4_agreeWith_24 (tgt := 31) (by decide) (fun c10 => ?_) (fun c10 => ?_)
    · replace h := wo_pos c10 h
      refine x_iconst (pc := 31) dX4_agreeWith_31 (v := (0 : Int32)) (by decide) ?_
      refine x_sub [(0, _), (1, _), (2, _)] ⟨rfl, rfl, rfl, trivial⟩ ?_
      exact j32 _ h
    · replace h := wo_neg c10 h
      refine x_iconst (pc := 27) dX4_agreeWith_27 (v := (1 : Int32)) (by decide) ?_
      refine x_goto (pc := 28) dX4_agreeWith_28 (tgt := 32) (by decide) ?_
      refine x_sub [(0, _), (1, _), (2, _)] ⟨rfl, rfl, rfl, trivial⟩ ?_
      exact j32 _ h
noncomputable def f_X2_sortSets_J141 (l11 : Int32) (m14 : mi_M) : Option ((Int32 × mi_M) ⊕ (mi_M)) := some (.inl ((l11 + (1 : Int32)), m14))
noncomputable def f_X2_sortSets_B65 (p0 : Nat) (p1 : Nat) (p2 : Nat) (v2 : Int32) : (Int32 × mi_M) → Option ((Int32 × mi_M) ⊕ (mi_M)) := fun s => match s with | (l11, m12) => if ((1 : Int32) <<< ((m12.1 8 p0 1) &&& 31)) ≤ l11 then some (.inr m12) else mi_bo (f_X11_isPartOf l11 v2 m12) fun v13 => if v13 = 0 then f_X2_sortSets_J141 l11 m12 else mi_bo (f_X2_lightBy p0 p1 l11 m12) fun m15 => mi_bo (f_X4_agreeWith p2 m15) fun v16 => if v16 = 0 then f_X2_sortSets_J141 l11 m15 else mi_g (vp_in (0 : Int32) 3) (mi_g (vp_in (0 : Int32) 3) (mi_let (mi_wI m15 27 0 (0 : Int32).toNatClampNeg ((m15.1 27 0 (0 : Int32).toNatClampNeg) + (1 : Int32))) fun m19 => mi_g (vp_in (1 : Int32) 3) (mi_g (vp_in (1 : Int32) 3) (mi_let (mi_wI m19 27 0 (1 : Int32).toNatClampNeg ((m19.1 27 0 (1 : Int32).toNatClampNeg) &&& l11)) fun m22 => mi_g (vp_in (2 : Int32) 3) (mi_g (vp_in (2 : Int32) 3) (mi_let (mi_wI m22 27 0 (2 : Int32).toNatClampNeg ((m22.1 27 0 (2 : Int32).toNatClampNeg) ||| l11)) fun m25 => mi_bo (f_X2_countBurning m25) fun m26 => f_X2_sortSets_J141 l11 m26))))))
noncomputable def f_X2_sortSets_K65 : mi_M → Option (mi_M) := fun m10 => some m10
noncomputable def f_X2_sortSets_B16 : (Int32 × mi_M) → Option ((Int32 × mi_M) ⊕ (mi_M)) := fun s => match s with | (l30, m31) => if (60 : Int32) ≤ l30 then some (.inr m31) else mi_g (vp_in l30 60) (mi_let (mi_wI m31 26 0 l30.toNatClampNeg (0 : Int32)) fun m33 => some (.inl ((l30 + (1 : Int32)), m33)))
noncomputable def f_X2_sortSets_K16 (p0 : Nat) (p1 : Nat) (p2 : Nat) (v2 : Int32) : mi_M → Option (mi_M) := fun m3 => mi_g (vp_in (0 : Int32) 3) (mi_let (mi_wI m3 27 0 (0 : Int32).toNatClampNeg (0 : Int32)) fun m5 => mi_g (vp_in (1 : Int32) 3) (mi_let (mi_wI m5 27 0 (1 : Int32).toNatClampNeg v2) fun m7 => mi_g (vp_in (2 : Int32) 3) (mi_let (mi_wI m7 27 0 (2 : Int32).toNatClampNeg (0 : Int32)) fun m9 => mi_bo (mi_lp (f_X2_sortSets_B65 p0 p1 p2 v2) mi_fu ((0 : Int32), m9)) (f_X2_sortSets_K65))))
noncomputable def f_X2_sortSets (p0 : Nat) (p1 : Nat) (p2 : Nat) (mem : mi_M) : Option (mi_M) := mi_bo (f_X2_weighPardons p0 p1 mem) fun m1 => mi_bo (f_X2_ripeWrongs p0 p1 m1) fun v2 => mi_bo (mi_lp (f_X2_sortSets_B16) mi_fu ((0 : Int32), m1)) (f_X2_sortSets_K16 p0 p1 p2 v2)
set_option maxRecDepth 100000 in
set_option maxHeartbeats 4000000 in
theorem w_X2_sortSets (p0 : Nat) (p1 : Nat) (p2 : Nat) (hp0 : p0 < mi_n 8) (hp1 : p1 < mi_n 5) (hp2 : p2 < mi_n 4) (mem : mi_M) (a : mi_M) (e : f_X2_sortSets p0 p1 p2 mem = some a) : mi_Cv (6) mX2_sortSets [vr 2 0, vr 8 p0, vr 5 p1, vr 4 p2] mem (fun m' => m' = a) := by
  unfold mi_Cv
  refine mi_C_intro (ls := [(0, vr 2 0), (1, vr 8 p0), (2, vr 5 p1), (3, vr 4 p2)]) (by decide) rfl rfl ?_
  obtain ⟨Q0, hq0, h⟩ : ∃ Q0 : mi_M → Prop, (∀ b, Q0 b → b = a) ∧ wo (f_X2_sortSets p0 p1 p2 mem) Q0 := ⟨fun b => b = a, fun _ h => h, wo_eq e⟩
  obtain ⟨QX, hQX⟩ : ∃ QX : Option mi_V → mi_M → Prop, QX = (fun r m' => r = none ∧ m' = a) := ⟨_, rfl⟩
  rw [← hQX]
  unfold f_X2_sortSets at h
  refine x_aload_n (pc := 0) dX2_sortSets_0 rfl ?_
  refine x_aload_n (pc := 1) dX2_sortSets_1 rfl ?_
  refine x_aload_n (pc := 2) dX2_sortSets_2 rfl ?_
  refine y_Vv2 (pc := 3) h dX2_sortSets_3 lX2_36 (by decide) (by omega) rfl (fun a e => w_X2_weighPardons _ _ hp0 hp1 _ a e) (fun m1 h => ?_)
  refine x_aload_n (pc := 6) dX2_sortSets_6 rfl ?_
  refine x_aload_n (pc := 7) dX2_sortSets_7 rfl ?_
  refine z_Si2 (pc := 8) h dX2_sortSets_8 lX2_168 (by omega) rfl (fun a e => w_X2_ripeWrongs _ _ hp0 hp1 _ a e) (fun v2 h => ?_)
  refine x_istore (ls' := [(4, _), (0, _), (1, _), (2, _), (3, _)]) (pc := 11) dX2_sortSets_11 rfl rfl ?_
  refine x_iconst (pc := 13) dX2_sortSets_13 (v := (0 : Int32)) (by decide) ?_
  refine x_istore (ls' := [(5, _), (4, _), (0, _), (1, _), (2, _), (3, _)]) (pc := 14) dX2_sortSets_14 rfl rfl ?_
  have k16_0 : ∀ (m3 : mi_M), wo (f_X2_sortSets_K16 p0 p1 p2 v2 m3) Q0 → mi_X mX2_sortSets (6) 40 [(0, vr 2 0), (1, vr 8 p0), (2, vr 5 p1), (3, vr 4 p2), (4, vi v2)] [] m3 QX := by
    intro m3 h
    unfold f_X2_sortSets_K16 at h
    try dsimp only at h
    refine x_aload_n (pc := 40) dX2_sortSets_40 rfl ?_
    refine x_getS (pc := 41) dX2_sortSets_41 fX2_33 rfl (by decide) ?_
    refine x_iconst (pc := 44) dX2_sortSets_44 (v := (0 : Int32)) (by decide) ?_
    refine x_iconst (pc := 45) dX2_sortSets_45 (v := (0 : Int32)) (by decide) ?_
    obtain ⟨hx4, h⟩ := wo_g h
    refine x_iastJ (pc := 46) dX2_sortSets_46 rfl rfl (by decide) rfl hx4 ?_
    refine x_letm h (fun m5 h => ?_)
    refine x_aload_n (pc := 47) dX2_sortSets_47 rfl ?_
    refine x_getS (pc := 48) dX2_sortSets_48 fX2_33 rfl (by decide) ?_
    refine x_iconst (pc := 51) dX2_sortSets_51 (v := (1 : Int32)) (by decide) ?_
    refine x_iload (pc := 52) dX2_sortSets_52 rfl ?_
    obtain ⟨hx6, h⟩ := wo_g h
    refine x_iastJ (pc := 54) dX2_sortSets_54 rfl rfl (by decide) rfl hx6 ?_
    refine x_letm h (fun m7 h => ?_)
    refine x_aload_n (pc := 55) dX2_sortSets_55 rfl ?_
    refine x_getS (pc := 56) dX2_sortSets_56 fX2_33 rfl (by decide) ?_
    refine x_iconst (pc := 59) dX2_sortSets_59 (v := (2 : Int32)) (by decide) ?_
    refine x_iconst (pc := 60) dX2_sortSets_60 (v := (0 : Int32)) (by decide) ?_
    obtain ⟨hx8, h⟩ := wo_g h
    refine x_iastJ (pc := 61) dX2_sortSets_61 rfl rfl (by decide) rfl hx8 ?_
    refine x_letm h (fun m9 h => ?_)
    refine x_iconst (pc := 62) dX2_sortSets_62 (v := (0 : Int32)) (by decide) ?_
    refine x_istore (ls' := [(5, _), (0, _), (1, _), (2, _), (3, _), (4, _)]) (pc := 63) dX2_sortSets_63 rfl rfl ?_
    have k65_0 : ∀ (m10 : mi_M), wo (f_X2_sortSets_K65 m10) Q0 → mi_X mX2_sortSets (6) 147 [] [] m10 QX := by
      intro m10 h
      unfold f_X2_sortSets_K65 at h
      try dsimp only at h
      exact x_ret (pc := 147) dX2_sortSets_147 rfl (by rw [hQX]; exact ⟨rfl, hq0 _ (wo_some h)⟩)
    refine x_sub [(0, _), (1, _), (2, _), (3, _), (4, _), (5, _)] ⟨rfl, rfl, rfl, rfl, rfl, rfl, trivial⟩ ?_
    obtain ⟨ea, eb, h⟩ := wo_bo h
    refine wo_lq (X := fun s => match s with | (l11, m12) => mi_X mX2_sortSets (6) 65 [(0, vr 2 0), (1, vr 8 p0), (2, vr 5 p1), (3, vr 4 p2), (4, vi v2), (5, vi l11)] [] m12 QX) (E := fun e => wo (f_X2_sortSets_K65 e) Q0) ?_ _ ((0 : Int32), m9) ⟨_, eb, h⟩
    intro Q65 hb65 he65 s h
    obtain ⟨l11, m12⟩ := s
    show mi_X mX2_sortSets (6) 65 [(0, vr 2 0), (1, vr 8 p0), (2, vr 5 p1), (3, vr 4 p2), (4, vi v2), (5, vi l11)] [] m12 QX
    unfold f_X2_sortSets_B65 at h
    try dsimp only at h
    refine x_iload (pc := 65) dX2_sortSets_65 rfl ?_
    refine x_iconst (pc := 67) dX2_sortSets_67 (v := (1 : Int32)) (by decide) ?_
    refine x_aload_n (pc := 68) dX2_sortSets_68 rfl ?_
    refine x_getI (pc := 69) dX2_sortSets_69 fX2_40 rfl hp0 ?_
    refine x_ishl (pc := 72) dX2_sortSets_72 ?_
    refine x_icmp_ge (pc := 73) dX2_sortSets_73 (tgt := 147) (by decide) (fun c29 => ?_) (fun c29 => ?_)
    · replace h := wo_pos c29 h
      refine x_sub [] trivial ?_
      exact k65_0 _ (he65 m12 (wo_some h))
    · replace h := wo_neg c29 h
      refine x_iload (pc := 76) dX2_sortSets_76 rfl ?_
      refine x_iload (pc := 78) dX2_sortSets_78 rfl ?_
      refine z_Ni2 (pc := 80) h dX2_sortSets_80 nX2_112 (by omega) rfl (fun a e => w_X11_isPartOf _ _ _ a e) (fun v13 h => ?_)
      have j141 : ∀ (m14 : mi_M), wo (f_X2_sortSets_J141 l11 m14) Q65 → mi_X mX2_sortSets (6) 141 [(0, vr 2 0), (1, vr 8 p0), (2, vr 5 p1), (3, vr 4 p2), (4, vi v2), (5, vi l11)] [] m14 QX := by
        intro m14 h
        unfold f_X2_sortSets_J141 at h
        refine x_iinc (ls' := [(5, _), (0, _), (1, _), (2, _), (3, _), (4, _)]) (pc := 141) dX2_sortSets_141 rfl (v := l11 + (1 : Int32)) rfl rfl rfl ?_
        refine x_goto (pc := 144) dX2_sortSets_144 (tgt := 65) (by decide) ?_
        refine x_sub [(0, _), (1, _), (2, _), (3, _), (4, _), (5, _)] ⟨rfl, rfl, rfl, rfl, rfl, rfl, trivial⟩ ?_
        exact hb65 ((l11 + (1 : Int32)), m14) (wo_some h)
      refine x_if_eq (pc := 83) dX2_sortSets_83 (tgt := 141) (by decide) (fun c28 => ?_) (fun c28 => ?_)
      · replace h := wo_pos c28 h
        refine x_sub [(0, _), (1, _), (2, _), (3, _), (4, _), (5, _)] ⟨rfl, rfl, rfl, rfl, rfl, rfl, trivial⟩ ?_
        exact j141 _ h
      · replace h := wo_neg c28 h
        refine x_aload_n (pc := 86) dX2_sortSets_86 rfl ?_
        refine x_aload_n (pc := 87) dX2_sortSets_87 rfl ?_
        refine x_aload_n (pc := 88) dX2_sortSets_88 rfl ?_
        refine x_iload (pc := 89) dX2_sortSets_89 rfl ?_
        refine y_Vv3 (pc := 91) h dX2_sortSets_91 lX2_172 (by decide) (by omega) rfl (fun a e => w_X2_lightBy _ _ _ hp0 hp1 _ a e) (fun m15 h => ?_)
        refine x_aload_n (pc := 94) dX2_sortSets_94 rfl ?_
        refine x_aload_n (pc := 95) dX2_sortSets_95 rfl ?_
        refine x_getS (pc := 96) dX2_sortSets_96 fX2_21 rfl (by decide) ?_
        refine z_Vi1 (pc := 99) h dX2_sortSets_99 lX2_176 hp2 (by omega) rfl (fun a e => w_X4_agreeWith _ hp2 _ a e) (fun v16 h => ?_)
        refine x_if_eq (pc := 102) dX2_sortSets_102 (tgt := 141) (by decide) (fun c27 => ?_) (fun c27 => ?_)
        · replace h := wo_pos c27 h
          refine x_sub [(0, _), (1, _), (2, _), (3, _), (4, _), (5, _)] ⟨rfl, rfl, rfl, rfl, rfl, rfl, trivial⟩ ?_
          exact j141 _ h
        · replace h := wo_neg c27 h
          refine x_aload_n (pc := 105) dX2_sortSets_105 rfl ?_
          refine x_getS (pc := 106) dX2_sortSets_106 fX2_33 rfl (by decide) ?_
          refine x_iconst (pc := 109) dX2_sortSets_109 (v := (0 : Int32)) (by decide) ?_
          refine x_dup2 (pc := 110) dX2_sortSets_110 rfl rfl ?_
          obtain ⟨hx17, h⟩ := wo_g h
          refine x_ialdJ (pc := 111) dX2_sortSets_111 rfl rfl (by decide) hx17 ?_
          refine x_iconst (pc := 112) dX2_sortSets_112 (v := (1 : Int32)) (by decide) ?_
          refine x_iadd (pc := 113) dX2_sortSets_113 ?_
          obtain ⟨hx18, h⟩ := wo_g h
          refine x_iastJ (pc := 114) dX2_sortSets_114 rfl rfl (by decide) rfl hx18 ?_
          refine x_letm h (fun m19 h => ?_)
          refine x_aload_n (pc := 115) dX2_sortSets_115 rfl ?_
          refine x_getS (pc := 116) dX2_sortSets_116 fX2_33 rfl (by decide) ?_
          refine x_iconst (pc := 119) dX2_sortSets_119 (v := (1 : Int32)) (by decide) ?_
          refine x_dup2 (pc := 120) dX2_sortSets_120 rfl rfl ?_
          obtain ⟨hx20, h⟩ := wo_g h
          refine x_ialdJ (pc := 121) dX2_sortSets_121 rfl rfl (by decide) hx20 ?_
          refine x_iload (pc := 122) dX2_sortSets_122 rfl ?_
          refine x_iand (pc := 124) dX2_sortSets_124 ?_
          obtain ⟨hx21, h⟩ := wo_g h
          refine x_iastJ (pc := 125) dX2_sortSets_125 rfl rfl (by decide) rfl hx21 ?_
          refine x_letm h (fun m22 h => ?_)
          refine x_aload_n (pc := 126) dX2_sortSets_126 rfl ?_
          refine x_getS (pc := 127) dX2_sortSets_127 fX2_33 rfl (by decide) ?_
          refine x_iconst (pc := 130) dX2_sortSets_130 (v := (2 : Int32)) (by decide) ?_
          refine x_dup2 (pc := 131) dX2_sortSets_131 rfl rfl ?_
          obtain ⟨hx23, h⟩ := wo_g h
          refine x_ialdJ (pc := 132) dX2_sortSets_132 rfl rfl (by decide) hx23 ?_
          refine x_iload (pc := 133) dX2_sortSets_133 rfl ?_
          refine x_ior (pc := 135) dX2_sortSets_135 ?_
          obtain ⟨hx24, h⟩ := wo_g h
          refine x_iastJ (pc := 136) dX2_sortSets_136 rfl rfl (by decide) rfl hx24 ?_
          refine x_letm h (fun m25 h => ?_)
          refine x_aload_n (pc := 137) dX2_sortSets_137 rfl ?_
          refine y_Vv0 (pc := 138) h dX2_sortSets_138 lX2_182 (by decide) (by omega) rfl (fun a e => w_X2_countBurning _ a e) (fun m26 h => ?_)
          refine x_sub [(0, _), (1, _), (2, _), (3, _), (4, _), (5, _)] ⟨rfl, rfl, rfl, rfl, rfl, rfl, trivial⟩ ?_
          exact j141 _ h
  refine x_sub [(0, _), (1, _), (2, _), (3, _), (4, _), (5, _)] ⟨rfl, rfl, rfl, rfl, rfl, rfl, trivial⟩ ?_
  obtain ⟨ea, eb, h⟩ := wo_bo h
  refine wo_lq (X := fun s => match s with | (l30, m31) => mi_X mX2_sortSets (6) 16 [(0, vr 2 0), (1, vr 8 p0), (2, vr 5 p1), (3, vr 4 p2), (4, vi v2), (5, vi l30)] [] m31 QX) (E := fun e => wo (f_X2_sortSets_K16 p0 p1 p2 v2 e) Q0) ?_ _ ((0 : Int32), m1) ⟨_, eb, h⟩
  intro Q16 hb16 he16 s h
  obtain ⟨l30, m31⟩ := s
  show mi_X mX2_sortSets (6) 16 [(0, vr 2 0), (1, vr 8 p0), (2, vr 5 p1), (3, vr 4 p2), (4, vi v2), (5, vi l30)] [] m31 QX
  unfold f_X2_sortSets_B16 at h
  try dsimp only at h
  refine x_iload (pc := 16) dX2_sortSets_16 rfl ?_
  refine x_aload_n (pc := 18) dX2_sortSets_18 rfl ?_
  refine x_getS (pc := 19) dX2_sortSets_19 fX2_30 rfl (by decide) ?_
  refine x_alen (pc := 22) dX2_sortSets_22 rfl (by decide) rfl (by decide) (v := (60 : Int32)) (by decide) ?_
  refine x_icmp_ge (pc := 23) dX2_sortSets_23 (tgt := 40) (by decide) (fun c34 => ?_) (fun c34 => ?_)
  · replace h := wo_pos c34 h
    refine x_sub [(0, _), (1, _), (2, _), (3, _), (4, _)] ⟨rfl, rfl, rfl, rfl, rfl, trivial⟩ ?_
    exact k16_0 _ (he16 m31 (wo_some h))
  · replace h := wo_neg c34 h
    refine x_aload_n (pc := 26) dX2_sortSets_26 rfl ?_
    refine x_getS (pc := 27) dX2_sortSets_27 fX2_30 rfl (by decide) ?_
    refine x_iload (pc := 30) dX2_sortSets_30 rfl ?_
    refine x_iconst (pc := 32) dX2_sortSets_32 (v := (0 : Int32)) (by decide) ?_
    obtain ⟨hx32, h⟩ := wo_g h
    refine x_iastJ (pc := 33) dX2_sortSets_33 rfl rfl (by decide) rfl hx32 ?_
    refine x_letm h (fun m33 h => ?_)
    refine x_iinc (ls' := [(5, _), (0, _), (1, _), (2, _), (3, _), (4, _)]) (pc := 34) dX2_sortSets_34 rfl (v := l30 + (1 : Int32)) rfl rfl rfl ?_
    refine x_goto (pc := 37) dX2_sortSets_37 (tgt := 16) (by decide) ?_
    refine x_sub [(0, _), (1, _), (2, _), (3, _), (4, _), (5, _)] ⟨rfl, rfl, rfl, rfl, rfl, rfl, trivial⟩ ?_
    exact hb16 ((l30 + (1 : Int32)), m33) (wo_some h)
noncomputable def f_X2_bestLook_J74 (l7 : Int32) (u12 : Int32) (u13 : Int32) : Option ((Int32 × Int32 × Int32) ⊕ (Int32)) := some (.inl (u12, u13, (l7 + (1 : Int32))))
noncomputable def f_X2_bestLook_B21 (p0 : Nat) (m1 : mi_M) : (Int32 × Int32 × Int32) → Option ((Int32 × Int32 × Int32) ⊕ (Int32)) := fun s => match s with | (l5, l6, l7) => if ((m1.1 8 p0 0) * (10 : Int32)) ≤ l7 then some (.inr l5) else mi_g (vp_in l7 60) (mi_g (vp_in (0 : Int32) 3) (mi_g (vp_in l7 60) (mi_let (if (m1.1 26 0 l7.toNatClampNeg) < ((m1.1 27 0 (0 : Int32).toNatClampNeg) - (m1.1 26 0 l7.toNatClampNeg)) then ((m1.1 27 0 (0 : Int32).toNatClampNeg) - (m1.1 26 0 l7.toNatClampNeg)) else (m1.1 26 0 l7.toNatClampNeg)) fun v11 => if l6 ≤ v11 then f_X2_bestLook_J74 l7 l5 l6 else f_X2_bestLook_J74 l7 l7 v11)))
noncomputable def f_X2_bestLook_K21 (m1 : mi_M) : Int32 → Option (Int32 × mi_M) := fun e4 => some (e4, m1)
noncomputable def f_X2_bestLook (p0 : Nat) (p1 : Nat) (p2 : Nat) (mem : mi_M) : Option (Int32 × mi_M) := mi_bo (f_X2_sortSets p0 p1 p2 mem) fun m1 => mi_g (vp_in (0 : Int32) 3) (mi_let (m1.1 27 0 (0 : Int32).toNatClampNeg) fun v3 => mi_bo (mi_lp (f_X2_bestLook_B21 p0 m1) mi_fu ((-1 : Int32), v3, (0 : Int32))) (f_X2_bestLook_K21 m1))
set_option maxRecDepth 100000 in
set_option maxHeartbeats 4000000 in
theorem w_X2_bestLook (p0 : Nat) (p1 : Nat) (p2 : Nat) (hp0 : p0 < mi_n 8) (hp1 : p1 < mi_n 5) (hp2 : p2 < mi_n 4) (mem : mi_M) (a : Int32 × mi_M) (e : f_X2_bestLook p0 p1 p2 mem = some a) : mi_Ci (7) mX2_bestLook [vr 2 0, vr 8 p0, vr 5 p1, vr 4 p2] mem (fun x m' => x = a.1 ∧ m' = a.2) := by
  unfold mi_Ci
  refine mi_C_intro (ls := [(0, vr 2 0), (1, vr 8 p0), (2, vr 5 p1), (3, vr 4 p2)]) (by decide) rfl rfl ?_
  obtain ⟨Q0, hq0, h⟩ : ∃ Q0 : (Int32 × mi_M) → Prop, (∀ b, Q0 b → b = a) ∧ wo (f_X2_bestLook p0 p1 p2 mem) Q0 := ⟨fun b => b = a, fun _ h => h, wo_eq e⟩
  obtain ⟨QX, hQX⟩ : ∃ QX : Option mi_V → mi_M → Prop, QX = (fun r m' => ∃ x, r = some (vi x) ∧ x = a.1 ∧ m' = a.2) := ⟨_, rfl⟩
  rw [← hQX]
  unfold f_X2_bestLook at h
  refine x_aload_n (pc := 0) dX2_bestLook_0 rfl ?_
  refine x_aload_n (pc := 1) dX2_bestLook_1 rfl ?_
  refine x_aload_n (pc := 2) dX2_bestLook_2 rfl ?_
  refine x_aload_n (pc := 3) dX2_bestLook_3 rfl ?_
  refine y_Vv3 (pc := 4) h dX2_bestLook_4 lX2_164 (by decide) (by omega) rfl (fun a e => w_X2_sortSets _ _ _ hp0 hp1 hp2 _ a e) (fun m1 h => ?_)
  refine x_iconst (pc := 7) dX2_bestLook_7 (v := (-1 : Int32)) (by decide) ?_
  refine x_istore (ls' := [(4, _), (0, _), (1, _), (2, _), (3, _)]) (pc := 8) dX2_bestLook_8 rfl rfl ?_
  refine x_aload_n (pc := 10) dX2_bestLook_10 rfl ?_
  refine x_getS (pc := 11) dX2_bestLook_11 fX2_33 rfl (by decide) ?_
  refine x_iconst (pc := 14) dX2_bestLook_14 (v := (0 : Int32)) (by decide) ?_
  obtain ⟨hx2, h⟩ := wo_g h
  refine x_ialdJ (pc := 15) dX2_bestLook_15 rfl rfl (by decide) hx2 ?_
  refine x_leti h (fun v3 h => ?_)
  refine x_istore (ls' := [(5, _), (4, _), (0, _), (1, _), (2, _), (3, _)]) (pc := 16) dX2_bestLook_16 rfl rfl ?_
  refine x_iconst (pc := 18) dX2_bestLook_18 (v := (0 : Int32)) (by decide) ?_
  refine x_istore (ls' := [(6, _), (5, _), (4, _), (0, _), (1, _), (2, _), (3, _)]) (pc := 19) dX2_bestLook_19 rfl rfl ?_
  have k21_0 : ∀ (e4 : Int32), wo (f_X2_bestLook_K21 m1 e4) Q0 → mi_X mX2_bestLook (7) 80 [(4, vi e4)] [] m1 QX := by
    intro e4 h
    unfold f_X2_bestLook_K21 at h
    try dsimp only at h
    refine x_iload (pc := 80) dX2_bestLook_80 rfl ?_
    exact x_iret (pc := 82) dX2_bestLook_82 rfl (by rw [hQX]; exact ⟨_, rfl, congrArg Prod.fst (hq0 _ (wo_some h)), congrArg Prod.snd (hq0 _ (wo_some h))⟩)
  refine x_sub [(0, _), (1, _), (4, _), (5, _), (6, _)] ⟨rfl, rfl, rfl, rfl, rfl, trivial⟩ ?_
  obtain ⟨ea, eb, h⟩ := wo_bo h
  refine wo_lq (X := fun s => match s with | (l5, l6, l7) => mi_X mX2_bestLook (7) 21 [(0, vr 2 0), (1, vr 8 p0), (4, vi l5), (5, vi l6), (6, vi l7)] [] m1 QX) (E := fun e => wo (f_X2_bestLook_K21 m1 e) Q0) ?_ _ ((-1 : Int32), v3, (0 : Int32)) ⟨_, eb, h⟩
  intro Q21 hb21 he21 s h
  obtain ⟨l5, l6, l7⟩ := s
  show mi_X mX2_bestLook (7) 21 [(0, vr 2 0), (1, vr 8 p0), (4, vi l5), (5, vi l6), (6, vi l7)] [] m1 QX
  unfold f_X2_bestLook_B21 at h
  try dsimp only at h
  refine x_iload (pc := 21) dX2_bestLook_21 rfl ?_
  refine x_aload_n (pc := 23) dX2_bestLook_23 rfl ?_
  refine x_getI (pc := 24) dX2_bestLook_24 fX2_93 rfl hp0 ?_
  refine x_bipush (pc := 27) dX2_bestLook_27 (v := (10 : Int32)) (by decide) ?_
  refine x_imul (pc := 29) dX2_bestLook_29 ?_
  refine x_icmp_ge (pc := 30) dX2_bestLook_30 (tgt := 80) (by decide) (fun c15 => ?_) (fun c15 => ?_)
  · replace h := wo_pos c15 h
    refine x_sub [(4, _)] ⟨rfl, trivial⟩ ?_
    exact k21_0 _ (he21 l5 (wo_some h))
  · replace h := wo_neg c15 h
    refine x_aload_n (pc := 33) dX2_bestLook_33 rfl ?_
    refine x_getS (pc := 34) dX2_bestLook_34 fX2_30 rfl (by decide) ?_
    refine x_iload (pc := 37) dX2_bestLook_37 rfl ?_
    obtain ⟨hx8, h⟩ := wo_g h
    refine x_ialdJ (pc := 39) dX2_bestLook_39 rfl rfl (by decide) hx8 ?_
    refine x_aload_n (pc := 40) dX2_bestLook_40 rfl ?_
    refine x_getS (pc := 41) dX2_bestLook_41 fX2_33 rfl (by decide) ?_
    refine x_iconst (pc := 44) dX2_bestLook_44 (v := (0 : Int32)) (by decide) ?_
    obtain ⟨hx9, h⟩ := wo_g h
    refine x_ialdJ (pc := 45) dX2_bestLook_45 rfl rfl (by decide) hx9 ?_
    refine x_aload_n (pc := 46) dX2_bestLook_46 rfl ?_
    refine x_getS (pc := 47) dX2_bestLook_47 fX2_30 rfl (by decide) ?_
    refine x_iload (pc := 50) dX2_bestLook_50 rfl ?_
    obtain ⟨hx10, h⟩ := wo_g h
    refine x_ialdJ (pc := 52) dX2_bestLook_52 rfl rfl (by decide) hx10 ?_
    refine x_isub (pc := 53) dX2_bestLook_53 ?_
    refine x_mmax (pc := 54) dX2_bestLook_54 lX2_80 (by omega) rfl ?_
    refine x_leti h (fun v11 h => ?_)
    refine x_istore (ls' := [(7, _), (0, _), (1, _), (4, _), (5, _), (6, _)]) (pc := 57) dX2_bestLook_57 rfl rfl ?_
    refine x_iload (pc := 59) dX2_bestLook_59 rfl ?_
    refine x_iload (pc := 61) dX2_bestLook_61 rfl ?_
    have j74 : ∀ (u12 : Int32) (u13 : Int32), wo (f_X2_bestLook_J74 l7 u12 u13) Q21 → mi_X mX2_bestLook (7) 74 [(0, vr 2 0), (1, vr 8 p0), (4, vi u12), (5, vi u13), (6, vi l7)] [] m1 QX := by
      intro u12 u13 h
      unfold f_X2_bestLook_J74 at h
      refine x_iinc (ls' := [(6, _), (0, _), (1, _), (4, _), (5, _)]) (pc := 74) dX2_bestLook_74 rfl (v := l7 + (1 : Int32)) rfl rfl rfl ?_
      refine x_goto (pc := 77) dX2_bestLook_77 (tgt := 21) (by decide) ?_
      refine x_sub [(0, _), (1, _), (4, _), (5, _), (6, _)] ⟨rfl, rfl, rfl, rfl, rfl, trivial⟩ ?_
      exact hb21 (u12, u13, (l7 + (1 : Int32))) (wo_some h)
    refine x_icmp_ge (pc := 63) dX2_bestLook_63 (tgt := 74) (by decide) (fun c14 => ?_) (fun c14 => ?_)
    · replace h := wo_pos c14 h
      refine x_sub [(0, _), (1, _), (4, _), (5, _), (6, _)] ⟨rfl, rfl, rfl, rfl, rfl, trivial⟩ ?_
      exact j74 _ _ h
    · replace h := wo_neg c14 h
      refine x_iload (pc := 66) dX2_bestLook_66 rfl ?_
      refine x_istore (ls' := [(4, _), (7, _), (0, _), (1, _), (5, _), (6, _)]) (pc := 68) dX2_bestLook_68 rfl rfl ?_
      refine x_iload (pc := 70) dX2_bestLook_70 rfl ?_
      refine x_istore (ls' := [(5, _), (4, _), (7, _), (0, _), (1, _), (6, _)]) (pc := 72) dX2_bestLook_72 rfl rfl ?_
      refine x_sub [(0, _), (1, _), (4, _), (5, _), (6, _)] ⟨rfl, rfl, rfl, rfl, rfl, trivial⟩ ?_
      exact j74 _ _ h
noncomputable def f_X11_look (mem : mi_M) : Option (Int32 × mi_M) := mi_g (mem.2.2 0 < mi_n 8) (mi_b (f_X2_bestLook (mem.2.2 0) 0 0 mem) fun v2 m3 => some (v2, m3))
set_option maxRecDepth 100000 in
set_option maxHeartbeats 4000000 in
theorem w_X11_look (mem : mi_M) (a : Int32 × mi_M) (e : f_X11_look  mem = some a) : mi_Ci (8) mX11_look [vr 11 0] mem (fun x m' => x = a.1 ∧ m' = a.2) := by
  unfold mi_Ci
  refine mi_C_intro (ls := [(0, vr 11 0)]) (by decide) rfl rfl ?_
  obtain ⟨Q0, hq0, h⟩ : ∃ Q0 : (Int32 × mi_M) → Prop, (∀ b, Q0 b → b = a) ∧ wo (f_X11_look  mem) Q0 := ⟨fun b => b = a, fun _ h => h, wo_eq e⟩
  obtain ⟨QX, hQX⟩ : ∃ QX : Option mi_V → mi_M → Prop, QX = (fun r m' => ∃ x, r = some (vi x) ∧ x = a.1 ∧ m' = a.2) := ⟨_, rfl⟩
  rw [← hQX]
  unfold f_X11_look at h
  refine x_aload_n (pc := 0) dX11_look_0 rfl ?_
  refine x_getC (pc := 1) dX11_look_1 fX11_47 rfl (by decide) ?_
  refine x_aload_n (pc := 4) dX11_look_4 rfl ?_
  obtain ⟨hm1, h⟩ := wo_g h
  refine x_getM (pc := 5) dX11_look_5 fX11_54 rfl (by decide) ?_
  refine x_aload_n (pc := 8) dX11_look_8 rfl ?_
  refine x_getC (pc := 9) dX11_look_9 fX11_19 rfl (by decide) ?_
  refine x_aload_n (pc := 12) dX11_look_12 rfl ?_
  refine x_getC (pc := 13) dX11_look_13 fX11_33 rfl (by decide) ?_
  refine y_Vi3 (pc := 16) h dX11_look_16 lX11_256 (by decide) (by omega) rfl (fun a e => w_X2_bestLook _ _ _ hm1 (by decide) (by decide) _ a e) (fun v2 m3 h => ?_)
  exact x_iret (pc := 19) dX11_look_19 rfl (by rw [hQX]; exact ⟨_, rfl, congrArg Prod.fst (hq0 _ (wo_some h)), congrArg Prod.snd (hq0 _ (wo_some h))⟩)
noncomputable def f_X4_become_B10 (i0 : Nat) (p0 : Nat) : (Int32 × mi_M) → Option ((Int32 × mi_M) ⊕ (mi_M)) := fun s => match s with | (l3, m4) => if (8 : Int32) ≤ l3 then some (.inr m4) else mi_g (vp_in l3 8) (mi_g (vp_in l3 8) (mi_let (mi_wI m4 31 i0 l3.toNatClampNeg (m4.1 31 p0 l3.toNatClampNeg)) fun m7 => mi_g (vp_in l3 8) (mi_g (vp_in l3 8) (mi_let (mi_wI m7 32 i0 l3.toNatClampNeg (m7.1 32 p0 l3.toNatClampNeg)) fun m10 => mi_g (vp_in l3 8) (mi_g (vp_in l3 8) (mi_let (mi_wI m10 33 i0 l3.toNatClampNeg (vp_nar .boolean (m10.1 33 p0 l3.toNatClampNeg))) fun m13 => some (.inl ((l3 + (1 : Int32)), m13))))))))
noncomputable def f_X4_become_K10 : mi_M → Option (mi_M) := fun m2 => some m2
noncomputable def f_X4_become (i0 : Nat) (p0 : Nat) (mem : mi_M) : Option (mi_M) := mi_let (mi_wI mem 4 i0 0 (mem.1 4 p0 0)) fun m1 => mi_bo (mi_lp (f_X4_become_B10 i0 p0) mi_fu ((0 : Int32), m1)) (f_X4_become_K10)
set_option maxRecDepth 100000 in
set_option maxHeartbeats 4000000 in
theorem w_X4_become (i0 : Nat) (p0 : Nat) (hi0 : i0 < mi_n 4) (hp0 : p0 < mi_n 4) (mem : mi_M) (a : mi_M) (e : f_X4_become i0 p0 mem = some a) : mi_Cv (1) mX4_become [vr 4 i0, vr 4 p0] mem (fun m' => m' = a) := by
  unfold mi_Cv
  refine mi_C_intro (ls := [(0, vr 4 i0), (1, vr 4 p0)]) (by decide) rfl rfl ?_
  obtain ⟨Q0, hq0, h⟩ : ∃ Q0 : mi_M → Prop, (∀ b, Q0 b → b = a) ∧ wo (f_X4_become i0 p0 mem) Q0 := ⟨fun b => b = a, fun _ h => h, wo_eq e⟩
  obtain ⟨QX, hQX⟩ : ∃ QX : Option mi_V → mi_M → Prop, QX = (fun r m' => r = none ∧ m' = a) := ⟨_, rfl⟩
  rw [← hQX]
  unfold f_X4_become at h
  refine x_aload_n (pc := 0) dX4_become_0 rfl ?_
  refine x_aload_n (pc := 1) dX4_become_1 rfl ?_
  refine x_getI (pc := 2) dX4_become_2 fX4_22 rfl hp0 ?_
  refine x_putI (pc := 5) dX4_become_5 fX4_22 rfl hi0 rfl rfl ?_
  refine x_letm h (fun m1 h => ?_)
  refine x_iconst (pc := 8) dX4_become_8 (v := (0 : Int32)) (by decide) ?_
  refine x_istore_n (ls' := [(2, _), (0, _), (1, _)]) (pc := 9) dX4_become_9 rfl rfl rfl ?_
  have k10_0 : ∀ (m2 : mi_M), wo (f_X4_become_K10 m2) Q0 → mi_X mX4_become (1) 58 [] [] m2 QX := by
    intro m2 h
    unfold f_X4_become_K10 at h
    try dsimp only at h
    exact x_ret (pc := 58) dX4_become_58 rfl (by rw [hQX]; exact ⟨rfl, hq0 _ (wo_some h)⟩)
  refine x_sub [(0, _), (1, _), (2, _)] ⟨rfl, rfl, rfl, trivial⟩ ?_
  obtain ⟨ea, eb, h⟩ := wo_bo h
  refine wo_lq (X := fun s => match s with | (l3, m4) => mi_X mX4_become (1) 10 [(0, vr 4 i0), (1, vr 4 p0), (2, vi l3)] [] m4 QX) (E := fun e => wo (f_X4_become_K10 e) Q0) ?_ _ ((0 : Int32), m1) ⟨_, eb, h⟩
  intro Q10 hb10 he10 s h
  obtain ⟨l3, m4⟩ := s
  show mi_X mX4_become (1) 10 [(0, vr 4 i0), (1, vr 4 p0), (2, vi l3)] [] m4 QX
  unfold f_X4_become_B10 at h
  try dsimp only at h
  refine x_iload_n (pc := 10) dX4_become_10 rfl ?_
  refine x_bipush (pc := 11) dX4_become_11 (v := (8 : Int32)) (by decide) ?_
  refine x_icmp_ge (pc := 13) dX4_become_13 (tgt := 58) (by decide) (fun c14 => ?_) (fun c14 => ?_)
  · replace h := wo_pos c14 h
    refine x_sub [] trivial ?_
    exact k10_0 _ (he10 m4 (wo_some h))
  · replace h := wo_neg c14 h
    refine x_aload_n (pc := 16) dX4_become_16 rfl ?_
    refine x_getS (pc := 17) dX4_become_17 fX4_9 rfl hi0 ?_
    refine x_iload_n (pc := 20) dX4_become_20 rfl ?_
    refine x_aload_n (pc := 21) dX4_become_21 rfl ?_
    refine x_getS (pc := 22) dX4_become_22 fX4_9 rfl hp0 ?_
    refine x_iload_n (pc := 25) dX4_become_25 rfl ?_
    obtain ⟨hx5, h⟩ := wo_g h
    refine x_ialdJ (pc := 26) dX4_become_26 rfl rfl hp0 hx5 ?_
    obtain ⟨hx6, h⟩ := wo_g h
    refine x_iastJ (pc := 27) dX4_become_27 rfl rfl hi0 rfl hx6 ?_
    refine x_letm h (fun m7 h => ?_)
    refine x_aload_n (pc := 28) dX4_become_28 rfl ?_
    refine x_getS (pc := 29) dX4_become_29 fX4_15 rfl hi0 ?_
    refine x_iload_n (pc := 32) dX4_become_32 rfl ?_
    refine x_aload_n (pc := 33) dX4_become_33 rfl ?_
    refine x_getS (pc := 34) dX4_become_34 fX4_15 rfl hp0 ?_
    refine x_iload_n (pc := 37) dX4_become_37 rfl ?_
    obtain ⟨hx8, h⟩ := wo_g h
    refine x_ialdJ (pc := 38) dX4_become_38 rfl rfl hp0 hx8 ?_
    obtain ⟨hx9, h⟩ := wo_g h
    refine x_iastJ (pc := 39) dX4_become_39 rfl rfl hi0 rfl hx9 ?_
    refine x_letm h (fun m10 h => ?_)
    refine x_aload_n (pc := 40) dX4_become_40 rfl ?_
    refine x_getS (pc := 41) dX4_become_41 fX4_18 rfl hi0 ?_
    refine x_iload_n (pc := 44) dX4_become_44 rfl ?_
    refine x_aload_n (pc := 45) dX4_become_45 rfl ?_
    refine x_getS (pc := 46) dX4_become_46 fX4_18 rfl hp0 ?_
    refine x_iload_n (pc := 49) dX4_become_49 rfl ?_
    obtain ⟨hx11, h⟩ := wo_g h
    refine x_zaldJ (pc := 50) dX4_become_50 rfl rfl hp0 hx11 ?_
    obtain ⟨hx12, h⟩ := wo_g h
    refine x_zastJ (pc := 51) dX4_become_51 rfl rfl hi0 rfl hx12 ?_
    refine x_letm h (fun m13 h => ?_)
    refine x_iinc (ls' := [(2, _), (0, _), (1, _)]) (pc := 52) dX4_become_52 rfl (v := l3 + (1 : Int32)) rfl rfl rfl ?_
    refine x_goto (pc := 55) dX4_become_55 (tgt := 10) (by decide) ?_
    refine x_sub [(0, _), (1, _), (2, _)] ⟨rfl, rfl, rfl, trivial⟩ ?_
    exact hb10 ((l3 + (1 : Int32)), m13) (wo_some h)
noncomputable def f_X3_goBack (p0 : Int32) (p1 : Nat) (p2 : Nat) (mem : mi_M) : Option (Int32 × mi_M) := mi_bo (f_X11_holds (mem.1 3 0 2) p0 mem) fun v1 => if v1 = 0 then mi_g ((0 : Int32) = 0 ∨ (0 : Int32) = 1) (some ((0 : Int32), mem)) else mi_g (vp_in p0 4) (mi_bo (f_X5_become p1 (0 * 0 + 17 + p0.toNatClampNeg) mem) fun m3 => mi_g (vp_in p0 4) (mi_bo (f_X4_become p2 (0 * 0 + 1 + p0.toNatClampNeg) m3) fun m5 => mi_let (mi_wI m5 3 0 0 (0 : Int32)) fun m6 => mi_g ((1 : Int32) = 0 ∨ (1 : Int32) = 1) (some ((1 : Int32), m6))))
set_option maxRecDepth 100000 in
set_option maxHeartbeats 4000000 in
theorem w_X3_goBack (p0 : Int32) (p1 : Nat) (p2 : Nat) (hp1 : p1 < mi_n 5) (hp2 : p2 < mi_n 4) (mem : mi_M) (a : Int32 × mi_M) (e : f_X3_goBack p0 p1 p2 mem = some a) : mi_Ci (2) mX3_goBack [vr 3 0, vi p0, vr 5 p1, vr 4 p2] mem (fun x m' => x = a.1 ∧ m' = a.2) := by
  unfold mi_Ci
  refine mi_C_intro (ls := [(0, vr 3 0), (1, vi p0), (2, vr 5 p1), (3, vr 4 p2)]) (by decide) rfl rfl ?_
  obtain ⟨Q0, hq0, h⟩ : ∃ Q0 : (Int32 × mi_M) → Prop, (∀ b, Q0 b → b = a) ∧ wo (f_X3_goBack p0 p1 p2 mem) Q0 := ⟨fun b => b = a, fun _ h => h, wo_eq e⟩
  obtain ⟨QX, hQX⟩ : ∃ QX : Option mi_V → mi_M → Prop, QX = (fun r m' => ∃ x, r = some (vi x) ∧ x = a.1 ∧ m' = a.2) := ⟨_, rfl⟩
  rw [← hQX]
  unfold f_X3_goBack at h
  refine x_aload_n (pc := 0) dX3_goBack_0 rfl ?_
  refine x_getI (pc := 1) dX3_goBack_1 fX3_32 rfl (by decide) ?_
  refine x_iload_n (pc := 4) dX3_goBack_4 rfl ?_
  refine z_Ni2 (pc := 5) h dX3_goBack_5 nX3_51 (by omega) rfl (fun a e => w_X11_holds _ _ _ a e) (fun v1 h => ?_)
  refine x_if_ne (pc := 8) dX3_goBack_8 (tgt := 13) (by decide) (fun c9 => ?_) (fun c9 => ?_)
  · replace h := wo_neg c9 h
    refine x_aload_n (pc := 13) dX3_goBack_13 rfl ?_
    refine x_aload_n (pc := 14) dX3_goBack_14 rfl ?_
    refine x_getS (pc := 15) dX3_goBack_15 fX3_17 rfl (by decide) ?_
    refine x_iload_n (pc := 18) dX3_goBack_18 rfl ?_
    obtain ⟨hx2, h⟩ := wo_g h
    refine x_aaldStJ (pc := 19) dX3_goBack_19 rfl rfl (by decide) rfl hx2 ?_
    refine y_Vv1 (pc := 20) h dX3_goBack_20 lX3_38 hp1 (by omega) rfl (fun a e => w_X5_become _ _ hp1 (by have h1 := (mi_vin hx2).1; have h2 : (0 : Nat) < 1 := (by decide); show _ < (26 : Nat); omega) _ a e) (fun m3 h => ?_)
    refine x_aload_n (pc := 23) dX3_goBack_23 rfl ?_
    refine x_aload_n (pc := 24) dX3_goBack_24 rfl ?_
    refine x_getS (pc := 25) dX3_goBack_25 fX3_22 rfl (by decide) ?_
    refine x_iload_n (pc := 28) dX3_goBack_28 rfl ?_
    obtain ⟨hx4, h⟩ := wo_g h
    refine x_aaldSiJ (pc := 29) dX3_goBack_29 rfl rfl (by decide) rfl hx4 ?_
    refine y_Vv1 (pc := 30) h dX3_goBack_30 lX3_48 hp2 (by omega) rfl (fun a e => w_X4_become _ _ hp2 (by have h1 := (mi_vin hx4).1; have h2 : (0 : Nat) < 1 := (by decide); show _ < (5 : Nat); omega) _ a e) (fun m5 h => ?_)
    refine x_aload_n (pc := 33) dX3_goBack_33 rfl ?_
    refine x_iconst (pc := 34) dX3_goBack_34 (v := (0 : Int32)) (by decide) ?_
    refine x_putI (pc := 35) dX3_goBack_35 fX3_28 rfl (by decide) rfl rfl ?_
    refine x_letm h (fun m6 h => ?_)
    refine x_iconst (pc := 38) dX3_goBack_38 (v := (1 : Int32)) (by decide) ?_
    obtain ⟨hb7, h⟩ := wo_g h
    exact x_zretB (pc := 39) dX3_goBack_39 rfl hb7 (by rw [hQX]; exact ⟨_, rfl, congrArg Prod.fst (hq0 _ (wo_some h)), congrArg Prod.snd (hq0 _ (wo_some h))⟩)
  · replace h := wo_pos c9 h
    refine x_iconst (pc := 11) dX3_goBack_11 (v := (0 : Int32)) (by decide) ?_
    obtain ⟨hb8, h⟩ := wo_g h
    exact x_zretB (pc := 12) dX3_goBack_12 rfl hb8 (by rw [hQX]; exact ⟨_, rfl, congrArg Prod.fst (hq0 _ (wo_some h)), congrArg Prod.snd (hq0 _ (wo_some h))⟩)
noncomputable def f_X3_lay (p0 : Int32) (p1 : Nat) (p2 : Nat) (mem : mi_M) : Option (mi_M) := mi_g (vp_in p0 4) (mi_bo (f_X5_become (0 * 0 + 17 + p0.toNatClampNeg) p1 mem) fun m2 => mi_g (vp_in p0 4) (mi_bo (f_X4_become (0 * 0 + 1 + p0.toNatClampNeg) p2 m2) fun m4 => mi_let (mi_wI m4 3 0 2 ((m4.1 3 0 2) ||| ((1 : Int32) <<< (p0 &&& 31)))) fun m5 => some m5))
set_option maxRecDepth 100000 in
set_option maxHeartbeats 4000000 in
theorem w_X3_lay (p0 : Int32) (p1 : Nat) (p2 : Nat) (hp1 : p1 < mi_n 5) (hp2 : p2 < mi_n 4) (mem : mi_M) (a : mi_M) (e : f_X3_lay p0 p1 p2 mem = some a) : mi_Cv (2) mX3_lay [vr 3 0, vi p0, vr 5 p1, vr 4 p2] mem (fun m' => m' = a) := by
  unfold mi_Cv
  refine mi_C_intro (ls := [(0, vr 3 0), (1, vi p0), (2, vr 5 p1), (3, vr 4 p2)]) (by decide) rfl rfl ?_
  obtain ⟨Q0, hq0, h⟩ : ∃ Q0 : mi_M → Prop, (∀ b, Q0 b → b = a) ∧ wo (f_X3_lay p0 p1 p2 mem) Q0 := ⟨fun b => b = a, fun _ h => h, wo_eq e⟩
  obtain ⟨QX, hQX⟩ : ∃ QX : Option mi_V → mi_M → Prop, QX = (fun r m' => r = none ∧ m' = a) := ⟨_, rfl⟩
  rw [← hQX]
  unfold f_X3_lay at h
  refine x_aload_n (pc := 0) dX3_lay_0 rfl ?_
  refine x_getS (pc := 1) dX3_lay_1 fX3_17 rfl (by decide) ?_
  refine x_iload_n (pc := 4) dX3_lay_4 rfl ?_
  obtain ⟨hx1, h⟩ := wo_g h
  refine x_aaldStJ (pc := 5) dX3_lay_5 rfl rfl (by decide) rfl hx1 ?_
  refine x_aload_n (pc := 6) dX3_lay_6 rfl ?_
  refine y_Vv1 (pc := 7) h dX3_lay_7 lX3_38 (by have h1 := (mi_vin hx1).1; have h2 : (0 : Nat) < 1 := (by decide); show _ < (26 : Nat); omega) (by omega) rfl (fun a e => w_X5_become _ _ (by have h1 := (mi_vin hx1).1; have h2 : (0 : Nat) < 1 := (by decide); show _ < (26 : Nat); omega) hp1 _ a e) (fun m2 h => ?_)
  refine x_aload_n (pc := 10) dX3_lay_10 rfl ?_
  refine x_getS (pc := 11) dX3_lay_11 fX3_22 rfl (by decide) ?_
  refine x_iload_n (pc := 14) dX3_lay_14 rfl ?_
  obtain ⟨hx3, h⟩ := wo_g h
  refine x_aaldSiJ (pc := 15) dX3_lay_15 rfl rfl (by decide) rfl hx3 ?_
  refine x_aload_n (pc := 16) dX3_lay_16 rfl ?_
  refine y_Vv1 (pc := 17) h dX3_lay_17 lX3_48 (by have h1 := (mi_vin hx3).1; have h2 : (0 : Nat) < 1 := (by decide); show _ < (5 : Nat); omega) (by omega) rfl (fun a e => w_X4_become _ _ (by have h1 := (mi_vin hx3).1; have h2 : (0 : Nat) < 1 := (by decide); show _ < (5 : Nat); omega) hp2 _ a e) (fun m4 h => ?_)
  refine x_aload_n (pc := 20) dX3_lay_20 rfl ?_
  refine x_dup (pc := 21) dX3_lay_21 rfl ?_
  refine x_getI (pc := 22) dX3_lay_22 fX3_32 rfl (by decide) ?_
  refine x_iconst (pc := 25) dX3_lay_25 (v := (1 : Int32)) (by decide) ?_
  refine x_iload_n (pc := 26) dX3_lay_26 rfl ?_
  refine x_ishl (pc := 27) dX3_lay_27 ?_
  refine x_ior (pc := 28) dX3_lay_28 ?_
  refine x_putI (pc := 29) dX3_lay_29 fX3_32 rfl (by decide) rfl rfl ?_
  refine x_letm h (fun m5 h => ?_)
  exact x_ret (pc := 32) dX3_lay_32 rfl (by rw [hQX]; exact ⟨rfl, hq0 _ (wo_some h)⟩)
noncomputable def f_X11_mark (p0 : Int32) (p1 : Int32) (mem : mi_M) : Option (Int32 × mi_M) := mi_bo (f_X11_isWithin p0 (0 : Int32) (3 : Int32) mem) fun v1 => if v1 = 0 then mi_g ((0 : Int32) = 0 ∨ (0 : Int32) = 1) (some ((0 : Int32), mem)) else if p1 = 0 then mi_bo (f_X3_lay p0 0 0 mem) fun m2 => mi_g ((1 : Int32) = 0 ∨ (1 : Int32) = 1) (some ((1 : Int32), m2)) else mi_b (f_X3_goBack p0 0 0 mem) fun v4 m5 => mi_g (v4 = 0 ∨ v4 = 1) (some (v4, m5))
set_option maxRecDepth 100000 in
set_option maxHeartbeats 4000000 in
theorem w_X11_mark (p0 : Int32) (p1 : Int32) (mem : mi_M) (a : Int32 × mi_M) (e : f_X11_mark p0 p1 mem = some a) : mi_Ci (3) mX11_mark [vr 11 0, vi p0, vi p1] mem (fun x m' => x = a.1 ∧ m' = a.2) := by
  unfold mi_Ci
  refine mi_C_intro (ls := [(0, vr 11 0), (1, vi p0), (2, vi p1)]) (by decide) rfl rfl ?_
  obtain ⟨Q0, hq0, h⟩ : ∃ Q0 : (Int32 × mi_M) → Prop, (∀ b, Q0 b → b = a) ∧ wo (f_X11_mark p0 p1 mem) Q0 := ⟨fun b => b = a, fun _ h => h, wo_eq e⟩
  obtain ⟨QX, hQX⟩ : ∃ QX : Option mi_V → mi_M → Prop, QX = (fun r m' => ∃ x, r = some (vi x) ∧ x = a.1 ∧ m' = a.2) := ⟨_, rfl⟩
  rw [← hQX]
  unfold f_X11_mark at h
  refine x_iload_n (pc := 0) dX11_mark_0 rfl ?_
  refine x_iconst (pc := 1) dX11_mark_1 (v := (0 : Int32)) (by decide) ?_
  refine x_iconst (pc := 2) dX11_mark_2 (v := (3 : Int32)) (by decide) ?_
  refine z_Si3 (pc := 3) h dX11_mark_3 lX11_155 (by omega) rfl (fun a e => w_X11_isWithin _ _ _ _ a e) (fun v1 h => ?_)
  refine x_if_ne (pc := 6) dX11_mark_6 (tgt := 11) (by decide) (fun c9 => ?_) (fun c9 => ?_)
  · replace h := wo_neg c9 h
    refine x_iload_n (pc := 11) dX11_mark_11 rfl ?_
    refine x_if_eq (pc := 12) dX11_mark_12 (tgt := 32) (by decide) (fun c7 => ?_) (fun c7 => ?_)
    · replace h := wo_pos c7 h
      refine x_aload_n (pc := 32) dX11_mark_32 rfl ?_
      refine x_getC (pc := 33) dX11_mark_33 fX11_26 rfl (by decide) ?_
      refine x_iload_n (pc := 36) dX11_mark_36 rfl ?_
      refine x_aload_n (pc := 37) dX11_mark_37 rfl ?_
      refine x_getC (pc := 38) dX11_mark_38 fX11_19 rfl (by decide) ?_
      refine x_aload_n (pc := 41) dX11_mark_41 rfl ?_
      refine x_getC (pc := 42) dX11_mark_42 fX11_33 rfl (by decide) ?_
      refine y_Vv3 (pc := 45) h dX11_mark_45 lX11_280 (by decide) (by omega) rfl (fun a e => w_X3_lay _ _ _ (by decide) (by decide) _ a e) (fun m2 h => ?_)
      refine x_iconst (pc := 48) dX11_mark_48 (v := (1 : Int32)) (by decide) ?_
      obtain ⟨hb3, h⟩ := wo_g h
      exact x_zretB (pc := 49) dX11_mark_49 rfl hb3 (by rw [hQX]; exact ⟨_, rfl, congrArg Prod.fst (hq0 _ (wo_some h)), congrArg Prod.snd (hq0 _ (wo_some h))⟩)
    · replace h := wo_neg c7 h
      refine x_aload_n (pc := 15) dX11_mark_15 rfl ?_
      refine x_getC (pc := 16) dX11_mark_16 fX11_26 rfl (by decide) ?_
      refine x_iload_n (pc := 19) dX11_mark_19 rfl ?_
      refine x_aload_n (pc := 20) dX11_mark_20 rfl ?_
      refine x_getC (pc := 21) dX11_mark_21 fX11_19 rfl (by decide) ?_
      refine x_aload_n (pc := 24) dX11_mark_24 rfl ?_
      refine x_getC (pc := 25) dX11_mark_25 fX11_33 rfl (by decide) ?_
      refine y_Vi3 (pc := 28) h dX11_mark_28 lX11_276 (by decide) (by omega) rfl (fun a e => w_X3_goBack _ _ _ (by decide) (by decide) _ a e) (fun v4 m5 h => ?_)
      obtain ⟨hb6, h⟩ := wo_g h
      exact x_zretB (pc := 31) dX11_mark_31 rfl hb6 (by rw [hQX]; exact ⟨_, rfl, congrArg Prod.fst (hq0 _ (wo_some h)), congrArg Prod.snd (hq0 _ (wo_some h))⟩)
  · replace h := wo_pos c9 h
    refine x_iconst (pc := 9) dX11_mark_9 (v := (0 : Int32)) (by decide) ?_
    obtain ⟨hb8, h⟩ := wo_g h
    exact x_zretB (pc := 10) dX11_mark_10 rfl hb8 (by rw [hQX]; exact ⟨_, rfl, congrArg Prod.fst (hq0 _ (wo_some h)), congrArg Prod.snd (hq0 _ (wo_some h))⟩)
noncomputable def f_X9_leastDarkDoor_J68 (l5 : Int32) (m8 : mi_M) (u9 : Int32) (u10 : Int32) : Option ((Int32 × Int32 × Int32 × mi_M) ⊕ (Int32 × mi_M)) := some (.inl (u9, u10, (l5 + (1 : Int32)), m8))
noncomputable def f_X9_leastDarkDoor_J61 (l5 : Int32) (e7 : Int32) (m8 : mi_M) : Option ((Int32 × Int32 × Int32 × mi_M) ⊕ (Int32 × mi_M)) := f_X9_leastDarkDoor_J68 l5 m8 l5 e7
noncomputable def f_X9_leastDarkDoor_B20 (i0 : Nat) (p0 : Int32) (p1 : Int32) (l5 : Int32) : (Int32 × Int32 × mi_M) → Option ((Int32 × Int32 × mi_M) ⊕ (Int32 × mi_M)) := fun s => match s with | (l13, l14, m15) => if p1 ≤ l14 then some (.inr (l13, m15)) else mi_b (f_X9_costOf i0 p0 l5 l14 m15) fun v16 m17 => mi_bo (f_X9_darkOrHarm v16 m17) fun v18 => mi_let (l13 + v18) fun v19 => some (.inl (v19, (l14 + (1 : Int32)), m17))
noncomputable def f_X9_leastDarkDoor_K20 (l3 : Int32) (l4 : Int32) (l5 : Int32) : (Int32 × mi_M) → Option ((Int32 × Int32 × Int32 × mi_M) ⊕ (Int32 × mi_M)) := fun e => match e with | (e7, m8) => if l3 = (-1 : Int32) then f_X9_leastDarkDoor_J61 l5 e7 m8 else if l4 ≤ e7 then f_X9_leastDarkDoor_J68 l5 m8 l3 l4 else f_X9_leastDarkDoor_J61 l5 e7 m8
noncomputable def f_X9_leastDarkDoor_B8 (i0 : Nat) (p0 : Int32) (p1 : Int32) : (Int32 × Int32 × Int32 × mi_M) → Option ((Int32 × Int32 × Int32 × mi_M) ⊕ (Int32 × mi_M)) := fun s => match s with | (l3, l4, l5, m6) => if p1 ≤ l5 then some (.inr (l3, m6)) else mi_bo (mi_lp (f_X9_leastDarkDoor_B20 i0 p0 p1 l5) mi_fu ((0 : Int32), (0 : Int32), m6)) (f_X9_leastDarkDoor_K20 l3 l4 l5)
noncomputable def f_X9_leastDarkDoor_K8 : (Int32 × mi_M) → Option (Int32 × mi_M) := fun e => match e with | (e1, m2) => some (e1, m2)
noncomputable def f_X9_leastDarkDoor (i0 : Nat) (p0 : Int32) (p1 : Int32) (mem : mi_M) : Option (Int32 × mi_M) := mi_bo (mi_lp (f_X9_leastDarkDoor_B8 i0 p0 p1) mi_fu ((-1 : Int32), (0 : Int32), (0 : Int32), mem)) (f_X9_leastDarkDoor_K8)
set_option maxRecDepth 100000 in
set_option maxHeartbeats 4000000 in
theorem w_X9_leastDarkDoor (i0 : Nat) (p0 : Int32) (p1 : Int32) (hi0 : i0 < mi_n 9) (mem : mi_M) (a : Int32 × mi_M) (e : f_X9_leastDarkDoor i0 p0 p1 mem = some a) : mi_Ci (4) mX9_leastDarkDoor [vr 9 i0, vi p0, vi p1] mem (fun x m' => x = a.1 ∧ m' = a.2) := by
  unfold mi_Ci
  refine mi_C_intro (ls := [(0, vr 9 i0), (1, vi p0), (2, vi p1)]) (by decide) rfl rfl ?_
  obtain ⟨Q0, hq0, h⟩ : ∃ Q0 : (Int32 × mi_M) → Prop, (∀ b, Q0 b → b = a) ∧ wo (f_X9_leastDarkDoor i0 p0 p1 mem) Q0 := ⟨fun b => b = a, fun _ h => h, wo_eq e⟩
  obtain ⟨QX, hQX⟩ : ∃ QX : Option mi_V → mi_M → Prop, QX = (fun r m' => ∃ x, r = some (vi x) ∧ x = a.1 ∧ m' = a.2) := ⟨_, rfl⟩
  rw [← hQX]
  unfold f_X9_leastDarkDoor at h
  refine x_iconst (pc := 0) dX9_leastDarkDoor_0 (v := (-1 : Int32)) (by decide) ?_
  refine x_istore_n (ls' := [(3, _), (0, _), (1, _), (2, _)]) (pc := 1) dX9_leastDarkDoor_1 rfl rfl rfl ?_
  refine x_iconst (pc := 2) dX9_leastDarkDoor_2 (v := (0 : Int32)) (by decide) ?_
  refine x_istore (ls' := [(4, _), (3, _), (0, _), (1, _), (2, _)]) (pc := 3) dX9_leastDarkDoor_3 rfl rfl ?_
  refine x_iconst (pc := 5) dX9_leastDarkDoor_5 (v := (0 : Int32)) (by decide) ?_
  refine x_istore (ls' := [(5, _), (4, _), (3, _), (0, _), (1, _), (2, _)]) (pc := 6) dX9_leastDarkDoor_6 rfl rfl ?_
  have k8_0 : ∀ (e1 : Int32) (m2 : mi_M), wo (f_X9_leastDarkDoor_K8 (e1, m2)) Q0 → mi_X mX9_leastDarkDoor (4) 74 [(3, vi e1)] [] m2 QX := by
    intro e1 m2 h
    unfold f_X9_leastDarkDoor_K8 at h
    try dsimp only at h
    refine x_iload_n (pc := 74) dX9_leastDarkDoor_74 rfl ?_
    exact x_iret (pc := 75) dX9_leastDarkDoor_75 rfl (by rw [hQX]; exact ⟨_, rfl, congrArg Prod.fst (hq0 _ (wo_some h)), congrArg Prod.snd (hq0 _ (wo_some h))⟩)
  refine x_sub [(0, _), (1, _), (2, _), (3, _), (4, _), (5, _)] ⟨rfl, rfl, rfl, rfl, rfl, rfl, trivial⟩ ?_
  obtain ⟨ea, eb, h⟩ := wo_bo h
  refine wo_lq (X := fun s => match s with | (l3, l4, l5, m6) => mi_X mX9_leastDarkDoor (4) 8 [(0, vr 9 i0), (1, vi p0), (2, vi p1), (3, vi l3), (4, vi l4), (5, vi l5)] [] m6 QX) (E := fun e => wo (f_X9_leastDarkDoor_K8 e) Q0) ?_ _ ((-1 : Int32), (0 : Int32), (0 : Int32), mem) ⟨_, eb, h⟩
  intro Q8 hb8 he8 s h
  obtain ⟨l3, l4, l5, m6⟩ := s
  show mi_X mX9_leastDarkDoor (4) 8 [(0, vr 9 i0), (1, vi p0), (2, vi p1), (3, vi l3), (4, vi l4), (5, vi l5)] [] m6 QX
  unfold f_X9_leastDarkDoor_B8 at h
  try dsimp only at h
  refine x_iload (pc := 8) dX9_leastDarkDoor_8 rfl ?_
  refine x_iload_n (pc := 10) dX9_leastDarkDoor_10 rfl ?_
  refine x_icmp_ge (pc := 11) dX9_leastDarkDoor_11 (tgt := 74) (by decide) (fun c21 => ?_) (fun c21 => ?_)
  · replace h := wo_pos c21 h
    refine x_sub [(3, _)] ⟨rfl, trivial⟩ ?_
    exact k8_0 _ _ (he8 (l3, m6) (wo_some h))
  · replace h := wo_neg c21 h
    refine x_iconst (pc := 14) dX9_leastDarkDoor_14 (v := (0 : Int32)) (by decide) ?_
    refine x_istore (ls' := [(6, _), (0, _), (1, _), (2, _), (3, _), (4, _), (5, _)]) (pc := 15) dX9_leastDarkDoor_15 rfl rfl ?_
    refine x_iconst (pc := 17) dX9_leastDarkDoor_17 (v := (0 : Int32)) (by decide) ?_
    refine x_istore (ls' := [(7, _), (6, _), (0, _), (1, _), (2, _), (3, _), (4, _), (5, _)]) (pc := 18) dX9_leastDarkDoor_18 rfl rfl ?_
    have k20_0 : ∀ (e7 : Int32) (m8 : mi_M), wo (f_X9_leastDarkDoor_K20 l3 l4 l5 (e7, m8)) Q8 → mi_X mX9_leastDarkDoor (4) 49 [(0, vr 9 i0), (1, vi p0), (2, vi p1), (3, vi l3), (4, vi l4), (5, vi l5), (6, vi e7)] [] m8 QX := by
      intro e7 m8 h
      unfold f_X9_leastDarkDoor_K20 at h
      try dsimp only at h
      refine x_iload_n (pc := 49) dX9_leastDarkDoor_49 rfl ?_
      refine x_iconst (pc := 50) dX9_leastDarkDoor_50 (v := (-1 : Int32)) (by decide) ?_
      have j68 : ∀ (u9 : Int32) (u10 : Int32), wo (f_X9_leastDarkDoor_J68 l5 m8 u9 u10) Q8 → mi_X mX9_leastDarkDoor (4) 68 [(0, vr 9 i0), (1, vi p0), (2, vi p1), (3, vi u9), (4, vi u10), (5, vi l5)] [] m8 QX := by
        intro u9 u10 h
        unfold f_X9_leastDarkDoor_J68 at h
        refine x_iinc (ls' := [(5, _), (0, _), (1, _), (2, _), (3, _), (4, _)]) (pc := 68) dX9_leastDarkDoor_68 rfl (v := l5 + (1 : Int32)) rfl rfl rfl ?_
        refine x_goto (pc := 71) dX9_leastDarkDoor_71 (tgt := 8) (by decide) ?_
        refine x_sub [(0, _), (1, _), (2, _), (3, _), (4, _), (5, _)] ⟨rfl, rfl, rfl, rfl, rfl, rfl, trivial⟩ ?_
        exact hb8 (u9, u10, (l5 + (1 : Int32)), m8) (wo_some h)
      have j61 : wo (f_X9_leastDarkDoor_J61 l5 e7 m8) Q8 → mi_X mX9_leastDarkDoor (4) 61 [(0, vr 9 i0), (1, vi p0), (2, vi p1), (5, vi l5), (6, vi e7)] [] m8 QX := by
        intro h
        unfold f_X9_leastDarkDoor_J61 at h
        refine x_iload (pc := 61) dX9_leastDarkDoor_61 rfl ?_
        refine x_istore_n (ls' := [(3, _), (0, _), (1, _), (2, _), (5, _), (6, _)]) (pc := 63) dX9_leastDarkDoor_63 rfl rfl rfl ?_
        refine x_iload (pc := 64) dX9_leastDarkDoor_64 rfl ?_
        refine x_istore (ls' := [(4, _), (3, _), (0, _), (1, _), (2, _), (5, _), (6, _)]) (pc := 66) dX9_leastDarkDoor_66 rfl rfl ?_
        refine x_sub [(0, _), (1, _), (2, _), (3, _), (4, _), (5, _)] ⟨rfl, rfl, rfl, rfl, rfl, rfl, trivial⟩ ?_
        exact j68 _ _ h
      refine x_icmp_eq (pc := 51) dX9_leastDarkDoor_51 (tgt := 61) (by decide) (fun c12 => ?_) (fun c12 => ?_)
      · replace h := wo_pos c12 h
        refine x_sub [(0, _), (1, _), (2, _), (5, _), (6, _)] ⟨rfl, rfl, rfl, rfl, rfl, trivial⟩ ?_
        exact j61 h
      · replace h := wo_neg c12 h
        refine x_iload (pc := 54) dX9_leastDarkDoor_54 rfl ?_
        refine x_iload (pc := 56) dX9_leastDarkDoor_56 rfl ?_
        refine x_icmp_ge (pc := 58) dX9_leastDarkDoor_58 (tgt := 68) (by decide) (fun c11 => ?_) (fun c11 => ?_)
        · replace h := wo_pos c11 h
          refine x_sub [(0, _), (1, _), (2, _), (3, _), (4, _), (5, _)] ⟨rfl, rfl, rfl, rfl, rfl, rfl, trivial⟩ ?_
          exact j68 _ _ h
        · replace h := wo_neg c11 h
          refine x_sub [(0, _), (1, _), (2, _), (5, _), (6, _)] ⟨rfl, rfl, rfl, rfl, rfl, trivial⟩ ?_
          exact j61 h
    refine x_sub [(0, _), (1, _), (2, _), (3, _), (4, _), (5, _), (6, _), (7, _)] ⟨rfl, rfl, rfl, rfl, rfl, rfl, rfl, rfl, trivial⟩ ?_
    obtain ⟨ea, eb, h⟩ := wo_bo h
    refine wo_lq (X := fun s => match s with | (l13, l14, m15) => mi_X mX9_leastDarkDoor (4) 20 [(0, vr 9 i0), (1, vi p0), (2, vi p1), (3, vi l3), (4, vi l4), (5, vi l5), (6, vi l13), (7, vi l14)] [] m15 QX) (E := fun e => wo (f_X9_leastDarkDoor_K20 l3 l4 l5 e) Q8) ?_ _ ((0 : Int32), (0 : Int32), m6) ⟨_, eb, h⟩
    intro Q20 hb20 he20 s h
    obtain ⟨l13, l14, m15⟩ := s
    show mi_X mX9_leastDarkDoor (4) 20 [(0, vr 9 i0), (1, vi p0), (2, vi p1), (3, vi l3), (4, vi l4), (5, vi l5), (6, vi l13), (7, vi l14)] [] m15 QX
    unfold f_X9_leastDarkDoor_B20 at h
    try dsimp only at h
    refine x_iload (pc := 20) dX9_leastDarkDoor_20 rfl ?_
    refine x_iload_n (pc := 22) dX9_leastDarkDoor_22 rfl ?_
    refine x_icmp_ge (pc := 23) dX9_leastDarkDoor_23 (tgt := 49) (by decide) (fun c20 => ?_) (fun c20 => ?_)
    · replace h := wo_pos c20 h
      refine x_sub [(0, _), (1, _), (2, _), (3, _), (4, _), (5, _), (6, _)] ⟨rfl, rfl, rfl, rfl, rfl, rfl, rfl, trivial⟩ ?_
      exact k20_0 _ _ (he20 (l13, m15) (wo_some h))
    · replace h := wo_neg c20 h
      refine x_iload (pc := 26) dX9_leastDarkDoor_26 rfl ?_
      refine x_aload_n (pc := 28) dX9_leastDarkDoor_28 rfl ?_
      refine x_iload_n (pc := 29) dX9_leastDarkDoor_29 rfl ?_
      refine x_iload (pc := 30) dX9_leastDarkDoor_30 rfl ?_
      refine x_iload (pc := 32) dX9_leastDarkDoor_32 rfl ?_
      refine y_Vi3 (pc := 34) h dX9_leastDarkDoor_34 lX9_37 hi0 (by omega) rfl (fun a e => w_X9_costOf _ _ _ _ hi0 _ a e) (fun v16 m17 h => ?_)
      refine z_Si1 (pc := 37) h dX9_leastDarkDoor_37 lX9_45 (by omega) rfl (fun a e => w_X9_darkOrHarm _ _ a e) (fun v18 h => ?_)
      refine x_iadd (pc := 40) dX9_leastDarkDoor_40 ?_
      refine x_leti h (fun v19 h => ?_)
      refine x_istore (ls' := [(6, _), (0, _), (1, _), (2, _), (3, _), (4, _), (5, _), (7, _)]) (pc := 41) dX9_leastDarkDoor_41 rfl rfl ?_
      refine x_iinc (ls' := [(7, _), (6, _), (0, _), (1, _), (2, _), (3, _), (4, _), (5, _)]) (pc := 43) dX9_leastDarkDoor_43 rfl (v := l14 + (1 : Int32)) rfl rfl rfl ?_
      refine x_goto (pc := 46) dX9_leastDarkDoor_46 (tgt := 20) (by decide) ?_
      refine x_sub [(0, _), (1, _), (2, _), (3, _), (4, _), (5, _), (6, _), (7, _)] ⟨rfl, rfl, rfl, rfl, rfl, rfl, rfl, rfl, trivial⟩ ?_
      exact hb20 (v19, (l14 + (1 : Int32)), m17) (wo_some h)
noncomputable def f_X11_middle (mem : mi_M) : Option (Int32 × mi_M) := mi_g (mem.2.2 0 < mi_n 8) (mi_bo (f_X5_burningBehind 0 (0 : Int32) mem) fun v2 => mi_g (mem.2.2 0 < mi_n 8) (mi_b (f_X9_leastDarkDoor (mem.2.2 0) v2 (mem.1 8 (mem.2.2 0) 0) mem) fun v4 m5 => some (v4, m5)))
set_option maxRecDepth 100000 in
set_option maxHeartbeats 4000000 in
theorem w_X11_middle (mem : mi_M) (a : Int32 × mi_M) (e : f_X11_middle  mem = some a) : mi_Ci (5) mX11_middle [vr 11 0] mem (fun x m' => x = a.1 ∧ m' = a.2) := by
  unfold mi_Ci
  refine mi_C_intro (ls := [(0, vr 11 0)]) (by decide) rfl rfl ?_
  obtain ⟨Q0, hq0, h⟩ : ∃ Q0 : (Int32 × mi_M) → Prop, (∀ b, Q0 b → b = a) ∧ wo (f_X11_middle  mem) Q0 := ⟨fun b => b = a, fun _ h => h, wo_eq e⟩
  obtain ⟨QX, hQX⟩ : ∃ QX : Option mi_V → mi_M → Prop, QX = (fun r m' => ∃ x, r = some (vi x) ∧ x = a.1 ∧ m' = a.2) := ⟨_, rfl⟩
  rw [← hQX]
  unfold f_X11_middle at h
  refine x_aload_n (pc := 0) dX11_middle_0 rfl ?_
  obtain ⟨hm1, h⟩ := wo_g h
  refine x_getM (pc := 1) dX11_middle_1 fX11_54 rfl (by decide) ?_
  refine x_getS (pc := 4) dX11_middle_4 fX11_159 rfl hm1 ?_
  refine x_aload_n (pc := 7) dX11_middle_7 rfl ?_
  refine x_getC (pc := 8) dX11_middle_8 fX11_19 rfl (by decide) ?_
  refine x_iconst (pc := 11) dX11_middle_11 (v := (0 : Int32)) (by decide) ?_
  refine z_Vi1 (pc := 12) h dX11_middle_12 lX11_148 (by decide) (by omega) rfl (fun a e => w_X5_burningBehind _ _ (by decide) _ a e) (fun v2 h => ?_)
  refine x_aload_n (pc := 15) dX11_middle_15 rfl ?_
  obtain ⟨hm3, h⟩ := wo_g h
  refine x_getM (pc := 16) dX11_middle_16 fX11_54 rfl (by decide) ?_
  refine x_getI (pc := 19) dX11_middle_19 fX11_228 rfl hm3 ?_
  refine y_Vi2 (pc := 22) h dX11_middle_22 lX11_231 hm1 (by omega) rfl (fun a e => w_X9_leastDarkDoor _ _ _ hm1 _ a e) (fun v4 m5 h => ?_)
  exact x_iret (pc := 25) dX11_middle_25 rfl (by rw [hQX]; exact ⟨_, rfl, congrArg Prod.fst (hq0 _ (wo_some h)), congrArg Prod.snd (hq0 _ (wo_some h))⟩)
noncomputable def f_X9_leavesNoWalkDark_J43 (l5 : Int32) (m10 : mi_M) : Option ((Int32 × mi_M) ⊕ (mi_M ⊕ mi_M)) := some (.inl ((l5 + (1 : Int32)), m10))
noncomputable def f_X9_leavesNoWalkDark_B2 (i0 : Nat) (p0 : Int32) : (Int32 × mi_M) → Option ((Int32 × mi_M) ⊕ (mi_M ⊕ mi_M)) := fun s => match s with | (l5, m6) => if (m6.1 9 i0 1) ≤ l5 then some (.inr (.inr m6)) else mi_g (vp_in l5 4) (mi_g (vp_in l5 4) (mi_b (f_X9_costOf i0 p0 (m6.1 45 i0 l5.toNatClampNeg) (m6.1 46 i0 l5.toNatClampNeg) m6) fun v9 m10 => if v9 < (1024 : Int32) then f_X9_leavesNoWalkDark_J43 l5 m10 else if (1048576 : Int32) ≤ v9 then f_X9_leavesNoWalkDark_J43 l5 m10 else some (.inr (.inl m10))))
noncomputable def f_X9_leavesNoWalkDark_K2 : (mi_M ⊕ mi_M) → Option (Int32 × mi_M) := fun e => match e with | (.inl m1) => mi_g ((0 : Int32) = 0 ∨ (0 : Int32) = 1) (some ((0 : Int32), m1)) | (.inr m3) => mi_g ((1 : Int32) = 0 ∨ (1 : Int32) = 1) (some ((1 : Int32), m3))
noncomputable def f_X9_leavesNoWalkDark (i0 : Nat) (p0 : Int32) (mem : mi_M) : Option (Int32 × mi_M) := mi_bo (mi_lp (f_X9_leavesNoWalkDark_B2 i0 p0) mi_fu ((0 : Int32), mem)) (f_X9_leavesNoWalkDark_K2)
set_option maxRecDepth 100000 in
set_option maxHeartbeats 4000000 in
theorem w_X9_leavesNoWalkDark (i0 : Nat) (p0 : Int32) (hi0 : i0 < mi_n 9) (mem : mi_M) (a : Int32 × mi_M) (e : f_X9_leavesNoWalkDark i0 p0 mem = some a) : mi_Ci (4) mX9_leavesNoWalkDark [vr 9 i0, vi p0] mem (fun x m' => x = a.1 ∧ m' = a.2) := by
  unfold mi_Ci
  refine mi_C_intro (ls := [(0, vr 9 i0), (1, vi p0)]) (by decide) rfl rfl ?_
  obtain ⟨Q0, hq0, h⟩ : ∃ Q0 : (Int32 × mi_M) → Prop, (∀ b, Q0 b → b = a) ∧ wo (f_X9_leavesNoWalkDark i0 p0 mem) Q0 := ⟨fun b => b = a, fun _ h => h, wo_eq e⟩
  obtain ⟨QX, hQX⟩ : ∃ QX : Option mi_V → mi_M → Prop, QX = (fun r m' => ∃ x, r = some (vi x) ∧ x = a.1 ∧ m' = a.2) := ⟨_, rfl⟩
  rw [← hQX]
  unfold f_X9_leavesNoWalkDark at h
  refine x_iconst (pc := 0) dX9_leavesNoWalkDark_0 (v := (0 : Int32)) (by decide) ?_
  refine x_istore_n (ls' := [(2, _), (0, _), (1, _)]) (pc := 1) dX9_leavesNoWalkDark_1 rfl rfl rfl ?_
  have k2_0 : ∀ (m1 : mi_M), wo (f_X9_leavesNoWalkDark_K2 (.inl m1)) Q0 → mi_X mX9_leavesNoWalkDark (4) 41 [] [] m1 QX := by
    intro m1 h
    unfold f_X9_leavesNoWalkDark_K2 at h
    try dsimp only at h
    refine x_iconst (pc := 41) dX9_leavesNoWalkDark_41 (v := (0 : Int32)) (by decide) ?_
    obtain ⟨hb2, h⟩ := wo_g h
    exact x_zretB (pc := 42) dX9_leavesNoWalkDark_42 rfl hb2 (by rw [hQX]; exact ⟨_, rfl, congrArg Prod.fst (hq0 _ (wo_some h)), congrArg Prod.snd (hq0 _ (wo_some h))⟩)
  have k2_1 : ∀ (m3 : mi_M), wo (f_X9_leavesNoWalkDark_K2 (.inr m3)) Q0 → mi_X mX9_leavesNoWalkDark (4) 49 [] [] m3 QX := by
    intro m3 h
    unfold f_X9_leavesNoWalkDark_K2 at h
    try dsimp only at h
    refine x_iconst (pc := 49) dX9_leavesNoWalkDark_49 (v := (1 : Int32)) (by decide) ?_
    obtain ⟨hb4, h⟩ := wo_g h
    exact x_zretB (pc := 50) dX9_leavesNoWalkDark_50 rfl hb4 (by rw [hQX]; exact ⟨_, rfl, congrArg Prod.fst (hq0 _ (wo_some h)), congrArg Prod.snd (hq0 _ (wo_some h))⟩)
  refine x_sub [(0, _), (1, _), (2, _)] ⟨rfl, rfl, rfl, trivial⟩ ?_
  obtain ⟨ea, eb, h⟩ := wo_bo h
  refine wo_lq (X := fun s => match s with | (l5, m6) => mi_X mX9_leavesNoWalkDark (4) 2 [(0, vr 9 i0), (1, vi p0), (2, vi l5)] [] m6 QX) (E := fun e => wo (f_X9_leavesNoWalkDark_K2 e) Q0) ?_ _ ((0 : Int32), mem) ⟨_, eb, h⟩
  intro Q2 hb2 he2 s h
  obtain ⟨l5, m6⟩ := s
  show mi_X mX9_leavesNoWalkDark (4) 2 [(0, vr 9 i0), (1, vi p0), (2, vi l5)] [] m6 QX
  unfold f_X9_leavesNoWalkDark_B2 at h
  try dsimp only at h
  refine x_iload_n (pc := 2) dX9_leavesNoWalkDark_2 rfl ?_
  refine x_aload_n (pc := 3) dX9_leavesNoWalkDark_3 rfl ?_
  refine x_getI (pc := 4) dX9_leavesNoWalkDark_4 fX9_30 rfl hi0 ?_
  refine x_icmp_ge (pc := 7) dX9_leavesNoWalkDark_7 (tgt := 49) (by decide) (fun c13 => ?_) (fun c13 => ?_)
  · replace h := wo_pos c13 h
    refine x_sub [] trivial ?_
    exact k2_1 _ (he2 (.inr m6) (wo_some h))
  · replace h := wo_neg c13 h
    refine x_aload_n (pc := 10) dX9_leavesNoWalkDark_10 rfl ?_
    refine x_iload_n (pc := 11) dX9_leavesNoWalkDark_11 rfl ?_
    refine x_aload_n (pc := 12) dX9_leavesNoWalkDark_12 rfl ?_
    refine x_getS (pc := 13) dX9_leavesNoWalkDark_13 fX9_16 rfl hi0 ?_
    refine x_iload_n (pc := 16) dX9_leavesNoWalkDark_16 rfl ?_
    obtain ⟨hx7, h⟩ := wo_g h
    refine x_ialdJ (pc := 17) dX9_leavesNoWalkDark_17 rfl rfl hi0 hx7 ?_
    refine x_aload_n (pc := 18) dX9_leavesNoWalkDark_18 rfl ?_
    refine x_getS (pc := 19) dX9_leavesNoWalkDark_19 fX9_20 rfl hi0 ?_
    refine x_iload_n (pc := 22) dX9_leavesNoWalkDark_22 rfl ?_
    obtain ⟨hx8, h⟩ := wo_g h
    refine x_ialdJ (pc := 23) dX9_leavesNoWalkDark_23 rfl rfl hi0 hx8 ?_
    refine y_Vi3 (pc := 24) h dX9_leavesNoWalkDark_24 lX9_37 hi0 (by omega) rfl (fun a e => w_X9_costOf _ _ _ _ hi0 _ a e) (fun v9 m10 h => ?_)
    refine x_istore_n (ls' := [(3, _), (0, _), (1, _), (2, _)]) (pc := 27) dX9_leavesNoWalkDark_27 rfl rfl rfl ?_
    refine x_iload_n (pc := 28) dX9_leavesNoWalkDark_28 rfl ?_
    refine x_sipush (pc := 29) dX9_leavesNoWalkDark_29 (v := (1024 : Int32)) (by decide) ?_
    have j43 : wo (f_X9_leavesNoWalkDark_J43 l5 m10) Q2 → mi_X mX9_leavesNoWalkDark (4) 43 [(0, vr 9 i0), (1, vi p0), (2, vi l5)] [] m10 QX := by
      intro h
      unfold f_X9_leavesNoWalkDark_J43 at h
      refine x_iinc (ls' := [(2, _), (0, _), (1, _)]) (pc := 43) dX9_leavesNoWalkDark_43 rfl (v := l5 + (1 : Int32)) rfl rfl rfl ?_
      refine x_goto (pc := 46) dX9_leavesNoWalkDark_46 (tgt := 2) (by decide) ?_
      refine x_sub [(0, _), (1, _), (2, _)] ⟨rfl, rfl, rfl, trivial⟩ ?_
      exact hb2 ((l5 + (1 : Int32)), m10) (wo_some h)
    refine x_icmp_lt (pc := 32) dX9_leavesNoWalkDark_32 (tgt := 43) (by decide) (fun c12 => ?_) (fun c12 => ?_)
    · replace h := wo_pos c12 h
      refine x_sub [(0, _), (1, _), (2, _)] ⟨rfl, rfl, rfl, trivial⟩ ?_
      exact j43 h
    · replace h := wo_neg c12 h
      refine x_iload_n (pc := 35) dX9_leavesNoWalkDark_35 rfl ?_
      refine x_ldc (pc := 36) dX9_leavesNoWalkDark_36 kX9_41 ?_
      refine x_icmp_ge (pc := 38) dX9_leavesNoWalkDark_38 (tgt := 43) (by decide) (fun c11 => ?_) (fun c11 => ?_)
      · replace h := wo_pos c11 h
        refine x_sub [(0, _), (1, _), (2, _)] ⟨rfl, rfl, rfl, trivial⟩ ?_
        exact j43 h
      · replace h := wo_neg c11 h
        refine x_sub [] trivial ?_
        exact k2_0 _ (he2 (.inl m10) (wo_some h))
noncomputable def f_X9_fewestLamps_J36 (l5 : Int32) (u9 : Int32) (m10 : mi_M) : Option ((Int32 × Int32 × mi_M) ⊕ (Int32 × mi_M)) := some (.inl (u9, (l5 + (1 : Int32)), m10))
noncomputable def f_X9_fewestLamps_B8 (i0 : Nat) (p0 : Int32) : (Int32 × Int32 × mi_M) → Option ((Int32 × Int32 × mi_M) ⊕ (Int32 × mi_M)) := fun s => match s with | (l4, l5, m6) => if ((1 : Int32) <<< (p0 &&& 31)) ≤ l5 then some (.inr (l4, m6)) else mi_bo (f_J6_bitCount_0f7a4 l5 m6) fun v7 => mi_bo (f_J6_bitCount_0f7a4 l4 m6) fun v8 => if v8 ≤ v7 then f_X9_fewestLamps_J36 l5 l4 m6 else mi_b (f_X9_leavesNoWalkDark i0 l5 m6) fun v11 m12 => if v11 = 0 then f_X9_fewestLamps_J36 l5 l4 m12 else f_X9_fewestLamps_J36 l5 l5 m12
noncomputable def f_X9_fewestLamps_K8 : (Int32 × mi_M) → Option (Int32 × mi_M) := fun e => match e with | (e2, m3) => some (e2, m3)
noncomputable def f_X9_fewestLamps (i0 : Nat) (p0 : Int32) (mem : mi_M) : Option (Int32 × mi_M) := mi_let (((1 : Int32) <<< (p0 &&& 31)) - (1 : Int32)) fun v1 => mi_bo (mi_lp (f_X9_fewestLamps_B8 i0 p0) mi_fu (v1, (0 : Int32), mem)) (f_X9_fewestLamps_K8)
set_option maxRecDepth 100000 in
set_option maxHeartbeats 4000000 in
theorem w_X9_fewestLamps (i0 : Nat) (p0 : Int32) (hi0 : i0 < mi_n 9) (mem : mi_M) (a : Int32 × mi_M) (e : f_X9_fewestLamps i0 p0 mem = some a) : mi_Ci (5) mX9_fewestLamps [vr 9 i0, vi p0] mem (fun x m' => x = a.1 ∧ m' = a.2) := by
  unfold mi_Ci
  refine mi_C_intro (ls := [(0, vr 9 i0), (1, vi p0)]) (by decide) rfl rfl ?_
  obtain ⟨Q0, hq0, h⟩ : ∃ Q0 : (Int32 × mi_M) → Prop, (∀ b, Q0 b → b = a) ∧ wo (f_X9_fewestLamps i0 p0 mem) Q0 := ⟨fun b => b = a, fun _ h => h, wo_eq e⟩
  obtain ⟨QX, hQX⟩ : ∃ QX : Option mi_V → mi_M → Prop, QX = (fun r m' => ∃ x, r = some (vi x) ∧ x = a.1 ∧ m' = a.2) := ⟨_, rfl⟩
  rw [← hQX]
  unfold f_X9_fewestLamps at h
  refine x_iconst (pc := 0) dX9_fewestLamps_0 (v := (1 : Int32)) (by decide) ?_
  refine x_iload_n (pc := 1) dX9_fewestLamps_1 rfl ?_
  refine x_ishl (pc := 2) dX9_fewestLamps_2 ?_
  refine x_iconst (pc := 3) dX9_fewestLamps_3 (v := (1 : Int32)) (by decide) ?_
  refine x_isub (pc := 4) dX9_fewestLamps_4 ?_
  refine x_leti h (fun v1 h => ?_)
  refine x_istore_n (ls' := [(2, _), (0, _), (1, _)]) (pc := 5) dX9_fewestLamps_5 rfl rfl rfl ?_
  refine x_iconst (pc := 6) dX9_fewestLamps_6 (v := (0 : Int32)) (by decide) ?_
  refine x_istore_n (ls' := [(3, _), (2, _), (0, _), (1, _)]) (pc := 7) dX9_fewestLamps_7 rfl rfl rfl ?_
  have k8_0 : ∀ (e2 : Int32) (m3 : mi_M), wo (f_X9_fewestLamps_K8 (e2, m3)) Q0 → mi_X mX9_fewestLamps (5) 42 [(2, vi e2)] [] m3 QX := by
    intro e2 m3 h
    unfold f_X9_fewestLamps_K8 at h
    try dsimp only at h
    refine x_iload_n (pc := 42) dX9_fewestLamps_42 rfl ?_
    exact x_iret (pc := 43) dX9_fewestLamps_43 rfl (by rw [hQX]; exact ⟨_, rfl, congrArg Prod.fst (hq0 _ (wo_some h)), congrArg Prod.snd (hq0 _ (wo_some h))⟩)
  refine x_sub [(0, _), (1, _), (2, _), (3, _)] ⟨rfl, rfl, rfl, rfl, trivial⟩ ?_
  obtain ⟨ea, eb, h⟩ := wo_bo h
  refine wo_lq (X := fun s => match s with | (l4, l5, m6) => mi_X mX9_fewestLamps (5) 8 [(0, vr 9 i0), (1, vi p0), (2, vi l4), (3, vi l5)] [] m6 QX) (E := fun e => wo (f_X9_fewestLamps_K8 e) Q0) ?_ _ (v1, (0 : Int32), mem) ⟨_, eb, h⟩
  intro Q8 hb8 he8 s h
  obtain ⟨l4, l5, m6⟩ := s
  show mi_X mX9_fewestLamps (5) 8 [(0, vr 9 i0), (1, vi p0), (2, vi l4), (3, vi l5)] [] m6 QX
  unfold f_X9_fewestLamps_B8 at h
  try dsimp only at h
  refine x_iload_n (pc := 8) dX9_fewestLamps_8 rfl ?_
  refine x_iconst (pc := 9) dX9_fewestLamps_9 (v := (1 : Int32)) (by decide) ?_
  refine x_iload_n (pc := 10) dX9_fewestLamps_10 rfl ?_
  refine x_ishl (pc := 11) dX9_fewestLamps_11 ?_
  refine x_icmp_ge (pc := 12) dX9_fewestLamps_12 (tgt := 42) (by decide) (fun c15 => ?_) (fun c15 => ?_)
  · replace h := wo_pos c15 h
    refine x_sub [(2, _)] ⟨rfl, trivial⟩ ?_
    exact k8_0 _ _ (he8 (l4, m6) (wo_some h))
  · replace h := wo_neg c15 h
    refine x_iload_n (pc := 15) dX9_fewestLamps_15 rfl ?_
    refine z_Si1 (pc := 16) h dX9_fewestLamps_16 lX9_49 (by omega) rfl (fun a e => w_J6_bitCount_0f7a4 _ _ a e) (fun v7 h => ?_)
    refine x_iload_n (pc := 19) dX9_fewestLamps_19 rfl ?_
    refine z_Si1 (pc := 20) h dX9_fewestLamps_20 lX9_49 (by omega) rfl (fun a e => w_J6_bitCount_0f7a4 _ _ a e) (fun v8 h => ?_)
    have j36 : ∀ (u9 : Int32) (m10 : mi_M), wo (f_X9_fewestLamps_J36 l5 u9 m10) Q8 → mi_X mX9_fewestLamps (5) 36 [(0, vr 9 i0), (1, vi p0), (2, vi u9), (3, vi l5)] [] m10 QX := by
      intro u9 m10 h
      unfold f_X9_fewestLamps_J36 at h
      refine x_iinc (ls' := [(3, _), (0, _), (1, _), (2, _)]) (pc := 36) dX9_fewestLamps_36 rfl (v := l5 + (1 : Int32)) rfl rfl rfl ?_
      refine x_goto (pc := 39) dX9_fewestLamps_39 (tgt := 8) (by decide) ?_
      refine x_sub [(0, _), (1, _), (2, _), (3, _)] ⟨rfl, rfl, rfl, rfl, trivial⟩ ?_
      exact hb8 (u9, (l5 + (1 : Int32)), m10) (wo_some h)
    refine x_icmp_ge (pc := 23) dX9_fewestLamps_23 (tgt := 36) (by decide) (fun c14 => ?_) (fun c14 => ?_)
    · replace h := wo_pos c14 h
      refine x_sub [(0, _), (1, _), (2, _), (3, _)] ⟨rfl, rfl, rfl, rfl, trivial⟩ ?_
      exact j36 _ _ h
    · replace h := wo_neg c14 h
      refine x_aload_n (pc := 26) dX9_fewestLamps_26 rfl ?_
      refine x_iload_n (pc := 27) dX9_fewestLamps_27 rfl ?_
      refine y_Vi1 (pc := 28) h dX9_fewestLamps_28 lX9_54 hi0 (by omega) rfl (fun a e => w_X9_leavesNoWalkDark _ _ hi0 _ a e) (fun v11 m12 h => ?_)
      refine x_if_eq (pc := 31) dX9_fewestLamps_31 (tgt := 36) (by decide) (fun c13 => ?_) (fun c13 => ?_)
      · replace h := wo_pos c13 h
        refine x_sub [(0, _), (1, _), (2, _), (3, _)] ⟨rfl, rfl, rfl, rfl, trivial⟩ ?_
        exact j36 _ _ h
      · replace h := wo_neg c13 h
        refine x_iload_n (pc := 34) dX9_fewestLamps_34 rfl ?_
        refine x_istore_n (ls' := [(2, _), (0, _), (1, _), (3, _)]) (pc := 35) dX9_fewestLamps_35 rfl rfl rfl ?_
        refine x_sub [(0, _), (1, _), (2, _), (3, _)] ⟨rfl, rfl, rfl, rfl, trivial⟩ ?_
        exact j36 _ _ h
noncomputable def f_X11_need (mem : mi_M) : Option (Int32 × mi_M) := mi_g (mem.2.2 0 < mi_n 8) (mi_g (mem.2.2 0 < mi_n 8) (mi_b (f_X9_fewestLamps (mem.2.2 0) (mem.1 8 (mem.2.2 0) 0) mem) fun v3 m4 => some (v3, m4)))
set_option maxRecDepth 100000 in
set_option maxHeartbeats 4000000 in
theorem w_X11_need (mem : mi_M) (a : Int32 × mi_M) (e : f_X11_need  mem = some a) : mi_Ci (6) mX11_need [vr 11 0] mem (fun x m' => x = a.1 ∧ m' = a.2) := by
  unfold mi_Ci
  refine mi_C_intro (ls := [(0, vr 11 0)]) (by decide) rfl rfl ?_
  obtain ⟨Q0, hq0, h⟩ : ∃ Q0 : (Int32 × mi_M) → Prop, (∀ b, Q0 b → b = a) ∧ wo (f_X11_need  mem) Q0 := ⟨fun b => b = a, fun _ h => h, wo_eq e⟩
  obtain ⟨QX, hQX⟩ : ∃ QX : Option mi_V → mi_M → Prop, QX = (fun r m' => ∃ x, r = some (vi x) ∧ x = a.1 ∧ m' = a.2) := ⟨_, rfl⟩
  rw [← hQX]
  unfold f_X11_need at h
  refine x_aload_n (pc := 0) dX11_need_0 rfl ?_
  obtain ⟨hm1, h⟩ := wo_g h
  refine x_getM (pc := 1) dX11_need_1 fX11_54 rfl (by decide) ?_
  refine x_getS (pc := 4) dX11_need_4 fX11_159 rfl hm1 ?_
  refine x_aload_n (pc := 7) dX11_need_7 rfl ?_
  obtain ⟨hm2, h⟩ := wo_g h
  refine x_getM (pc := 8) dX11_need_8 fX11_54 rfl (by decide) ?_
  refine x_getI (pc := 11) dX11_need_11 fX11_228 rfl hm2 ?_
  refine y_Vi1 (pc := 14) h dX11_need_14 lX11_242 hm1 (by omega) rfl (fun a e => w_X9_fewestLamps _ _ hm1 _ a e) (fun v3 m4 h => ?_)
  exact x_iret (pc := 17) dX11_need_17 rfl (by rw [hQX]; exact ⟨_, rfl, congrArg Prod.fst (hq0 _ (wo_some h)), congrArg Prod.snd (hq0 _ (wo_some h))⟩)
noncomputable def f_X11_night (mem : mi_M) : Option (Int32 × mi_M) := mi_let (mem.1 5 0 1) fun v1 => mi_bo (f_X3_keep 0 mem) fun m2 => mi_g (m2.2.2 0 < mi_n 8) (mi_bo (f_X5_sleep 0 (m2.2.2 0) m2) fun m4 => some (((m4.1 5 0 1) - v1), m4))
set_option maxRecDepth 100000 in
set_option maxHeartbeats 4000000 in
theorem w_X11_night (mem : mi_M) (a : Int32 × mi_M) (e : f_X11_night  mem = some a) : mi_Ci (6) mX11_night [vr 11 0] mem (fun x m' => x = a.1 ∧ m' = a.2) := by
  unfold mi_Ci
  refine mi_C_intro (ls := [(0, vr 11 0)]) (by decide) rfl rfl ?_
  obtain ⟨Q0, hq0, h⟩ : ∃ Q0 : (Int32 × mi_M) → Prop, (∀ b, Q0 b → b = a) ∧ wo (f_X11_night  mem) Q0 := ⟨fun b => b = a, fun _ h => h, wo_eq e⟩
  obtain ⟨QX, hQX⟩ : ∃ QX : Option mi_V → mi_M → Prop, QX = (fun r m' => ∃ x, r = some (vi x) ∧ x = a.1 ∧ m' = a.2) := ⟨_, rfl⟩
  rw [← hQX]
  unfold f_X11_night at h
  refine x_aload_n (pc := 0) dX11_night_0 rfl ?_
  refine x_getC (pc := 1) dX11_night_1 fX11_19 rfl (by decide) ?_
  refine x_getI (pc := 4) dX11_night_4 fX11_184 rfl (by decide) ?_
  refine x_leti h (fun v1 h => ?_)
  refine x_istore_n (ls' := [(1, _), (0, _)]) (pc := 7) dX11_night_7 rfl rfl rfl ?_
  refine x_aload_n (pc := 8) dX11_night_8 rfl ?_
  refine x_getC (pc := 9) dX11_night_9 fX11_26 rfl (by decide) ?_
  refine x_aload_n (pc := 12) dX11_night_12 rfl ?_
  refine x_getC (pc := 13) dX11_night_13 fX11_19 rfl (by decide) ?_
  refine y_Vv1 (pc := 16) h dX11_night_16 lX11_187 (by decide) (by omega) rfl (fun a e => w_X3_keep _ (by decide) _ a e) (fun m2 h => ?_)
  refine x_aload_n (pc := 19) dX11_night_19 rfl ?_
  refine x_getC (pc := 20) dX11_night_20 fX11_19 rfl (by decide) ?_
  refine x_aload_n (pc := 23) dX11_night_23 rfl ?_
  obtain ⟨hm3, h⟩ := wo_g h
  refine x_getM (pc := 24) dX11_night_24 fX11_54 rfl (by decide) ?_
  refine y_Vv1 (pc := 27) h dX11_night_27 lX11_191 (by decide) (by omega) rfl (fun a e => w_X5_sleep _ _ (by decide) hm3 _ a e) (fun m4 h => ?_)
  refine x_aload_n (pc := 30) dX11_night_30 rfl ?_
  refine x_getC (pc := 31) dX11_night_31 fX11_19 rfl (by decide) ?_
  refine x_getI (pc := 34) dX11_night_34 fX11_184 rfl (by decide) ?_
  refine x_iload_n (pc := 37) dX11_night_37 rfl ?_
  refine x_isub (pc := 38) dX11_night_38 ?_
  exact x_iret (pc := 39) dX11_night_39 rfl (by rw [hQX]; exact ⟨_, rfl, congrArg Prod.fst (hq0 _ (wo_some h)), congrArg Prod.snd (hq0 _ (wo_some h))⟩)
noncomputable def f_X2_areAfforded_B78 (p0 : Nat) (p1 : Nat) (m2 : mi_M) : Int32 → Option ((Int32) ⊕ (Unit ⊕ Unit)) := fun l5 => if (m2.1 8 p0 0) ≤ l5 then some (.inr (.inr ())) else mi_g (vp_in l5 6) (mi_g (vp_in l5 6) (if (m2.1 22 0 l5.toNatClampNeg) ≤ (m2.1 36 p1 l5.toNatClampNeg) then some (.inl (l5 + (1 : Int32))) else some (.inr (.inl ()))))
noncomputable def f_X2_areAfforded_K78 (m2 : mi_M) : (Unit ⊕ Unit) → Option (Int32 × mi_M) := fun e => match e with | (.inl ()) => mi_g ((0 : Int32) = 0 ∨ (0 : Int32) = 1) (some ((0 : Int32), m2)) | (.inr ()) => mi_g ((1 : Int32) = 0 ∨ (1 : Int32) = 1) (some ((1 : Int32), m2))
noncomputable def f_X2_areAfforded_J69 (l10 : Int32) (m13 : mi_M) : Option ((Int32 × mi_M) ⊕ (mi_M)) := some (.inl ((l10 + (1 : Int32)), m13))
noncomputable def f_X2_areAfforded_B29 (p0 : Nat) (p2 : Int32) : (Int32 × mi_M) → Option ((Int32 × mi_M) ⊕ (mi_M)) := fun s => match s with | (l10, m11) => if (m11.1 8 p0 1) ≤ l10 then some (.inr m11) else mi_bo (f_X11_holds p2 l10 m11) fun v12 => if v12 = 0 then f_X2_areAfforded_J69 l10 m11 else mi_g (vp_in l10 8) (mi_g (vp_in (m11.1 41 p0 l10.toNatClampNeg) 6) (mi_g (vp_in l10 8) (mi_g (vp_in (m11.1 41 p0 l10.toNatClampNeg) 6) (mi_let (mi_wI m11 22 0 (m11.1 41 p0 l10.toNatClampNeg).toNatClampNeg ((m11.1 22 0 (m11.1 41 p0 l10.toNatClampNeg).toNatClampNeg) + (m11.1 20 0 l10.toNatClampNeg))) fun m18 => f_X2_areAfforded_J69 l10 m18))))
noncomputable def f_X2_areAfforded_K29 (p0 : Nat) (p1 : Nat) : mi_M → Option (Int32 × mi_M) := fun m2 => mi_bo (mi_lp (f_X2_areAfforded_B78 p0 p1 m2) mi_fu (0 : Int32)) (f_X2_areAfforded_K78 m2)
noncomputable def f_X2_areAfforded_B3 (p0 : Nat) : (Int32 × mi_M) → Option ((Int32 × mi_M) ⊕ (mi_M)) := fun s => match s with | (l21, m22) => if (m22.1 8 p0 0) ≤ l21 then some (.inr m22) else mi_g (vp_in l21 6) (mi_let (mi_wI m22 22 0 l21.toNatClampNeg (0 : Int32)) fun m24 => some (.inl ((l21 + (1 : Int32)), m24)))
noncomputable def f_X2_areAfforded_K3 (p0 : Nat) (p1 : Nat) (p2 : Int32) : mi_M → Option (Int32 × mi_M) := fun m1 => mi_bo (mi_lp (f_X2_areAfforded_B29 p0 p2) mi_fu ((0 : Int32), m1)) (f_X2_areAfforded_K29 p0 p1)
noncomputable def f_X2_areAfforded (p0 : Nat) (p1 : Nat) (p2 : Int32) (mem : mi_M) : Option (Int32 × mi_M) := mi_bo (mi_lp (f_X2_areAfforded_B3 p0) mi_fu ((0 : Int32), mem)) (f_X2_areAfforded_K3 p0 p1 p2)
set_option maxRecDepth 100000 in
set_option maxHeartbeats 4000000 in
theorem w_X2_areAfforded (p0 : Nat) (p1 : Nat) (p2 : Int32) (hp0 : p0 < mi_n 8) (hp1 : p1 < mi_n 5) (mem : mi_M) (a : Int32 × mi_M) (e : f_X2_areAfforded p0 p1 p2 mem = some a) : mi_Ci (2) mX2_areAfforded [vr 2 0, vr 8 p0, vr 5 p1, vi p2] mem (fun x m' => x = a.1 ∧ m' = a.2) := by
  unfold mi_Ci
  refine mi_C_intro (ls := [(0, vr 2 0), (1, vr 8 p0), (2, vr 5 p1), (3, vi p2)]) (by decide) rfl rfl ?_
  obtain ⟨Q0, hq0, h⟩ : ∃ Q0 : (Int32 × mi_M) → Prop, (∀ b, Q0 b → b = a) ∧ wo (f_X2_areAfforded p0 p1 p2 mem) Q0 := ⟨fun b => b = a, fun _ h => h, wo_eq e⟩
  obtain ⟨QX, hQX⟩ : ∃ QX : Option mi_V → mi_M → Prop, QX = (fun r m' => ∃ x, r = some (vi x) ∧ x = a.1 ∧ m' = a.2) := ⟨_, rfl⟩
  rw [← hQX]
  unfold f_X2_areAfforded at h
  refine x_iconst (pc := 0) dX2_areAfforded_0 (v := (0 : Int32)) (by decide) ?_
  refine x_istore (ls' := [(4, _), (0, _), (1, _), (2, _), (3, _)]) (pc := 1) dX2_areAfforded_1 rfl rfl ?_
  have k3_0 : ∀ (m1 : mi_M), wo (f_X2_areAfforded_K3 p0 p1 p2 m1) Q0 → mi_X mX2_areAfforded (2) 26 [(0, vr 2 0), (1, vr 8 p0), (2, vr 5 p1), (3, vi p2)] [] m1 QX := by
    intro m1 h
    unfold f_X2_areAfforded_K3 at h
    try dsimp only at h
    refine x_iconst (pc := 26) dX2_areAfforded_26 (v := (0 : Int32)) (by decide) ?_
    refine x_istore (ls' := [(4, _), (0, _), (1, _), (2, _), (3, _)]) (pc := 27) dX2_areAfforded_27 rfl rfl ?_
    have k29_0 : ∀ (m2 : mi_M), wo (f_X2_areAfforded_K29 p0 p1 m2) Q0 → mi_X mX2_areAfforded (2) 75 [(0, vr 2 0), (1, vr 8 p0), (2, vr 5 p1)] [] m2 QX := by
      intro m2 h
      unfold f_X2_areAfforded_K29 at h
      try dsimp only at h
      refine x_iconst (pc := 75) dX2_areAfforded_75 (v := (0 : Int32)) (by decide) ?_
      refine x_istore (ls' := [(4, _), (0, _), (1, _), (2, _)]) (pc := 76) dX2_areAfforded_76 rfl rfl ?_
      have k78_0 : ∀ (_ : Unit), wo (f_X2_areAfforded_K78 m2 (.inl ())) Q0 → mi_X mX2_areAfforded (2) 104 [] [] m2 QX := by
        intro _ h
        unfold f_X2_areAfforded_K78 at h
        try dsimp only at h
        refine x_iconst (pc := 104) dX2_areAfforded_104 (v := (0 : Int32)) (by decide) ?_
        obtain ⟨hb3, h⟩ := wo_g h
        exact x_zretB (pc := 105) dX2_areAfforded_105 rfl hb3 (by rw [hQX]; exact ⟨_, rfl, congrArg Prod.fst (hq0 _ (wo_some h)), congrArg Prod.snd (hq0 _ (wo_some h))⟩)
      have k78_1 : ∀ (_ : Unit), wo (f_X2_areAfforded_K78 m2 (.inr ())) Q0 → mi_X mX2_areAfforded (2) 112 [] [] m2 QX := by
        intro _ h
        unfold f_X2_areAfforded_K78 at h
        try dsimp only at h
        refine x_iconst (pc := 112) dX2_areAfforded_112 (v := (1 : Int32)) (by decide) ?_
        obtain ⟨hb4, h⟩ := wo_g h
        exact x_zretB (pc := 113) dX2_areAfforded_113 rfl hb4 (by rw [hQX]; exact ⟨_, rfl, congrArg Prod.fst (hq0 _ (wo_some h)), congrArg Prod.snd (hq0 _ (wo_some h))⟩)
      refine x_sub [(0, _), (1, _), (2, _), (4, _)] ⟨rfl, rfl, rfl, rfl, trivial⟩ ?_
      obtain ⟨ea, eb, h⟩ := wo_bo h
      refine wo_lq (X := fun l5 => mi_X mX2_areAfforded (2) 78 [(0, vr 2 0), (1, vr 8 p0), (2, vr 5 p1), (4, vi l5)] [] m2 QX) (E := fun e => wo (f_X2_areAfforded_K78 m2 e) Q0) ?_ _ (0 : Int32) ⟨_, eb, h⟩
      intro Q78 hb78 he78 s h
      obtain ⟨l5, rfl⟩ : ∃ z, z = s := ⟨_, rfl⟩
      show mi_X mX2_areAfforded (2) 78 [(0, vr 2 0), (1, vr 8 p0), (2, vr 5 p1), (4, vi l5)] [] m2 QX
      unfold f_X2_areAfforded_B78 at h
      try dsimp only at h
      refine x_iload (pc := 78) dX2_areAfforded_78 rfl ?_
      refine x_aload_n (pc := 80) dX2_areAfforded_80 rfl ?_
      refine x_getI (pc := 81) dX2_areAfforded_81 fX2_93 rfl hp0 ?_
      refine x_icmp_ge (pc := 84) dX2_areAfforded_84 (tgt := 112) (by decide) (fun c9 => ?_) (fun c9 => ?_)
      · replace h := wo_pos c9 h
        refine x_sub [] trivial ?_
        exact k78_1 () (he78 (.inr ()) (wo_some h))
      · replace h := wo_neg c9 h
        refine x_aload_n (pc := 87) dX2_areAfforded_87 rfl ?_
        refine x_getS (pc := 88) dX2_areAfforded_88 fX2_18 rfl (by decide) ?_
        refine x_iload (pc := 91) dX2_areAfforded_91 rfl ?_
        obtain ⟨hx6, h⟩ := wo_g h
        refine x_ialdJ (pc := 93) dX2_areAfforded_93 rfl rfl (by decide) hx6 ?_
        refine x_aload_n (pc := 94) dX2_areAfforded_94 rfl ?_
        refine x_getS (pc := 95) dX2_areAfforded_95 fX2_103 rfl hp1 ?_
        refine x_iload (pc := 98) dX2_areAfforded_98 rfl ?_
        obtain ⟨hx7, h⟩ := wo_g h
        refine x_ialdJ (pc := 100) dX2_areAfforded_100 rfl rfl hp1 hx7 ?_
        refine x_icmp_le (pc := 101) dX2_areAfforded_101 (tgt := 106) (by decide) (fun c8 => ?_) (fun c8 => ?_)
        · replace h := wo_pos c8 h
          refine x_iinc (ls' := [(4, _), (0, _), (1, _), (2, _)]) (pc := 106) dX2_areAfforded_106 rfl (v := l5 + (1 : Int32)) rfl rfl rfl ?_
          refine x_goto (pc := 109) dX2_areAfforded_109 (tgt := 78) (by decide) ?_
          refine x_sub [(0, _), (1, _), (2, _), (4, _)] ⟨rfl, rfl, rfl, rfl, trivial⟩ ?_
          exact hb78 (l5 + (1 : Int32)) (wo_some h)
        · replace h := wo_neg c8 h
          refine x_sub [] trivial ?_
          exact k78_0 () (he78 (.inl ()) (wo_some h))
    refine x_sub [(0, _), (1, _), (2, _), (3, _), (4, _)] ⟨rfl, rfl, rfl, rfl, rfl, trivial⟩ ?_
    obtain ⟨ea, eb, h⟩ := wo_bo h
    refine wo_lq (X := fun s => match s with | (l10, m11) => mi_X mX2_areAfforded (2) 29 [(0, vr 2 0), (1, vr 8 p0), (2, vr 5 p1), (3, vi p2), (4, vi l10)] [] m11 QX) (E := fun e => wo (f_X2_areAfforded_K29 p0 p1 e) Q0) ?_ _ ((0 : Int32), m1) ⟨_, eb, h⟩
    intro Q29 hb29 he29 s h
    obtain ⟨l10, m11⟩ := s
    show mi_X mX2_areAfforded (2) 29 [(0, vr 2 0), (1, vr 8 p0), (2, vr 5 p1), (3, vi p2), (4, vi l10)] [] m11 QX
    unfold f_X2_areAfforded_B29 at h
    try dsimp only at h
    refine x_iload (pc := 29) dX2_areAfforded_29 rfl ?_
    refine x_aload_n (pc := 31) dX2_areAfforded_31 rfl ?_
    refine x_getI (pc := 32) dX2_areAfforded_32 fX2_40 rfl hp0 ?_
    refine x_icmp_ge (pc := 35) dX2_areAfforded_35 (tgt := 75) (by decide) (fun c20 => ?_) (fun c20 => ?_)
    · replace h := wo_pos c20 h
      refine x_sub [(0, _), (1, _), (2, _)] ⟨rfl, rfl, rfl, trivial⟩ ?_
      exact k29_0 _ (he29 m11 (wo_some h))
    · replace h := wo_neg c20 h
      refine x_iload_n (pc := 38) dX2_areAfforded_38 rfl ?_
      refine x_iload (pc := 39) dX2_areAfforded_39 rfl ?_
      refine z_Ni2 (pc := 41) h dX2_areAfforded_41 nX2_96 (by omega) rfl (fun a e => w_X11_holds _ _ _ a e) (fun v12 h => ?_)
      have j69 : ∀ (m13 : mi_M), wo (f_X2_areAfforded_J69 l10 m13) Q29 → mi_X mX2_areAfforded (2) 69 [(0, vr 2 0), (1, vr 8 p0), (2, vr 5 p1), (3, vi p2), (4, vi l10)] [] m13 QX := by
        intro m13 h
        unfold f_X2_areAfforded_J69 at h
        refine x_iinc (ls' := [(4, _), (0, _), (1, _), (2, _), (3, _)]) (pc := 69) dX2_areAfforded_69 rfl (v := l10 + (1 : Int32)) rfl rfl rfl ?_
        refine x_goto (pc := 72) dX2_areAfforded_72 (tgt := 29) (by decide) ?_
        refine x_sub [(0, _), (1, _), (2, _), (3, _), (4, _)] ⟨rfl, rfl, rfl, rfl, rfl, trivial⟩ ?_
        exact hb29 ((l10 + (1 : Int32)), m13) (wo_some h)
      refine x_if_eq (pc := 44) dX2_areAfforded_44 (tgt := 69) (by decide) (fun c19 => ?_) (fun c19 => ?_)
      · replace h := wo_pos c19 h
        refine x_sub [(0, _), (1, _), (2, _), (3, _), (4, _)] ⟨rfl, rfl, rfl, rfl, rfl, trivial⟩ ?_
        exact j69 _ h
      · replace h := wo_neg c19 h
        refine x_aload_n (pc := 47) dX2_areAfforded_47 rfl ?_
        refine x_getS (pc := 48) dX2_areAfforded_48 fX2_18 rfl (by decide) ?_
        refine x_aload_n (pc := 51) dX2_areAfforded_51 rfl ?_
        refine x_getS (pc := 52) dX2_areAfforded_52 fX2_100 rfl hp0 ?_
        refine x_iload (pc := 55) dX2_areAfforded_55 rfl ?_
        obtain ⟨hx14, h⟩ := wo_g h
        refine x_ialdJ (pc := 57) dX2_areAfforded_57 rfl rfl hp0 hx14 ?_
        refine x_dup2 (pc := 58) dX2_areAfforded_58 rfl rfl ?_
        obtain ⟨hx15, h⟩ := wo_g h
        refine x_ialdJ (pc := 59) dX2_areAfforded_59 rfl rfl (by decide) hx15 ?_
        refine x_aload_n (pc := 60) dX2_areAfforded_60 rfl ?_
        refine x_getS (pc := 61) dX2_areAfforded_61 fX2_9 rfl (by decide) ?_
        refine x_iload (pc := 64) dX2_areAfforded_64 rfl ?_
        obtain ⟨hx16, h⟩ := wo_g h
        refine x_ialdJ (pc := 66) dX2_areAfforded_66 rfl rfl (by decide) hx16 ?_
        refine x_iadd (pc := 67) dX2_areAfforded_67 ?_
        obtain ⟨hx17, h⟩ := wo_g h
        refine x_iastJ (pc := 68) dX2_areAfforded_68 rfl rfl (by decide) rfl hx17 ?_
        refine x_letm h (fun m18 h => ?_)
        refine x_sub [(0, _), (1, _), (2, _), (3, _), (4, _)] ⟨rfl, rfl, rfl, rfl, rfl, trivial⟩ ?_
        exact j69 _ h
  refine x_sub [(0, _), (1, _), (2, _), (3, _), (4, _)] ⟨rfl, rfl, rfl, rfl, rfl, trivial⟩ ?_
  obtain ⟨ea, eb, h⟩ := wo_bo h
  refine wo_lq (X := fun s => match s with | (l21, m22) => mi_X mX2_areAfforded (2) 3 [(0, vr 2 0), (1, vr 8 p0), (2, vr 5 p1), (3, vi p2), (4, vi l21)] [] m22 QX) (E := fun e => wo (f_X2_areAfforded_K3 p0 p1 p2 e) Q0) ?_ _ ((0 : Int32), mem) ⟨_, eb, h⟩
  intro Q3 hb3 he3 s h
  obtain ⟨l21, m22⟩ := s
  show mi_X mX2_areAfforded (2) 3 [(0, vr 2 0), (1, vr 8 p0), (2, vr 5 p1), (3, vi p2), (4, vi l21)] [] m22 QX
  unfold f_X2_areAfforded_B3 at h
  try dsimp only at h
  refine x_iload (pc := 3) dX2_areAfforded_3 rfl ?_
  refine x_aload_n (pc := 5) dX2_areAfforded_5 rfl ?_
  refine x_getI (pc := 6) dX2_areAfforded_6 fX2_93 rfl hp0 ?_
  refine x_icmp_ge (pc := 9) dX2_areAfforded_9 (tgt := 26) (by decide) (fun c25 => ?_) (fun c25 => ?_)
  · replace h := wo_pos c25 h
    refine x_sub [(0, _), (1, _), (2, _), (3, _)] ⟨rfl, rfl, rfl, rfl, trivial⟩ ?_
    exact k3_0 _ (he3 m22 (wo_some h))
  · replace h := wo_neg c25 h
    refine x_aload_n (pc := 12) dX2_areAfforded_12 rfl ?_
    refine x_getS (pc := 13) dX2_areAfforded_13 fX2_18 rfl (by decide) ?_
    refine x_iload (pc := 16) dX2_areAfforded_16 rfl ?_
    refine x_iconst (pc := 18) dX2_areAfforded_18 (v := (0 : Int32)) (by decide) ?_
    obtain ⟨hx23, h⟩ := wo_g h
    refine x_iastJ (pc := 19) dX2_areAfforded_19 rfl rfl (by decide) rfl hx23 ?_
    refine x_letm h (fun m24 h => ?_)
    refine x_iinc (ls' := [(4, _), (0, _), (1, _), (2, _), (3, _)]) (pc := 20) dX2_areAfforded_20 rfl (v := l21 + (1 : Int32)) rfl rfl rfl ?_
    refine x_goto (pc := 23) dX2_areAfforded_23 (tgt := 3) (by decide) ?_
    refine x_sub [(0, _), (1, _), (2, _), (3, _), (4, _)] ⟨rfl, rfl, rfl, rfl, rfl, trivial⟩ ?_
    exact hb3 ((l21 + (1 : Int32)), m24) (wo_some h)
noncomputable def f_X2_burningBy_J52 (l4 : Int32) (u6 : Int32) : Option ((Int32 × Int32) ⊕ (Int32)) := some (.inl (u6, (l4 + (1 : Int32))))
noncomputable def f_X2_burningBy_B10 (p0 : Nat) (p2 : Int32) (mem : mi_M) : (Int32 × Int32) → Option ((Int32 × Int32) ⊕ (Int32)) := fun s => match s with | (l3, l4) => if (mem.1 8 p0 1) ≤ l4 then some (.inr l3) else mi_bo (f_X11_holds p2 l4 mem) fun v5 => if v5 = 0 then f_X2_burningBy_J52 l4 l3 else mi_g (vp_in l4 8) (if (mem.1 21 0 l4.toNatClampNeg) ≤ 0 then f_X2_burningBy_J52 l4 l3 else mi_g (vp_in l4 8) (mi_let (l3 ||| ((1 : Int32) <<< ((mem.1 42 p0 l4.toNatClampNeg) &&& 31))) fun v9 => f_X2_burningBy_J52 l4 v9))
noncomputable def f_X2_burningBy_K10 : Int32 → Option (Int32) := fun e2 => some e2
noncomputable def f_X2_burningBy (p0 : Nat) (p1 : Nat) (p2 : Int32) (mem : mi_M) : Option (Int32) := mi_bo (f_X5_burningBehind p1 (0 : Int32) mem) fun v1 => mi_bo (mi_lp (f_X2_burningBy_B10 p0 p2 mem) mi_fu (v1, (0 : Int32))) (f_X2_burningBy_K10)
set_option maxRecDepth 100000 in
set_option maxHeartbeats 4000000 in
theorem w_X2_burningBy (p0 : Nat) (p1 : Nat) (p2 : Int32) (hp0 : p0 < mi_n 8) (hp1 : p1 < mi_n 5) (mem : mi_M) (a : Int32) (e : f_X2_burningBy p0 p1 p2 mem = some a) : mi_Ci (2) mX2_burningBy [vr 2 0, vr 8 p0, vr 5 p1, vi p2] mem (fun x m' => x = a ∧ m' = mem) := by
  unfold mi_Ci
  refine mi_C_intro (ls := [(0, vr 2 0), (1, vr 8 p0), (2, vr 5 p1), (3, vi p2)]) (by decide) rfl rfl ?_
  obtain ⟨Q0, hq0, h⟩ : ∃ Q0 : Int32 → Prop, (∀ b, Q0 b → b = a) ∧ wo (f_X2_burningBy p0 p1 p2 mem) Q0 := ⟨fun b => b = a, fun _ h => h, wo_eq e⟩
  obtain ⟨QX, hQX⟩ : ∃ QX : Option mi_V → mi_M → Prop, QX = (fun r m' => ∃ x, r = some (vi x) ∧ x = a ∧ m' = mem) := ⟨_, rfl⟩
  rw [← hQX]
  unfold f_X2_burningBy at h
  refine x_aload_n (pc := 0) dX2_burningBy_0 rfl ?_
  refine x_iconst (pc := 1) dX2_burningBy_1 (v := (0 : Int32)) (by decide) ?_
  refine z_Vi1 (pc := 2) h dX2_burningBy_2 lX2_106 hp1 (by omega) rfl (fun a e => w_X5_burningBehind _ _ hp1 _ a e) (fun v1 h => ?_)
  refine x_istore (ls' := [(4, _), (0, _), (1, _), (2, _), (3, _)]) (pc := 5) dX2_burningBy_5 rfl rfl ?_
  refine x_iconst (pc := 7) dX2_burningBy_7 (v := (0 : Int32)) (by decide) ?_
  refine x_istore (ls' := [(5, _), (4, _), (0, _), (1, _), (2, _), (3, _)]) (pc := 8) dX2_burningBy_8 rfl rfl ?_
  have k10_0 : ∀ (e2 : Int32), wo (f_X2_burningBy_K10 e2) Q0 → mi_X mX2_burningBy (2) 58 [(4, vi e2)] [] mem QX := by
    intro e2 h
    unfold f_X2_burningBy_K10 at h
    try dsimp only at h
    refine x_iload (pc := 58) dX2_burningBy_58 rfl ?_
    exact x_iret (pc := 60) dX2_burningBy_60 rfl (by rw [hQX]; exact ⟨_, rfl, hq0 _ (wo_some h), rfl⟩)
  refine x_sub [(0, _), (1, _), (3, _), (4, _), (5, _)] ⟨rfl, rfl, rfl, rfl, rfl, trivial⟩ ?_
  obtain ⟨ea, eb, h⟩ := wo_bo h
  refine wo_lq (X := fun s => match s with | (l3, l4) => mi_X mX2_burningBy (2) 10 [(0, vr 2 0), (1, vr 8 p0), (3, vi p2), (4, vi l3), (5, vi l4)] [] mem QX) (E := fun e => wo (f_X2_burningBy_K10 e) Q0) ?_ _ (v1, (0 : Int32)) ⟨_, eb, h⟩
  intro Q10 hb10 he10 s h
  obtain ⟨l3, l4⟩ := s
  show mi_X mX2_burningBy (2) 10 [(0, vr 2 0), (1, vr 8 p0), (3, vi p2), (4, vi l3), (5, vi l4)] [] mem QX
  unfold f_X2_burningBy_B10 at h
  try dsimp only at h
  refine x_iload (pc := 10) dX2_burningBy_10 rfl ?_
  refine x_aload_n (pc := 12) dX2_burningBy_12 rfl ?_
  refine x_getI (pc := 13) dX2_burningBy_13 fX2_40 rfl hp0 ?_
  refine x_icmp_ge (pc := 16) dX2_burningBy_16 (tgt := 58) (by decide) (fun c12 => ?_) (fun c12 => ?_)
  · replace h := wo_pos c12 h
    refine x_sub [(4, _)] ⟨rfl, trivial⟩ ?_
    exact k10_0 _ (he10 l3 (wo_some h))
  · replace h := wo_neg c12 h
    refine x_iload_n (pc := 19) dX2_burningBy_19 rfl ?_
    refine x_iload (pc := 20) dX2_burningBy_20 rfl ?_
    refine z_Ni2 (pc := 22) h dX2_burningBy_22 nX2_96 (by omega) rfl (fun a e => w_X11_holds _ _ _ a e) (fun v5 h => ?_)
    have j52 : ∀ (u6 : Int32), wo (f_X2_burningBy_J52 l4 u6) Q10 → mi_X mX2_burningBy (2) 52 [(0, vr 2 0), (1, vr 8 p0), (3, vi p2), (4, vi u6), (5, vi l4)] [] mem QX := by
      intro u6 h
      unfold f_X2_burningBy_J52 at h
      refine x_iinc (ls' := [(5, _), (0, _), (1, _), (3, _), (4, _)]) (pc := 52) dX2_burningBy_52 rfl (v := l4 + (1 : Int32)) rfl rfl rfl ?_
      refine x_goto (pc := 55) dX2_burningBy_55 (tgt := 10) (by decide) ?_
      refine x_sub [(0, _), (1, _), (3, _), (4, _), (5, _)] ⟨rfl, rfl, rfl, rfl, rfl, trivial⟩ ?_
      exact hb10 (u6, (l4 + (1 : Int32))) (wo_some h)
    refine x_if_eq (pc := 25) dX2_burningBy_25 (tgt := 52) (by decide) (fun c11 => ?_) (fun c11 => ?_)
    · replace h := wo_pos c11 h
      refine x_sub [(0, _), (1, _), (3, _), (4, _), (5, _)] ⟨rfl, rfl, rfl, rfl, rfl, trivial⟩ ?_
      exact j52 _ h
    · replace h := wo_neg c11 h
      refine x_aload_n (pc := 28) dX2_burningBy_28 rfl ?_
      refine x_getS (pc := 29) dX2_burningBy_29 fX2_15 rfl (by decide) ?_
      refine x_iload (pc := 32) dX2_burningBy_32 rfl ?_
      obtain ⟨hx7, h⟩ := wo_g h
      refine x_ialdJ (pc := 34) dX2_burningBy_34 rfl rfl (by decide) hx7 ?_
      refine x_if_le (pc := 35) dX2_burningBy_35 (tgt := 52) (by decide) (fun c10 => ?_) (fun c10 => ?_)
      · replace h := wo_pos c10 h
        refine x_sub [(0, _), (1, _), (3, _), (4, _), (5, _)] ⟨rfl, rfl, rfl, rfl, rfl, trivial⟩ ?_
        exact j52 _ h
      · replace h := wo_neg c10 h
        refine x_iload (pc := 38) dX2_burningBy_38 rfl ?_
        refine x_iconst (pc := 40) dX2_burningBy_40 (v := (1 : Int32)) (by decide) ?_
        refine x_aload_n (pc := 41) dX2_burningBy_41 rfl ?_
        refine x_getS (pc := 42) dX2_burningBy_42 fX2_109 rfl hp0 ?_
        refine x_iload (pc := 45) dX2_burningBy_45 rfl ?_
        obtain ⟨hx8, h⟩ := wo_g h
        refine x_ialdJ (pc := 47) dX2_burningBy_47 rfl rfl hp0 hx8 ?_
        refine x_ishl (pc := 48) dX2_burningBy_48 ?_
        refine x_ior (pc := 49) dX2_burningBy_49 ?_
        refine x_leti h (fun v9 h => ?_)
        refine x_istore (ls' := [(4, _), (0, _), (1, _), (3, _), (5, _)]) (pc := 50) dX2_burningBy_50 rfl rfl ?_
        refine x_sub [(0, _), (1, _), (3, _), (4, _), (5, _)] ⟨rfl, rfl, rfl, rfl, rfl, trivial⟩ ?_
        exact j52 _ h
noncomputable def f_X2_coinsFor_J33 (l3 : Int32) (u5 : Int32) : Option ((Int32 × Int32) ⊕ (Int32)) := some (.inl (u5, (l3 + (1 : Int32))))
noncomputable def f_X2_coinsFor_B5 (p0 : Nat) (p1 : Int32) (mem : mi_M) : (Int32 × Int32) → Option ((Int32 × Int32) ⊕ (Int32)) := fun s => match s with | (l2, l3) => if (mem.1 8 p0 1) ≤ l3 then some (.inr l2) else mi_bo (f_X11_holds p1 l3 mem) fun v4 => if v4 = 0 then f_X2_coinsFor_J33 l3 l2 else mi_g (vp_in l3 8) (mi_let (l2 + (mem.1 20 0 l3.toNatClampNeg)) fun v7 => f_X2_coinsFor_J33 l3 v7)
noncomputable def f_X2_coinsFor_K5 : Int32 → Option (Int32) := fun e1 => some e1
noncomputable def f_X2_coinsFor (p0 : Nat) (p1 : Int32) (mem : mi_M) : Option (Int32) := mi_bo (mi_lp (f_X2_coinsFor_B5 p0 p1 mem) mi_fu ((0 : Int32), (0 : Int32))) (f_X2_coinsFor_K5)
set_option maxRecDepth 100000 in
set_option maxHeartbeats 4000000 in
theorem w_X2_coinsFor (p0 : Nat) (p1 : Int32) (hp0 : p0 < mi_n 8) (mem : mi_M) (a : Int32) (e : f_X2_coinsFor p0 p1 mem = some a) : mi_Ci (2) mX2_coinsFor [vr 2 0, vr 8 p0, vi p1] mem (fun x m' => x = a ∧ m' = mem) := by
  unfold mi_Ci
  refine mi_C_intro (ls := [(0, vr 2 0), (1, vr 8 p0), (2, vi p1)]) (by decide) rfl rfl ?_
  obtain ⟨Q0, hq0, h⟩ : ∃ Q0 : Int32 → Prop, (∀ b, Q0 b → b = a) ∧ wo (f_X2_coinsFor p0 p1 mem) Q0 := ⟨fun b => b = a, fun _ h => h, wo_eq e⟩
  obtain ⟨QX, hQX⟩ : ∃ QX : Option mi_V → mi_M → Prop, QX = (fun r m' => ∃ x, r = some (vi x) ∧ x = a ∧ m' = mem) := ⟨_, rfl⟩
  rw [← hQX]
  unfold f_X2_coinsFor at h
  refine x_iconst (pc := 0) dX2_coinsFor_0 (v := (0 : Int32)) (by decide) ?_
  refine x_istore_n (ls' := [(3, _), (0, _), (1, _), (2, _)]) (pc := 1) dX2_coinsFor_1 rfl rfl rfl ?_
  refine x_iconst (pc := 2) dX2_coinsFor_2 (v := (0 : Int32)) (by decide) ?_
  refine x_istore (ls' := [(4, _), (3, _), (0, _), (1, _), (2, _)]) (pc := 3) dX2_coinsFor_3 rfl rfl ?_
  have k5_0 : ∀ (e1 : Int32), wo (f_X2_coinsFor_K5 e1) Q0 → mi_X mX2_coinsFor (2) 39 [(3, vi e1)] [] mem QX := by
    intro e1 h
    unfold f_X2_coinsFor_K5 at h
    try dsimp only at h
    refine x_iload_n (pc := 39) dX2_coinsFor_39 rfl ?_
    exact x_iret (pc := 40) dX2_coinsFor_40 rfl (by rw [hQX]; exact ⟨_, rfl, hq0 _ (wo_some h), rfl⟩)
  refine x_sub [(0, _), (1, _), (2, _), (3, _), (4, _)] ⟨rfl, rfl, rfl, rfl, rfl, trivial⟩ ?_
  obtain ⟨ea, eb, h⟩ := wo_bo h
  refine wo_lq (X := fun s => match s with | (l2, l3) => mi_X mX2_coinsFor (2) 5 [(0, vr 2 0), (1, vr 8 p0), (2, vi p1), (3, vi l2), (4, vi l3)] [] mem QX) (E := fun e => wo (f_X2_coinsFor_K5 e) Q0) ?_ _ ((0 : Int32), (0 : Int32)) ⟨_, eb, h⟩
  intro Q5 hb5 he5 s h
  obtain ⟨l2, l3⟩ := s
  show mi_X mX2_coinsFor (2) 5 [(0, vr 2 0), (1, vr 8 p0), (2, vi p1), (3, vi l2), (4, vi l3)] [] mem QX
  unfold f_X2_coinsFor_B5 at h
  try dsimp only at h
  refine x_iload (pc := 5) dX2_coinsFor_5 rfl ?_
  refine x_aload_n (pc := 7) dX2_coinsFor_7 rfl ?_
  refine x_getI (pc := 8) dX2_coinsFor_8 fX2_40 rfl hp0 ?_
  refine x_icmp_ge (pc := 11) dX2_coinsFor_11 (tgt := 39) (by decide) (fun c9 => ?_) (fun c9 => ?_)
  · replace h := wo_pos c9 h
    refine x_sub [(3, _)] ⟨rfl, trivial⟩ ?_
    exact k5_0 _ (he5 l2 (wo_some h))
  · replace h := wo_neg c9 h
    refine x_iload_n (pc := 14) dX2_coinsFor_14 rfl ?_
    refine x_iload (pc := 15) dX2_coinsFor_15 rfl ?_
    refine z_Ni2 (pc := 17) h dX2_coinsFor_17 nX2_96 (by omega) rfl (fun a e => w_X11_holds _ _ _ a e) (fun v4 h => ?_)
    have j33 : ∀ (u5 : Int32), wo (f_X2_coinsFor_J33 l3 u5) Q5 → mi_X mX2_coinsFor (2) 33 [(0, vr 2 0), (1, vr 8 p0), (2, vi p1), (3, vi u5), (4, vi l3)] [] mem QX := by
      intro u5 h
      unfold f_X2_coinsFor_J33 at h
      refine x_iinc (ls' := [(4, _), (0, _), (1, _), (2, _), (3, _)]) (pc := 33) dX2_coinsFor_33 rfl (v := l3 + (1 : Int32)) rfl rfl rfl ?_
      refine x_goto (pc := 36) dX2_coinsFor_36 (tgt := 5) (by decide) ?_
      refine x_sub [(0, _), (1, _), (2, _), (3, _), (4, _)] ⟨rfl, rfl, rfl, rfl, rfl, trivial⟩ ?_
      exact hb5 (u5, (l3 + (1 : Int32))) (wo_some h)
    refine x_if_eq (pc := 20) dX2_coinsFor_20 (tgt := 33) (by decide) (fun c8 => ?_) (fun c8 => ?_)
    · replace h := wo_pos c8 h
      refine x_sub [(0, _), (1, _), (2, _), (3, _), (4, _)] ⟨rfl, rfl, rfl, rfl, rfl, trivial⟩ ?_
      exact j33 _ h
    · replace h := wo_neg c8 h
      refine x_iload_n (pc := 23) dX2_coinsFor_23 rfl ?_
      refine x_aload_n (pc := 24) dX2_coinsFor_24 rfl ?_
      refine x_getS (pc := 25) dX2_coinsFor_25 fX2_9 rfl (by decide) ?_
      refine x_iload (pc := 28) dX2_coinsFor_28 rfl ?_
      obtain ⟨hx6, h⟩ := wo_g h
      refine x_ialdJ (pc := 30) dX2_coinsFor_30 rfl rfl (by decide) hx6 ?_
      refine x_iadd (pc := 31) dX2_coinsFor_31 ?_
      refine x_leti h (fun v7 h => ?_)
      refine x_istore_n (ls' := [(3, _), (0, _), (1, _), (2, _), (4, _)]) (pc := 32) dX2_coinsFor_32 rfl rfl rfl ?_
      refine x_sub [(0, _), (1, _), (2, _), (3, _), (4, _)] ⟨rfl, rfl, rfl, rfl, rfl, trivial⟩ ?_
      exact j33 _ h
noncomputable def f_X9_isLit_J18 (m2 : mi_M) (u3 : Int32) : Option (Int32 × mi_M) := mi_g (u3 = 0 ∨ u3 = 1) (some (u3, m2))
noncomputable def f_X9_isLit (i0 : Nat) (p0 : Int32) (p1 : Int32) (p2 : Int32) (mem : mi_M) : Option (Int32 × mi_M) := mi_b (f_X9_costOf i0 p0 p1 p2 mem) fun v1 m2 => if (1024 : Int32) ≤ v1 then f_X9_isLit_J18 m2 (0 : Int32) else f_X9_isLit_J18 m2 (1 : Int32)
set_option maxRecDepth 100000 in
set_option maxHeartbeats 4000000 in
theorem w_X9_isLit (i0 : Nat) (p0 : Int32) (p1 : Int32) (p2 : Int32) (hi0 : i0 < mi_n 9) (mem : mi_M) (a : Int32 × mi_M) (e : f_X9_isLit i0 p0 p1 p2 mem = some a) : mi_Ci (4) mX9_isLit [vr 9 i0, vi p0, vi p1, vi p2] mem (fun x m' => x = a.1 ∧ m' = a.2) := by
  unfold mi_Ci
  refine mi_C_intro (ls := [(0, vr 9 i0), (1, vi p0), (2, vi p1), (3, vi p2)]) (by decide) rfl rfl ?_
  obtain ⟨Q0, hq0, h⟩ : ∃ Q0 : (Int32 × mi_M) → Prop, (∀ b, Q0 b → b = a) ∧ wo (f_X9_isLit i0 p0 p1 p2 mem) Q0 := ⟨fun b => b = a, fun _ h => h, wo_eq e⟩
  obtain ⟨QX, hQX⟩ : ∃ QX : Option mi_V → mi_M → Prop, QX = (fun r m' => ∃ x, r = some (vi x) ∧ x = a.1 ∧ m' = a.2) := ⟨_, rfl⟩
  rw [← hQX]
  unfold f_X9_isLit at h
  refine x_aload_n (pc := 0) dX9_isLit_0 rfl ?_
  refine x_iload_n (pc := 1) dX9_isLit_1 rfl ?_
  refine x_iload_n (pc := 2) dX9_isLit_2 rfl ?_
  refine x_iload_n (pc := 3) dX9_isLit_3 rfl ?_
  refine y_Vi3 (pc := 4) h dX9_isLit_4 lX9_37 hi0 (by omega) rfl (fun a e => w_X9_costOf _ _ _ _ hi0 _ a e) (fun v1 m2 h => ?_)
  refine x_sipush (pc := 7) dX9_isLit_7 (v := (1024 : Int32)) (by decide) ?_
  have j18 : ∀ (u3 : Int32), wo (f_X9_isLit_J18 m2 u3) Q0 → mi_X mX9_isLit (4) 18 [] [vi u3] m2 QX := by
    intro u3 h
    unfold f_X9_isLit_J18 at h
    obtain ⟨hb4, h⟩ := wo_g h
    exact x_zretB (pc := 18) dX9_isLit_18 rfl hb4 (by rw [hQX]; exact ⟨_, rfl, congrArg Prod.fst (hq0 _ (wo_some h)), congrArg Prod.snd (hq0 _ (wo_some h))⟩)
  refine x_icmp_ge (pc := 10) dX9_isLit_10 (tgt := 17) (by decide) (fun c5 => ?_) (fun c5 => ?_)
  · replace h := wo_pos c5 h
    refine x_iconst (pc := 17) dX9_isLit_17 (v := (0 : Int32)) (by decide) ?_
    refine x_sub [] trivial ?_
    exact j18 _ h
  · replace h := wo_neg c5 h
    refine x_iconst (pc := 13) dX9_isLit_13 (v := (1 : Int32)) (by decide) ?_
    refine x_goto (pc := 14) dX9_isLit_14 (tgt := 18) (by decide) ?_
    refine x_sub [] trivial ?_
    exact j18 _ h
noncomputable def f_X2_fewestCoins_J125 (l8 : Int32) (m10 : mi_M) : Option ((Int32 × mi_M) ⊕ (mi_M)) := some (.inl ((l8 + (1 : Int32)), m10))
noncomputable def f_X2_fewestCoins_J88 (p0 : Nat) (p1 : Nat) (p2 : Int32) (p3 : Int32) (l8 : Int32) (m12 : mi_M) (v13 : Int32) : Option ((Int32 × mi_M) ⊕ (mi_M)) := mi_bo (f_X2_burningBy p0 p1 l8 m12) fun v15 => mi_b (f_X9_isLit p0 v15 p2 p3 m12) fun v16 m17 => if v16 = 0 then f_X2_fewestCoins_J125 l8 m17 else mi_g (vp_in (0 : Int32) 3) (mi_let (mi_wI m17 27 0 (0 : Int32).toNatClampNeg v13) fun m19 => mi_g (vp_in (1 : Int32) 3) (mi_let (mi_wI m19 27 0 (1 : Int32).toNatClampNeg l8) fun m21 => f_X2_fewestCoins_J125 l8 m21))
noncomputable def f_X2_fewestCoins_B23 (p0 : Nat) (p1 : Nat) (p2 : Int32) (p3 : Int32) : (Int32 × mi_M) → Option ((Int32 × mi_M) ⊕ (mi_M)) := fun s => match s with | (l8, m9) => if ((1 : Int32) <<< ((m9.1 8 p0 1) &&& 31)) ≤ l8 then some (.inr m9) else if (l8 &&& (m9.1 5 p1 2)) = 0 then mi_b (f_X2_areAfforded p0 p1 l8 m9) fun v11 m12 => if v11 = 0 then f_X2_fewestCoins_J125 l8 m12 else mi_bo (f_X2_coinsFor p0 l8 m12) fun v13 => mi_g (vp_in (0 : Int32) 3) (if (m12.1 27 0 (0 : Int32).toNatClampNeg) = (-1 : Int32) then f_X2_fewestCoins_J88 p0 p1 p2 p3 l8 m12 v13 else mi_g (vp_in (0 : Int32) 3) (if (m12.1 27 0 (0 : Int32).toNatClampNeg) ≤ v13 then f_X2_fewestCoins_J125 l8 m12 else f_X2_fewestCoins_J88 p0 p1 p2 p3 l8 m12 v13)) else f_X2_fewestCoins_J125 l8 m9
noncomputable def f_X2_fewestCoins_K23 (p4 : Int32) : mi_M → Option (Int32 × mi_M) := fun m6 => mi_g (vp_in p4 3) (some ((m6.1 27 0 p4.toNatClampNeg), m6))
noncomputable def f_X2_fewestCoins (p0 : Nat) (p1 : Nat) (p2 : Int32) (p3 : Int32) (p4 : Int32) (mem : mi_M) : Option (Int32 × mi_M) := mi_bo (f_X2_weighPardons p0 p1 mem) fun m1 => mi_g (vp_in (0 : Int32) 3) (mi_let (mi_wI m1 27 0 (0 : Int32).toNatClampNeg (-1 : Int32)) fun m3 => mi_g (vp_in (1 : Int32) 3) (mi_let (mi_wI m3 27 0 (1 : Int32).toNatClampNeg (-1 : Int32)) fun m5 => mi_bo (mi_lp (f_X2_fewestCoins_B23 p0 p1 p2 p3) mi_fu ((0 : Int32), m5)) (f_X2_fewestCoins_K23 p4)))
set_option maxRecDepth 100000 in
set_option maxHeartbeats 4000000 in
theorem w_X2_fewestCoins (p0 : Nat) (p1 : Nat) (p2 : Int32) (p3 : Int32) (p4 : Int32) (hp0 : p0 < mi_n 8) (hp1 : p1 < mi_n 5) (mem : mi_M) (a : Int32 × mi_M) (e : f_X2_fewestCoins p0 p1 p2 p3 p4 mem = some a) : mi_Ci (6) mX2_fewestCoins [vr 2 0, vr 8 p0, vr 5 p1, vi p2, vi p3, vi p4] mem (fun x m' => x = a.1 ∧ m' = a.2) := by
  unfold mi_Ci
  refine mi_C_intro (ls := [(0, vr 2 0), (1, vr 8 p0), (2, vr 5 p1), (3, vi p2), (4, vi p3), (5, vi p4)]) (by decide) rfl rfl ?_
  obtain ⟨Q0, hq0, h⟩ : ∃ Q0 : (Int32 × mi_M) → Prop, (∀ b, Q0 b → b = a) ∧ wo (f_X2_fewestCoins p0 p1 p2 p3 p4 mem) Q0 := ⟨fun b => b = a, fun _ h => h, wo_eq e⟩
  obtain ⟨QX, hQX⟩ : ∃ QX : Option mi_V → mi_M → Prop, QX = (fun r m' => ∃ x, r = some (vi x) ∧ x = a.1 ∧ m' = a.2) := ⟨_, rfl⟩
  rw [← hQX]
  unfold f_X2_fewestCoins at h
  refine x_aload_n (pc := 0) dX2_fewestCoins_0 rfl ?_
  refine x_aload_n (pc := 1) dX2_fewestCoins_1 rfl ?_
  refine x_aload_n (pc := 2) dX2_fewestCoins_2 rfl ?_
  refine y_Vv2 (pc := 3) h dX2_fewestCoins_3 lX2_36 (by decide) (by omega) rfl (fun a e => w_X2_weighPardons _ _ hp0 hp1 _ a e) (fun m1 h => ?_)
  refine x_aload_n (pc := 6) dX2_fewestCoins_6 rfl ?_
  refine x_getS (pc := 7) dX2_fewestCoins_7 fX2_33 rfl (by decide) ?_
  refine x_iconst (pc := 10) dX2_fewestCoins_10 (v := (0 : Int32)) (by decide) ?_
  refine x_iconst (pc := 11) dX2_fewestCoins_11 (v := (-1 : Int32)) (by decide) ?_
  obtain ⟨hx2, h⟩ := wo_g h
  refine x_iastJ (pc := 12) dX2_fewestCoins_12 rfl rfl (by decide) rfl hx2 ?_
  refine x_letm h (fun m3 h => ?_)
  refine x_aload_n (pc := 13) dX2_fewestCoins_13 rfl ?_
  refine x_getS (pc := 14) dX2_fewestCoins_14 fX2_33 rfl (by decide) ?_
  refine x_iconst (pc := 17) dX2_fewestCoins_17 (v := (1 : Int32)) (by decide) ?_
  refine x_iconst (pc := 18) dX2_fewestCoins_18 (v := (-1 : Int32)) (by decide) ?_
  obtain ⟨hx4, h⟩ := wo_g h
  refine x_iastJ (pc := 19) dX2_fewestCoins_19 rfl rfl (by decide) rfl hx4 ?_
  refine x_letm h (fun m5 h => ?_)
  refine x_iconst (pc := 20) dX2_fewestCoins_20 (v := (0 : Int32)) (by decide) ?_
  refine x_istore (ls' := [(6, _), (0, _), (1, _), (2, _), (3, _), (4, _), (5, _)]) (pc := 21) dX2_fewestCoins_21 rfl rfl ?_
  have k23_0 : ∀ (m6 : mi_M), wo (f_X2_fewestCoins_K23 p4 m6) Q0 → mi_X mX2_fewestCoins (6) 131 [(0, vr 2 0), (5, vi p4)] [] m6 QX := by
    intro m6 h
    unfold f_X2_fewestCoins_K23 at h
    try dsimp only at h
    refine x_aload_n (pc := 131) dX2_fewestCoins_131 rfl ?_
    refine x_getS (pc := 132) dX2_fewestCoins_132 fX2_33 rfl (by decide) ?_
    refine x_iload (pc := 135) dX2_fewestCoins_135 rfl ?_
    obtain ⟨hx7, h⟩ := wo_g h
    refine x_ialdJ (pc := 137) dX2_fewestCoins_137 rfl rfl (by decide) hx7 ?_
    exact x_iret (pc := 138) dX2_fewestCoins_138 rfl (by rw [hQX]; exact ⟨_, rfl, congrArg Prod.fst (hq0 _ (wo_some h)), congrArg Prod.snd (hq0 _ (wo_some h))⟩)
  refine x_sub [(0, _), (1, _), (2, _), (3, _), (4, _), (5, _), (6, _)] ⟨rfl, rfl, rfl, rfl, rfl, rfl, rfl, trivial⟩ ?_
  obtain ⟨ea, eb, h⟩ := wo_bo h
  refine wo_lq (X := fun s => match s with | (l8, m9) => mi_X mX2_fewestCoins (6) 23 [(0, vr 2 0), (1, vr 8 p0), (2, vr 5 p1), (3, vi p2), (4, vi p3), (5, vi p4), (6, vi l8)] [] m9 QX) (E := fun e => wo (f_X2_fewestCoins_K23 p4 e) Q0) ?_ _ ((0 : Int32), m5) ⟨_, eb, h⟩
  intro Q23 hb23 he23 s h
  obtain ⟨l8, m9⟩ := s
  show mi_X mX2_fewestCoins (6) 23 [(0, vr 2 0), (1, vr 8 p0), (2, vr 5 p1), (3, vi p2), (4, vi p3), (5, vi p4), (6, vi l8)] [] m9 QX
  unfold f_X2_fewestCoins_B23 at h
  try dsimp only at h
  refine x_iload (pc := 23) dX2_fewestCoins_23 rfl ?_
  refine x_iconst (pc := 25) dX2_fewestCoins_25 (v := (1 : Int32)) (by decide) ?_
  refine x_aload_n (pc := 26) dX2_fewestCoins_26 rfl ?_
  refine x_getI (pc := 27) dX2_fewestCoins_27 fX2_40 rfl hp0 ?_
  refine x_ishl (pc := 30) dX2_fewestCoins_30 ?_
  refine x_icmp_ge (pc := 31) dX2_fewestCoins_31 (tgt := 131) (by decide) (fun c28 => ?_) (fun c28 => ?_)
  · replace h := wo_pos c28 h
    refine x_sub [(0, _), (5, _)] ⟨rfl, rfl, trivial⟩ ?_
    exact k23_0 _ (he23 m9 (wo_some h))
  · replace h := wo_neg c28 h
    refine x_iload (pc := 34) dX2_fewestCoins_34 rfl ?_
    refine x_aload_n (pc := 36) dX2_fewestCoins_36 rfl ?_
    refine x_getI (pc := 37) dX2_fewestCoins_37 fX2_46 rfl hp1 ?_
    refine x_iand (pc := 40) dX2_fewestCoins_40 ?_
    have j125 : ∀ (m10 : mi_M), wo (f_X2_fewestCoins_J125 l8 m10) Q23 → mi_X mX2_fewestCoins (6) 125 [(0, vr 2 0), (1, vr 8 p0), (2, vr 5 p1), (3, vi p2), (4, vi p3), (5, vi p4), (6, vi l8)] [] m10 QX := by
      intro m10 h
      unfold f_X2_fewestCoins_J125 at h
      refine x_iinc (ls' := [(6, _), (0, _), (1, _), (2, _), (3, _), (4, _), (5, _)]) (pc := 125) dX2_fewestCoins_125 rfl (v := l8 + (1 : Int32)) rfl rfl rfl ?_
      refine x_goto (pc := 128) dX2_fewestCoins_128 (tgt := 23) (by decide) ?_
      refine x_sub [(0, _), (1, _), (2, _), (3, _), (4, _), (5, _), (6, _)] ⟨rfl, rfl, rfl, rfl, rfl, rfl, rfl, trivial⟩ ?_
      exact hb23 ((l8 + (1 : Int32)), m10) (wo_some h)
    refine x_if_ne (pc := 41) dX2_fewestCoins_41 (tgt := 125) (by decide) (fun c27 => ?_) (fun c27 => ?_)
    · replace h := wo_neg c27 h
      refine x_sub [(0, _), (1, _), (2, _), (3, _), (4, _), (5, _), (6, _)] ⟨rfl, rfl, rfl, rfl, rfl, rfl, rfl, trivial⟩ ?_
      exact j125 _ h
    · replace h := wo_pos c27 h
      refine x_aload_n (pc := 44) dX2_fewestCoins_44 rfl ?_
      refine x_aload_n (pc := 45) dX2_fewestCoins_45 rfl ?_
      refine x_aload_n (pc := 46) dX2_fewestCoins_46 rfl ?_
      refine x_iload (pc := 47) dX2_fewestCoins_47 rfl ?_
      refine y_Vi3 (pc := 49) h dX2_fewestCoins_49 lX2_51 (by decide) (by omega) rfl (fun a e => w_X2_areAfforded _ _ _ hp0 hp1 _ a e) (fun v11 m12 h => ?_)
      refine x_if_ne (pc := 52) dX2_fewestCoins_52 (tgt := 58) (by decide) (fun c26 => ?_) (fun c26 => ?_)
      · replace h := wo_neg c26 h
        refine x_aload_n (pc := 58) dX2_fewestCoins_58 rfl ?_
        refine x_aload_n (pc := 59) dX2_fewestCoins_59 rfl ?_
        refine x_iload (pc := 60) dX2_fewestCoins_60 rfl ?_
        refine z_Vi2 (pc := 62) h dX2_fewestCoins_62 lX2_55 (by decide) (by omega) rfl (fun a e => w_X2_coinsFor _ _ hp0 _ a e) (fun v13 h => ?_)
        refine x_istore (ls' := [(7, _), (0, _), (1, _), (2, _), (3, _), (4, _), (5, _), (6, _)]) (pc := 65) dX2_fewestCoins_65 rfl rfl ?_
        refine x_aload_n (pc := 67) dX2_fewestCoins_67 rfl ?_
        refine x_getS (pc := 68) dX2_fewestCoins_68 fX2_33 rfl (by decide) ?_
        refine x_iconst (pc := 71) dX2_fewestCoins_71 (v := (0 : Int32)) (by decide) ?_
        obtain ⟨hx14, h⟩ := wo_g h
        refine x_ialdJ (pc := 72) dX2_fewestCoins_72 rfl rfl (by decide) hx14 ?_
        refine x_iconst (pc := 73) dX2_fewestCoins_73 (v := (-1 : Int32)) (by decide) ?_
        have j88 : wo (f_X2_fewestCoins_J88 p0 p1 p2 p3 l8 m12 v13) Q23 → mi_X mX2_fewestCoins (6) 88 [(0, vr 2 0), (1, vr 8 p0), (2, vr 5 p1), (3, vi p2), (4, vi p3), (5, vi p4), (6, vi l8), (7, vi v13)] [] m12 QX := by
          intro h
          unfold f_X2_fewestCoins_J88 at h
          refine x_aload_n (pc := 88) dX2_fewestCoins_88 rfl ?_
          refine x_getS (pc := 89) dX2_fewestCoins_89 fX2_59 rfl hp0 ?_
          refine x_aload_n (pc := 92) dX2_fewestCoins_92 rfl ?_
          refine x_aload_n (pc := 93) dX2_fewestCoins_93 rfl ?_
          refine x_aload_n (pc := 94) dX2_fewestCoins_94 rfl ?_
          refine x_iload (pc := 95) dX2_fewestCoins_95 rfl ?_
          refine z_Vi3 (pc := 97) h dX2_fewestCoins_97 lX2_63 (by decide) (by omega) rfl (fun a e => w_X2_burningBy _ _ _ hp0 hp1 _ a e) (fun v15 h => ?_)
          refine x_iload_n (pc := 100) dX2_fewestCoins_100 rfl ?_
          refine x_iload (pc := 101) dX2_fewestCoins_101 rfl ?_
          refine y_Vi3 (pc := 103) h dX2_fewestCoins_103 lX2_67 hp0 (by omega) rfl (fun a e => w_X9_isLit _ _ _ _ hp0 _ a e) (fun v16 m17 h => ?_)
          refine x_if_eq (pc := 106) dX2_fewestCoins_106 (tgt := 125) (by decide) (fun c22 => ?_) (fun c22 => ?_)
          · replace h := wo_pos c22 h
            refine x_sub [(0, _), (1, _), (2, _), (3, _), (4, _), (5, _), (6, _)] ⟨rfl, rfl, rfl, rfl, rfl, rfl, rfl, trivial⟩ ?_
            exact j125 _ h
          · replace h := wo_neg c22 h
            refine x_aload_n (pc := 109) dX2_fewestCoins_109 rfl ?_
            refine x_getS (pc := 110) dX2_fewestCoins_110 fX2_33 rfl (by decide) ?_
            refine x_iconst (pc := 113) dX2_fewestCoins_113 (v := (0 : Int32)) (by decide) ?_
            refine x_iload (pc := 114) dX2_fewestCoins_114 rfl ?_
            obtain ⟨hx18, h⟩ := wo_g h
            refine x_iastJ (pc := 116) dX2_fewestCoins_116 rfl rfl (by decide) rfl hx18 ?_
            refine x_letm h (fun m19 h => ?_)
            refine x_aload_n (pc := 117) dX2_fewestCoins_117 rfl ?_
            refine x_getS (pc := 118) dX2_fewestCoins_118 fX2_33 rfl (by decide) ?_
            refine x_iconst (pc := 121) dX2_fewestCoins_121 (v := (1 : Int32)) (by decide) ?_
            refine x_iload (pc := 122) dX2_fewestCoins_122 rfl ?_
            obtain ⟨hx20, h⟩ := wo_g h
            refine x_iastJ (pc := 124) dX2_fewestCoins_124 rfl rfl (by decide) rfl hx20 ?_
            refine x_letm h (fun m21 h => ?_)
            refine x_sub [(0, _), (1, _), (2, _), (3, _), (4, _), (5, _), (6, _)] ⟨rfl, rfl, rfl, rfl, rfl, rfl, rfl, trivial⟩ ?_
            exact j125 _ h
        refine x_icmp_eq (pc := 74) dX2_fewestCoins_74 (tgt := 88) (by decide) (fun c25 => ?_) (fun c25 => ?_)
        · replace h := wo_pos c25 h
          refine x_sub [(0, _), (1, _), (2, _), (3, _), (4, _), (5, _), (6, _), (7, _)] ⟨rfl, rfl, rfl, rfl, rfl, rfl, rfl, rfl, trivial⟩ ?_
          exact j88 h
        · replace h := wo_neg c25 h
          refine x_iload (pc := 77) dX2_fewestCoins_77 rfl ?_
          refine x_aload_n (pc := 79) dX2_fewestCoins_79 rfl ?_
          refine x_getS (pc := 80) dX2_fewestCoins_80 fX2_33 rfl (by decide) ?_
          refine x_iconst (pc := 83) dX2_fewestCoins_83 (v := (0 : Int32)) (by decide) ?_
          obtain ⟨hx23, h⟩ := wo_g h
          refine x_ialdJ (pc := 84) dX2_fewestCoins_84 rfl rfl (by decide) hx23 ?_
          refine x_icmp_ge (pc := 85) dX2_fewestCoins_85 (tgt := 125) (by decide) (fun c24 => ?_) (fun c24 => ?_)
          · replace h := wo_pos c24 h
            refine x_sub [(0, _), (1, _), (2, _), (3, _), (4, _), (5, _), (6, _)] ⟨rfl, rfl, rfl, rfl, rfl, rfl, rfl, trivial⟩ ?_
            exact j125 _ h
          · replace h := wo_neg c24 h
            refine x_sub [(0, _), (1, _), (2, _), (3, _), (4, _), (5, _), (6, _), (7, _)] ⟨rfl, rfl, rfl, rfl, rfl, rfl, rfl, rfl, trivial⟩ ?_
            exact j88 h
      · replace h := wo_pos c26 h
        refine x_goto (pc := 55) dX2_fewestCoins_55 (tgt := 125) (by decide) ?_
        refine x_sub [(0, _), (1, _), (2, _), (3, _), (4, _), (5, _), (6, _)] ⟨rfl, rfl, rfl, rfl, rfl, rfl, rfl, trivial⟩ ?_
        exact j125 _ h
noncomputable def f_X11_pay_J21 (mem : mi_M) : Option (Int32 × mi_M) := some ((-1 : Int32), mem)
noncomputable def f_X11_pay (p0 : Int32) (p1 : Int32) (p2 : Int32) (mem : mi_M) : Option (Int32 × mi_M) := mi_g (mem.2.2 0 < mi_n 8) (mi_bo (f_X8_hasTwoDoors (mem.2.2 0) p0 p1 mem) fun v2 => if v2 = 0 then f_X11_pay_J21 mem else mi_bo (f_X11_isWithin p2 (0 : Int32) (1 : Int32) mem) fun v3 => if v3 = 0 then f_X11_pay_J21 mem else mi_g (mem.2.2 0 < mi_n 8) (mi_b (f_X2_fewestCoins (mem.2.2 0) 0 p0 p1 p2 mem) fun v5 m6 => some (v5, m6)))
set_option maxRecDepth 100000 in
set_option maxHeartbeats 4000000 in
theorem w_X11_pay (p0 : Int32) (p1 : Int32) (p2 : Int32) (mem : mi_M) (a : Int32 × mi_M) (e : f_X11_pay p0 p1 p2 mem = some a) : mi_Ci (7) mX11_pay [vr 11 0, vi p0, vi p1, vi p2] mem (fun x m' => x = a.1 ∧ m' = a.2) := by
  unfold mi_Ci
  refine mi_C_intro (ls := [(0, vr 11 0), (1, vi p0), (2, vi p1), (3, vi p2)]) (by decide) rfl rfl ?_
  obtain ⟨Q0, hq0, h⟩ : ∃ Q0 : (Int32 × mi_M) → Prop, (∀ b, Q0 b → b = a) ∧ wo (f_X11_pay p0 p1 p2 mem) Q0 := ⟨fun b => b = a, fun _ h => h, wo_eq e⟩
  obtain ⟨QX, hQX⟩ : ∃ QX : Option mi_V → mi_M → Prop, QX = (fun r m' => ∃ x, r = some (vi x) ∧ x = a.1 ∧ m' = a.2) := ⟨_, rfl⟩
  rw [← hQX]
  unfold f_X11_pay at h
  refine x_aload_n (pc := 0) dX11_pay_0 rfl ?_
  obtain ⟨hm1, h⟩ := wo_g h
  refine x_getM (pc := 1) dX11_pay_1 fX11_54 rfl (by decide) ?_
  refine x_iload_n (pc := 4) dX11_pay_4 rfl ?_
  refine x_iload_n (pc := 5) dX11_pay_5 rfl ?_
  refine z_Vi2 (pc := 6) h dX11_pay_6 lX11_151 hm1 (by omega) rfl (fun a e => w_X8_hasTwoDoors _ _ _ hm1 _ a e) (fun v2 h => ?_)
  have j21 : wo (f_X11_pay_J21 mem) Q0 → mi_X mX11_pay (7) 21 [] [] mem QX := by
    intro h
    unfold f_X11_pay_J21 at h
    refine x_iconst (pc := 21) dX11_pay_21 (v := (-1 : Int32)) (by decide) ?_
    exact x_iret (pc := 22) dX11_pay_22 rfl (by rw [hQX]; exact ⟨_, rfl, congrArg Prod.fst (hq0 _ (wo_some h)), congrArg Prod.snd (hq0 _ (wo_some h))⟩)
  refine x_if_eq (pc := 9) dX11_pay_9 (tgt := 21) (by decide) (fun c8 => ?_) (fun c8 => ?_)
  · replace h := wo_pos c8 h
    refine x_sub [] trivial ?_
    exact j21 h
  · replace h := wo_neg c8 h
    refine x_iload_n (pc := 12) dX11_pay_12 rfl ?_
    refine x_iconst (pc := 13) dX11_pay_13 (v := (0 : Int32)) (by decide) ?_
    refine x_iconst (pc := 14) dX11_pay_14 (v := (1 : Int32)) (by decide) ?_
    refine z_Si3 (pc := 15) h dX11_pay_15 lX11_155 (by omega) rfl (fun a e => w_X11_isWithin _ _ _ _ a e) (fun v3 h => ?_)
    refine x_if_ne (pc := 18) dX11_pay_18 (tgt := 23) (by decide) (fun c7 => ?_) (fun c7 => ?_)
    · replace h := wo_neg c7 h
      refine x_aload_n (pc := 23) dX11_pay_23 rfl ?_
      refine x_getC (pc := 24) dX11_pay_24 fX11_47 rfl (by decide) ?_
      refine x_aload_n (pc := 27) dX11_pay_27 rfl ?_
      obtain ⟨hm4, h⟩ := wo_g h
      refine x_getM (pc := 28) dX11_pay_28 fX11_54 rfl (by decide) ?_
      refine x_aload_n (pc := 31) dX11_pay_31 rfl ?_
      refine x_getC (pc := 32) dX11_pay_32 fX11_19 rfl (by decide) ?_
      refine x_iload_n (pc := 35) dX11_pay_35 rfl ?_
      refine x_iload_n (pc := 36) dX11_pay_36 rfl ?_
      refine x_iload_n (pc := 37) dX11_pay_37 rfl ?_
      refine y_Vi5 (pc := 38) h dX11_pay_38 lX11_210 (by decide) (by omega) rfl (fun a e => w_X2_fewestCoins _ _ _ _ _ hm4 (by decide) _ a e) (fun v5 m6 h => ?_)
      exact x_iret (pc := 41) dX11_pay_41 rfl (by rw [hQX]; exact ⟨_, rfl, congrArg Prod.fst (hq0 _ (wo_some h)), congrArg Prod.snd (hq0 _ (wo_some h))⟩)
    · replace h := wo_pos c7 h
      refine x_sub [] trivial ?_
      exact j21 h
noncomputable def f_X11_person (p0 : Int32) (p1 : Int32) (mem : mi_M) : Option (Int32) := mi_g (mem.2.2 0 < mi_n 8) (mi_bo (f_X8_hasPerson (mem.2.2 0) p0 mem) fun v2 => if v2 = 0 then some (-1 : Int32) else if p1 = (0 : Int32) then mi_g (mem.2.2 0 < mi_n 8) (mi_g (vp_in p0 6) (some (mem.1 39 (mem.2.2 0) p0.toNatClampNeg))) else if p1 = (1 : Int32) then mi_g (vp_in p0 6) (some (mem.1 36 0 p0.toNatClampNeg)) else if p1 = (2 : Int32) then mi_g (vp_in p0 6) (some (mem.1 35 0 p0.toNatClampNeg)) else some (-1 : Int32))
set_option maxRecDepth 100000 in
set_option maxHeartbeats 4000000 in
theorem w_X11_person (p0 : Int32) (p1 : Int32) (mem : mi_M) (a : Int32) (e : f_X11_person p0 p1 mem = some a) : mi_Ci (3) mX11_person [vr 11 0, vi p0, vi p1] mem (fun x m' => x = a ∧ m' = mem) := by
  unfold mi_Ci
  refine mi_C_intro (ls := [(0, vr 11 0), (1, vi p0), (2, vi p1)]) (by decide) rfl rfl ?_
  obtain ⟨Q0, hq0, h⟩ : ∃ Q0 : Int32 → Prop, (∀ b, Q0 b → b = a) ∧ wo (f_X11_person p0 p1 mem) Q0 := ⟨fun b => b = a, fun _ h => h, wo_eq e⟩
  obtain ⟨QX, hQX⟩ : ∃ QX : Option mi_V → mi_M → Prop, QX = (fun r m' => ∃ x, r = some (vi x) ∧ x = a ∧ m' = mem) := ⟨_, rfl⟩
  rw [← hQX]
  unfold f_X11_person at h
  refine x_aload_n (pc := 0) dX11_person_0 rfl ?_
  obtain ⟨hm1, h⟩ := wo_g h
  refine x_getM (pc := 1) dX11_person_1 fX11_54 rfl (by decide) ?_
  refine x_iload_n (pc := 4) dX11_person_4 rfl ?_
  refine z_Vi1 (pc := 5) h dX11_person_5 lX11_109 hm1 (by omega) rfl (fun a e => w_X8_hasPerson _ _ hm1 _ a e) (fun v2 h => ?_)
  refine x_if_ne (pc := 8) dX11_person_8 (tgt := 13) (by decide) (fun c10 => ?_) (fun c10 => ?_)
  · replace h := wo_neg c10 h
    refine x_iload_n (pc := 13) dX11_person_13 rfl ?_
    by_cases c3 : p1 = (0 : Int32)
    · replace h := wo_pos c3 h
      refine x_swT (pc := 14) (c := (0 : Int32)) c3 dX11_person_14 (by decide) (by decide) rfl (tgt := 40) (by decide) ?_
      refine x_aload_n (pc := 40) dX11_person_40 rfl ?_
      obtain ⟨hm4, h⟩ := wo_g h
      refine x_getM (pc := 41) dX11_person_41 fX11_54 rfl (by decide) ?_
      refine x_getS (pc := 44) dX11_person_44 fX11_113 rfl hm4 ?_
      refine x_iload_n (pc := 47) dX11_person_47 rfl ?_
      obtain ⟨hx5, h⟩ := wo_g h
      refine x_ialdJ (pc := 48) dX11_person_48 rfl rfl hm4 hx5 ?_
      exact x_iret (pc := 49) dX11_person_49 rfl (by rw [hQX]; exact ⟨_, rfl, hq0 _ (wo_some h), rfl⟩)
    · replace h := wo_neg c3 h
      by_cases c6 : p1 = (1 : Int32)
      · replace h := wo_pos c6 h
        refine x_swT (pc := 14) (c := (1 : Int32)) c6 dX11_person_14 (by decide) (by decide) rfl (tgt := 50) (by decide) ?_
        refine x_aload_n (pc := 50) dX11_person_50 rfl ?_
        refine x_getC (pc := 51) dX11_person_51 fX11_19 rfl (by decide) ?_
        refine x_getS (pc := 54) dX11_person_54 fX11_117 rfl (by decide) ?_
        refine x_iload_n (pc := 57) dX11_person_57 rfl ?_
        obtain ⟨hx7, h⟩ := wo_g h
        refine x_ialdJ (pc := 58) dX11_person_58 rfl rfl (by decide) hx7 ?_
        exact x_iret (pc := 59) dX11_person_59 rfl (by rw [hQX]; exact ⟨_, rfl, hq0 _ (wo_some h), rfl⟩)
      · replace h := wo_neg c6 h
        by_cases c8 : p1 = (2 : Int32)
        · replace h := wo_pos c8 h
          refine x_swT (pc := 14) (c := (2 : Int32)) c8 dX11_person_14 (by decide) (by decide) rfl (tgt := 60) (by decide) ?_
          refine x_aload_n (pc := 60) dX11_person_60 rfl ?_
          refine x_getC (pc := 61) dX11_person_61 fX11_19 rfl (by decide) ?_
          refine x_getS (pc := 64) dX11_person_64 fX11_120 rfl (by decide) ?_
          refine x_iload_n (pc := 67) dX11_person_67 rfl ?_
          obtain ⟨hx9, h⟩ := wo_g h
          refine x_ialdJ (pc := 68) dX11_person_68 rfl rfl (by decide) hx9 ?_
          exact x_iret (pc := 69) dX11_person_69 rfl (by rw [hQX]; exact ⟨_, rfl, hq0 _ (wo_some h), rfl⟩)
        · replace h := wo_neg c8 h
          refine x_tableOut (pc := 14) dX11_person_14 (by have := lv_neT (a := 0) c3 (by decide); have := lv_neT (a := 1) c6 (by decide); have := lv_neT (a := 2) c8 (by decide); omega) (tgt := 70) (by decide) ?_
          refine x_iconst (pc := 70) dX11_person_70 (v := (-1 : Int32)) (by decide) ?_
          exact x_iret (pc := 71) dX11_person_71 rfl (by rw [hQX]; exact ⟨_, rfl, hq0 _ (wo_some h), rfl⟩)
  · replace h := wo_pos c10 h
    refine x_iconst (pc := 11) dX11_person_11 (v := (-1 : Int32)) (by decide) ?_
    exact x_iret (pc := 12) dX11_person_12 rfl (by rw [hQX]; exact ⟨_, rfl, hq0 _ (wo_some h), rfl⟩)
noncomputable def f_X0_priceBehindWords_J47 (p0 : Nat) (p1 : Nat) (p2 : Int32) (l8 : Int32) (u10 : Int32) (m11 : mi_M) : Option ((Int32 × Int32 × mi_M) ⊕ (Int32 × mi_M)) := mi_b (f_X8_soreBehindNight p0 p2 u10 ((m11.1 5 p1 0) + l8) m11) fun v12 m13 => some (.inl (v12, (l8 + (1 : Int32)), m13))
noncomputable def f_X0_priceBehindWords_J31 (p0 : Nat) (p1 : Nat) (p2 : Int32) (l7 : Int32) (l8 : Int32) (m9 : mi_M) : Option ((Int32 × Int32 × mi_M) ⊕ (Int32 × mi_M)) := mi_b (f_X8_soreBehindWords p0 p2 l7 ((m9.1 5 p1 0) + l8) m9) fun v14 m15 => f_X0_priceBehindWords_J47 p0 p1 p2 l8 v14 m15
noncomputable def f_X0_priceBehindWords_B11 (p0 : Nat) (p1 : Nat) (p2 : Int32) (p3 : Int32) : (Int32 × Int32 × mi_M) → Option ((Int32 × Int32 × mi_M) ⊕ (Int32 × mi_M)) := fun s => match s with | (l7, l8, m9) => if p3 ≤ l8 then some (.inr (l7, m9)) else if 0 < l8 then f_X0_priceBehindWords_J31 p0 p1 p2 l7 l8 m9 else mi_bo (f_X5_isSaid p1 p2 m9) fun v16 => if v16 = 0 then f_X0_priceBehindWords_J31 p0 p1 p2 l7 l8 m9 else f_X0_priceBehindWords_J47 p0 p1 p2 l8 l7 m9
noncomputable def f_X0_priceBehindWords_K11 (p0 : Nat) (p2 : Int32) : (Int32 × mi_M) → Option (Int32 × mi_M) := fun e => match e with | (e3, m4) => mi_bo (f_X8_barOf p0 p2 m4) fun v5 => mi_let (if (0 : Int32) < (e3 - v5) then (e3 - v5) else (0 : Int32)) fun v6 => some (v6, m4)
noncomputable def f_X0_priceBehindWords (p0 : Nat) (p1 : Nat) (p2 : Int32) (p3 : Int32) (mem : mi_M) : Option (Int32 × mi_M) := mi_g (vp_in p2 8) (mi_let (mem.1 34 p1 p2.toNatClampNeg) fun v2 => mi_bo (mi_lp (f_X0_priceBehindWords_B11 p0 p1 p2 p3) mi_fu (v2, (0 : Int32), mem)) (f_X0_priceBehindWords_K11 p0 p2))
set_option maxRecDepth 100000 in
set_option maxHeartbeats 4000000 in
theorem w_X0_priceBehindWords (p0 : Nat) (p1 : Nat) (p2 : Int32) (p3 : Int32) (hp0 : p0 < mi_n 8) (hp1 : p1 < mi_n 5) (mem : mi_M) (a : Int32 × mi_M) (e : f_X0_priceBehindWords p0 p1 p2 p3 mem = some a) : mi_Ci (5) mX0_priceBehindWords [vr 0 0, vr 8 p0, vr 5 p1, vi p2, vi p3] mem (fun x m' => x = a.1 ∧ m' = a.2) := by
  unfold mi_Ci
  refine mi_C_intro (ls := [(0, vr 0 0), (1, vr 8 p0), (2, vr 5 p1), (3, vi p2), (4, vi p3)]) (by decide) rfl rfl ?_
  obtain ⟨Q0, hq0, h⟩ : ∃ Q0 : (Int32 × mi_M) → Prop, (∀ b, Q0 b → b = a) ∧ wo (f_X0_priceBehindWords p0 p1 p2 p3 mem) Q0 := ⟨fun b => b = a, fun _ h => h, wo_eq e⟩
  obtain ⟨QX, hQX⟩ : ∃ QX : Option mi_V → mi_M → Prop, QX = (fun r m' => ∃ x, r = some (vi x) ∧ x = a.1 ∧ m' = a.2) := ⟨_, rfl⟩
  rw [← hQX]
  unfold f_X0_priceBehindWords at h
  refine x_aload_n (pc := 0) dX0_priceBehindWords_0 rfl ?_
  refine x_getS (pc := 1) dX0_priceBehindWords_1 fX0_101 rfl hp1 ?_
  refine x_iload_n (pc := 4) dX0_priceBehindWords_4 rfl ?_
  obtain ⟨hx1, h⟩ := wo_g h
  refine x_ialdJ (pc := 5) dX0_priceBehindWords_5 rfl rfl hp1 hx1 ?_
  refine x_leti h (fun v2 h => ?_)
  refine x_istore (ls' := [(5, _), (0, _), (1, _), (2, _), (3, _), (4, _)]) (pc := 6) dX0_priceBehindWords_6 rfl rfl ?_
  refine x_iconst (pc := 8) dX0_priceBehindWords_8 (v := (0 : Int32)) (by decide) ?_
  refine x_istore (ls' := [(6, _), (5, _), (0, _), (1, _), (2, _), (3, _), (4, _)]) (pc := 9) dX0_priceBehindWords_9 rfl rfl ?_
  have k11_0 : ∀ (e3 : Int32) (m4 : mi_M), wo (f_X0_priceBehindWords_K11 p0 p2 (e3, m4)) Q0 → mi_X mX0_priceBehindWords (5) 69 [(1, vr 8 p0), (3, vi p2), (5, vi e3)] [] m4 QX := by
    intro e3 m4 h
    unfold f_X0_priceBehindWords_K11 at h
    try dsimp only at h
    refine x_iconst (pc := 69) dX0_priceBehindWords_69 (v := (0 : Int32)) (by decide) ?_
    refine x_iload (pc := 70) dX0_priceBehindWords_70 rfl ?_
    refine x_aload_n (pc := 72) dX0_priceBehindWords_72 rfl ?_
    refine x_iload_n (pc := 73) dX0_priceBehindWords_73 rfl ?_
    refine z_Vi1 (pc := 74) h dX0_priceBehindWords_74 lX0_104 hp0 (by omega) rfl (fun a e => w_X8_barOf _ _ hp0 _ a e) (fun v5 h => ?_)
    refine x_isub (pc := 77) dX0_priceBehindWords_77 ?_
    refine x_mmax (pc := 78) dX0_priceBehindWords_78 lX0_120 (by omega) rfl ?_
    refine x_leti h (fun v6 h => ?_)
    exact x_iret (pc := 81) dX0_priceBehindWords_81 rfl (by rw [hQX]; exact ⟨_, rfl, congrArg Prod.fst (hq0 _ (wo_some h)), congrArg Prod.snd (hq0 _ (wo_some h))⟩)
  refine x_sub [(1, _), (2, _), (3, _), (4, _), (5, _), (6, _)] ⟨rfl, rfl, rfl, rfl, rfl, rfl, trivial⟩ ?_
  obtain ⟨ea, eb, h⟩ := wo_bo h
  refine wo_lq (X := fun s => match s with | (l7, l8, m9) => mi_X mX0_priceBehindWords (5) 11 [(1, vr 8 p0), (2, vr 5 p1), (3, vi p2), (4, vi p3), (5, vi l7), (6, vi l8)] [] m9 QX) (E := fun e => wo (f_X0_priceBehindWords_K11 p0 p2 e) Q0) ?_ _ (v2, (0 : Int32), mem) ⟨_, eb, h⟩
  intro Q11 hb11 he11 s h
  obtain ⟨l7, l8, m9⟩ := s
  show mi_X mX0_priceBehindWords (5) 11 [(1, vr 8 p0), (2, vr 5 p1), (3, vi p2), (4, vi p3), (5, vi l7), (6, vi l8)] [] m9 QX
  unfold f_X0_priceBehindWords_B11 at h
  try dsimp only at h
  refine x_iload (pc := 11) dX0_priceBehindWords_11 rfl ?_
  refine x_iload (pc := 13) dX0_priceBehindWords_13 rfl ?_
  refine x_icmp_ge (pc := 15) dX0_priceBehindWords_15 (tgt := 69) (by decide) (fun c19 => ?_) (fun c19 => ?_)
  · replace h := wo_pos c19 h
    refine x_sub [(1, _), (3, _), (5, _)] ⟨rfl, rfl, rfl, trivial⟩ ?_
    exact k11_0 _ _ (he11 (l7, m9) (wo_some h))
  · replace h := wo_neg c19 h
    refine x_iload (pc := 18) dX0_priceBehindWords_18 rfl ?_
    have j47 : ∀ (u10 : Int32) (m11 : mi_M), wo (f_X0_priceBehindWords_J47 p0 p1 p2 l8 u10 m11) Q11 → mi_X mX0_priceBehindWords (5) 47 [(1, vr 8 p0), (2, vr 5 p1), (3, vi p2), (4, vi p3), (5, vi u10), (6, vi l8)] [] m11 QX := by
      intro u10 m11 h
      unfold f_X0_priceBehindWords_J47 at h
      refine x_aload_n (pc := 47) dX0_priceBehindWords_47 rfl ?_
      refine x_iload_n (pc := 48) dX0_priceBehindWords_48 rfl ?_
      refine x_iload (pc := 49) dX0_priceBehindWords_49 rfl ?_
      refine x_aload_n (pc := 51) dX0_priceBehindWords_51 rfl ?_
      refine x_getI (pc := 52) dX0_priceBehindWords_52 fX0_107 rfl hp1 ?_
      refine x_iload (pc := 55) dX0_priceBehindWords_55 rfl ?_
      refine x_iadd (pc := 57) dX0_priceBehindWords_57 ?_
      refine y_Vi3 (pc := 58) h dX0_priceBehindWords_58 lX0_110 hp0 (by omega) rfl (fun a e => w_X8_soreBehindNight _ _ _ _ hp0 _ a e) (fun v12 m13 h => ?_)
      refine x_istore (ls' := [(5, _), (1, _), (2, _), (3, _), (4, _), (6, _)]) (pc := 61) dX0_priceBehindWords_61 rfl rfl ?_
      refine x_iinc (ls' := [(6, _), (5, _), (1, _), (2, _), (3, _), (4, _)]) (pc := 63) dX0_priceBehindWords_63 rfl (v := l8 + (1 : Int32)) rfl rfl rfl ?_
      refine x_goto (pc := 66) dX0_priceBehindWords_66 (tgt := 11) (by decide) ?_
      refine x_sub [(1, _), (2, _), (3, _), (4, _), (5, _), (6, _)] ⟨rfl, rfl, rfl, rfl, rfl, rfl, trivial⟩ ?_
      exact hb11 (v12, (l8 + (1 : Int32)), m13) (wo_some h)
    have j31 : wo (f_X0_priceBehindWords_J31 p0 p1 p2 l7 l8 m9) Q11 → mi_X mX0_priceBehindWords (5) 31 [(1, vr 8 p0), (2, vr 5 p1), (3, vi p2), (4, vi p3), (5, vi l7), (6, vi l8)] [] m9 QX := by
      intro h
      unfold f_X0_priceBehindWords_J31 at h
      refine x_aload_n (pc := 31) dX0_priceBehindWords_31 rfl ?_
      refine x_iload_n (pc := 32) dX0_priceBehindWords_32 rfl ?_
      refine x_iload (pc := 33) dX0_priceBehindWords_33 rfl ?_
      refine x_aload_n (pc := 35) dX0_priceBehindWords_35 rfl ?_
      refine x_getI (pc := 36) dX0_priceBehindWords_36 fX0_107 rfl hp1 ?_
      refine x_iload (pc := 39) dX0_priceBehindWords_39 rfl ?_
      refine x_iadd (pc := 41) dX0_priceBehindWords_41 ?_
      refine y_Vi3 (pc := 42) h dX0_priceBehindWords_42 lX0_117 hp0 (by omega) rfl (fun a e => w_X8_soreBehindWords _ _ _ _ hp0 _ a e) (fun v14 m15 h => ?_)
      refine x_istore (ls' := [(5, _), (1, _), (2, _), (3, _), (4, _), (6, _)]) (pc := 45) dX0_priceBehindWords_45 rfl rfl ?_
      refine x_sub [(1, _), (2, _), (3, _), (4, _), (5, _), (6, _)] ⟨rfl, rfl, rfl, rfl, rfl, rfl, trivial⟩ ?_
      exact j47 _ _ h
    refine x_if_gt (pc := 20) dX0_priceBehindWords_20 (tgt := 31) (by decide) (fun c18 => ?_) (fun c18 => ?_)
    · replace h := wo_pos c18 h
      refine x_sub [(1, _), (2, _), (3, _), (4, _), (5, _), (6, _)] ⟨rfl, rfl, rfl, rfl, rfl, rfl, trivial⟩ ?_
      exact j31 h
    · replace h := wo_neg c18 h
      refine x_aload_n (pc := 23) dX0_priceBehindWords_23 rfl ?_
      refine x_iload_n (pc := 24) dX0_priceBehindWords_24 rfl ?_
      refine z_Vi1 (pc := 25) h dX0_priceBehindWords_25 lX0_114 hp1 (by omega) rfl (fun a e => w_X5_isSaid _ _ hp1 _ a e) (fun v16 h => ?_)
      refine x_if_ne (pc := 28) dX0_priceBehindWords_28 (tgt := 47) (by decide) (fun c17 => ?_) (fun c17 => ?_)
      · replace h := wo_neg c17 h
        refine x_sub [(1, _), (2, _), (3, _), (4, _), (5, _), (6, _)] ⟨rfl, rfl, rfl, rfl, rfl, rfl, trivial⟩ ?_
        exact j47 _ _ h
      · replace h := wo_pos c17 h
        refine x_sub [(1, _), (2, _), (3, _), (4, _), (5, _), (6, _)] ⟨rfl, rfl, rfl, rfl, rfl, rfl, trivial⟩ ?_
        exact j31 h
noncomputable def f_X11_price_J32 (mem : mi_M) : Option (Int32 × mi_M) := some ((-1 : Int32), mem)
noncomputable def f_X11_price (p0 : Int32) (p1 : Int32) (mem : mi_M) : Option (Int32 × mi_M) := mi_g (mem.2.2 0 < mi_n 8) (mi_bo (f_X8_hasWrong (mem.2.2 0) p0 mem) fun v2 => if v2 = 0 then f_X11_price_J32 mem else mi_bo (f_X5_isForgiven 0 p0 mem) fun v3 => if v3 = 0 then mi_bo (f_X11_isWithin p1 (0 : Int32) (30 : Int32) mem) fun v4 => if v4 = 0 then f_X11_price_J32 mem else mi_g (mem.2.2 0 < mi_n 8) (mi_b (f_X0_priceBehindWords (mem.2.2 0) 0 p0 p1 mem) fun v6 m7 => some (v6, m7)) else f_X11_price_J32 mem)
set_option maxRecDepth 100000 in
set_option maxHeartbeats 4000000 in
theorem w_X11_price (p0 : Int32) (p1 : Int32) (mem : mi_M) (a : Int32 × mi_M) (e : f_X11_price p0 p1 mem = some a) : mi_Ci (6) mX11_price [vr 11 0, vi p0, vi p1] mem (fun x m' => x = a.1 ∧ m' = a.2) := by
  unfold mi_Ci
  refine mi_C_intro (ls := [(0, vr 11 0), (1, vi p0), (2, vi p1)]) (by decide) rfl rfl ?_
  obtain ⟨Q0, hq0, h⟩ : ∃ Q0 : (Int32 × mi_M) → Prop, (∀ b, Q0 b → b = a) ∧ wo (f_X11_price p0 p1 mem) Q0 := ⟨fun b => b = a, fun _ h => h, wo_eq e⟩
  obtain ⟨QX, hQX⟩ : ∃ QX : Option mi_V → mi_M → Prop, QX = (fun r m' => ∃ x, r = some (vi x) ∧ x = a.1 ∧ m' = a.2) := ⟨_, rfl⟩
  rw [← hQX]
  unfold f_X11_price at h
  refine x_aload_n (pc := 0) dX11_price_0 rfl ?_
  obtain ⟨hm1, h⟩ := wo_g h
  refine x_getM (pc := 1) dX11_price_1 fX11_54 rfl (by decide) ?_
  refine x_iload_n (pc := 4) dX11_price_4 rfl ?_
  refine z_Vi1 (pc := 5) h dX11_price_5 lX11_123 hm1 (by omega) rfl (fun a e => w_X8_hasWrong _ _ hm1 _ a e) (fun v2 h => ?_)
  have j32 : wo (f_X11_price_J32 mem) Q0 → mi_X mX11_price (6) 32 [] [] mem QX := by
    intro h
    unfold f_X11_price_J32 at h
    refine x_iconst (pc := 32) dX11_price_32 (v := (-1 : Int32)) (by decide) ?_
    exact x_iret (pc := 33) dX11_price_33 rfl (by rw [hQX]; exact ⟨_, rfl, congrArg Prod.fst (hq0 _ (wo_some h)), congrArg Prod.snd (hq0 _ (wo_some h))⟩)
  refine x_if_eq (pc := 8) dX11_price_8 (tgt := 32) (by decide) (fun c10 => ?_) (fun c10 => ?_)
  · replace h := wo_pos c10 h
    refine x_sub [] trivial ?_
    exact j32 h
  · replace h := wo_neg c10 h
    refine x_aload_n (pc := 11) dX11_price_11 rfl ?_
    refine x_getC (pc := 12) dX11_price_12 fX11_19 rfl (by decide) ?_
    refine x_iload_n (pc := 15) dX11_price_15 rfl ?_
    refine z_Vi1 (pc := 16) h dX11_price_16 lX11_138 (by decide) (by omega) rfl (fun a e => w_X5_isForgiven _ _ (by decide) _ a e) (fun v3 h => ?_)
    refine x_if_ne (pc := 19) dX11_price_19 (tgt := 32) (by decide) (fun c9 => ?_) (fun c9 => ?_)
    · replace h := wo_neg c9 h
      refine x_sub [] trivial ?_
      exact j32 h
    · replace h := wo_pos c9 h
      refine x_iload_n (pc := 22) dX11_price_22 rfl ?_
      refine x_iconst (pc := 23) dX11_price_23 (v := (0 : Int32)) (by decide) ?_
      refine x_bipush (pc := 24) dX11_price_24 (v := (30 : Int32)) (by decide) ?_
      refine z_Si3 (pc := 26) h dX11_price_26 lX11_155 (by omega) rfl (fun a e => w_X11_isWithin _ _ _ _ a e) (fun v4 h => ?_)
      refine x_if_ne (pc := 29) dX11_price_29 (tgt := 34) (by decide) (fun c8 => ?_) (fun c8 => ?_)
      · replace h := wo_neg c8 h
        refine x_aload_n (pc := 34) dX11_price_34 rfl ?_
        refine x_getC (pc := 35) dX11_price_35 fX11_40 rfl (by decide) ?_
        refine x_aload_n (pc := 38) dX11_price_38 rfl ?_
        obtain ⟨hm5, h⟩ := wo_g h
        refine x_getM (pc := 39) dX11_price_39 fX11_54 rfl (by decide) ?_
        refine x_aload_n (pc := 42) dX11_price_42 rfl ?_
        refine x_getC (pc := 43) dX11_price_43 fX11_19 rfl (by decide) ?_
        refine x_iload_n (pc := 46) dX11_price_46 rfl ?_
        refine x_iload_n (pc := 47) dX11_price_47 rfl ?_
        refine y_Vi4 (pc := 48) h dX11_price_48 lX11_222 (by decide) (by omega) rfl (fun a e => w_X0_priceBehindWords _ _ _ _ hm5 (by decide) _ a e) (fun v6 m7 h => ?_)
        exact x_iret (pc := 51) dX11_price_51 rfl (by rw [hQX]; exact ⟨_, rfl, congrArg Prod.fst (hq0 _ (wo_some h)), congrArg Prod.snd (hq0 _ (wo_some h))⟩)
      · replace h := wo_pos c8 h
        refine x_sub [] trivial ?_
        exact j32 h
noncomputable def f_X0_nightsUntilRipe_B11 (p0 : Nat) (p1 : Nat) (p2 : Int32) : (Int32 × Int32 × mi_M) → Option ((Int32 × Int32 × mi_M) ⊕ ((Int32 × mi_M) ⊕ mi_M)) := fun s => match s with | (l6, l7, m8) => if (60 : Int32) < l7 then some (.inr (.inr m8)) else mi_bo (f_X8_barOf p0 p2 m8) fun v9 => if v9 < l6 then mi_b (f_X8_soreBehindNight p0 p2 l6 ((m8.1 5 p1 0) + l7) m8) fun v10 m11 => some (.inl (v10, (l7 + (1 : Int32)), m11)) else some (.inr (.inl (l7, m8)))
noncomputable def f_X0_nightsUntilRipe_K11 : ((Int32 × mi_M) ⊕ mi_M) → Option (Int32 × mi_M) := fun e => match e with | (.inl (e3, m4)) => some (e3, m4) | (.inr m5) => some ((-1 : Int32), m5)
noncomputable def f_X0_nightsUntilRipe (p0 : Nat) (p1 : Nat) (p2 : Int32) (mem : mi_M) : Option (Int32 × mi_M) := mi_g (vp_in p2 8) (mi_let (mem.1 34 p1 p2.toNatClampNeg) fun v2 => mi_bo (mi_lp (f_X0_nightsUntilRipe_B11 p0 p1 p2) mi_fu (v2, (0 : Int32), mem)) (f_X0_nightsUntilRipe_K11))
set_option maxRecDepth 100000 in
set_option maxHeartbeats 4000000 in
theorem w_X0_nightsUntilRipe (p0 : Nat) (p1 : Nat) (p2 : Int32) (hp0 : p0 < mi_n 8) (hp1 : p1 < mi_n 5) (mem : mi_M) (a : Int32 × mi_M) (e : f_X0_nightsUntilRipe p0 p1 p2 mem = some a) : mi_Ci (5) mX0_nightsUntilRipe [vr 0 0, vr 8 p0, vr 5 p1, vi p2] mem (fun x m' => x = a.1 ∧ m' = a.2) := by
  unfold mi_Ci
  refine mi_C_intro (ls := [(0, vr 0 0), (1, vr 8 p0), (2, vr 5 p1), (3, vi p2)]) (by decide) rfl rfl ?_
  obtain ⟨Q0, hq0, h⟩ : ∃ Q0 : (Int32 × mi_M) → Prop, (∀ b, Q0 b → b = a) ∧ wo (f_X0_nightsUntilRipe p0 p1 p2 mem) Q0 := ⟨fun b => b = a, fun _ h => h, wo_eq e⟩
  obtain ⟨QX, hQX⟩ : ∃ QX : Option mi_V → mi_M → Prop, QX = (fun r m' => ∃ x, r = some (vi x) ∧ x = a.1 ∧ m' = a.2) := ⟨_, rfl⟩
  rw [← hQX]
  unfold f_X0_nightsUntilRipe at h
  refine x_aload_n (pc := 0) dX0_nightsUntilRipe_0 rfl ?_
  refine x_getS (pc := 1) dX0_nightsUntilRipe_1 fX0_101 rfl hp1 ?_
  refine x_iload_n (pc := 4) dX0_nightsUntilRipe_4 rfl ?_
  obtain ⟨hx1, h⟩ := wo_g h
  refine x_ialdJ (pc := 5) dX0_nightsUntilRipe_5 rfl rfl hp1 hx1 ?_
  refine x_leti h (fun v2 h => ?_)
  refine x_istore (ls' := [(4, _), (0, _), (1, _), (2, _), (3, _)]) (pc := 6) dX0_nightsUntilRipe_6 rfl rfl ?_
  refine x_iconst (pc := 8) dX0_nightsUntilRipe_8 (v := (0 : Int32)) (by decide) ?_
  refine x_istore (ls' := [(5, _), (4, _), (0, _), (1, _), (2, _), (3, _)]) (pc := 9) dX0_nightsUntilRipe_9 rfl rfl ?_
  have k11_0 : ∀ (e3 : Int32) (m4 : mi_M), wo (f_X0_nightsUntilRipe_K11 (.inl (e3, m4))) Q0 → mi_X mX0_nightsUntilRipe (5) 28 [(5, vi e3)] [] m4 QX := by
    intro e3 m4 h
    unfold f_X0_nightsUntilRipe_K11 at h
    try dsimp only at h
    refine x_iload (pc := 28) dX0_nightsUntilRipe_28 rfl ?_
    exact x_iret (pc := 30) dX0_nightsUntilRipe_30 rfl (by rw [hQX]; exact ⟨_, rfl, congrArg Prod.fst (hq0 _ (wo_some h)), congrArg Prod.snd (hq0 _ (wo_some h))⟩)
  have k11_1 : ∀ (m5 : mi_M), wo (f_X0_nightsUntilRipe_K11 (.inr m5)) Q0 → mi_X mX0_nightsUntilRipe (5) 53 [] [] m5 QX := by
    intro m5 h
    unfold f_X0_nightsUntilRipe_K11 at h
    try dsimp only at h
    refine x_iconst (pc := 53) dX0_nightsUntilRipe_53 (v := (-1 : Int32)) (by decide) ?_
    exact x_iret (pc := 54) dX0_nightsUntilRipe_54 rfl (by rw [hQX]; exact ⟨_, rfl, congrArg Prod.fst (hq0 _ (wo_some h)), congrArg Prod.snd (hq0 _ (wo_some h))⟩)
  refine x_sub [(1, _), (2, _), (3, _), (4, _), (5, _)] ⟨rfl, rfl, rfl, rfl, rfl, trivial⟩ ?_
  obtain ⟨ea, eb, h⟩ := wo_bo h
  refine wo_lq (X := fun s => match s with | (l6, l7, m8) => mi_X mX0_nightsUntilRipe (5) 11 [(1, vr 8 p0), (2, vr 5 p1), (3, vi p2), (4, vi l6), (5, vi l7)] [] m8 QX) (E := fun e => wo (f_X0_nightsUntilRipe_K11 e) Q0) ?_ _ (v2, (0 : Int32), mem) ⟨_, eb, h⟩
  intro Q11 hb11 he11 s h
  obtain ⟨l6, l7, m8⟩ := s
  show mi_X mX0_nightsUntilRipe (5) 11 [(1, vr 8 p0), (2, vr 5 p1), (3, vi p2), (4, vi l6), (5, vi l7)] [] m8 QX
  unfold f_X0_nightsUntilRipe_B11 at h
  try dsimp only at h
  refine x_iload (pc := 11) dX0_nightsUntilRipe_11 rfl ?_
  refine x_bipush (pc := 13) dX0_nightsUntilRipe_13 (v := (60 : Int32)) (by decide) ?_
  refine x_icmp_gt (pc := 15) dX0_nightsUntilRipe_15 (tgt := 53) (by decide) (fun c13 => ?_) (fun c13 => ?_)
  · replace h := wo_pos c13 h
    refine x_sub [] trivial ?_
    exact k11_1 _ (he11 (.inr m8) (wo_some h))
  · replace h := wo_neg c13 h
    refine x_iload (pc := 18) dX0_nightsUntilRipe_18 rfl ?_
    refine x_aload_n (pc := 20) dX0_nightsUntilRipe_20 rfl ?_
    refine x_iload_n (pc := 21) dX0_nightsUntilRipe_21 rfl ?_
    refine z_Vi1 (pc := 22) h dX0_nightsUntilRipe_22 lX0_104 hp0 (by omega) rfl (fun a e => w_X8_barOf _ _ hp0 _ a e) (fun v9 h => ?_)
    refine x_icmp_gt (pc := 25) dX0_nightsUntilRipe_25 (tgt := 31) (by decide) (fun c12 => ?_) (fun c12 => ?_)
    · replace h := wo_pos c12 h
      refine x_aload_n (pc := 31) dX0_nightsUntilRipe_31 rfl ?_
      refine x_iload_n (pc := 32) dX0_nightsUntilRipe_32 rfl ?_
      refine x_iload (pc := 33) dX0_nightsUntilRipe_33 rfl ?_
      refine x_aload_n (pc := 35) dX0_nightsUntilRipe_35 rfl ?_
      refine x_getI (pc := 36) dX0_nightsUntilRipe_36 fX0_107 rfl hp1 ?_
      refine x_iload (pc := 39) dX0_nightsUntilRipe_39 rfl ?_
      refine x_iadd (pc := 41) dX0_nightsUntilRipe_41 ?_
      refine y_Vi3 (pc := 42) h dX0_nightsUntilRipe_42 lX0_110 hp0 (by omega) rfl (fun a e => w_X8_soreBehindNight _ _ _ _ hp0 _ a e) (fun v10 m11 h => ?_)
      refine x_istore (ls' := [(4, _), (1, _), (2, _), (3, _), (5, _)]) (pc := 45) dX0_nightsUntilRipe_45 rfl rfl ?_
      refine x_iinc (ls' := [(5, _), (4, _), (1, _), (2, _), (3, _)]) (pc := 47) dX0_nightsUntilRipe_47 rfl (v := l7 + (1 : Int32)) rfl rfl rfl ?_
      refine x_goto (pc := 50) dX0_nightsUntilRipe_50 (tgt := 11) (by decide) ?_
      refine x_sub [(1, _), (2, _), (3, _), (4, _), (5, _)] ⟨rfl, rfl, rfl, rfl, rfl, trivial⟩ ?_
      exact hb11 (v10, (l7 + (1 : Int32)), m11) (wo_some h)
    · replace h := wo_neg c12 h
      refine x_sub [(5, _)] ⟨rfl, trivial⟩ ?_
      exact k11_0 _ _ (he11 (.inl (l7, m8)) (wo_some h))
noncomputable def f_X11_ripe_J22 (mem : mi_M) : Option (Int32 × mi_M) := some ((-1 : Int32), mem)
noncomputable def f_X11_ripe (p0 : Int32) (mem : mi_M) : Option (Int32 × mi_M) := mi_g (mem.2.2 0 < mi_n 8) (mi_bo (f_X8_hasWrong (mem.2.2 0) p0 mem) fun v2 => if v2 = 0 then f_X11_ripe_J22 mem else mi_bo (f_X5_isForgiven 0 p0 mem) fun v3 => if v3 = 0 then mi_g (mem.2.2 0 < mi_n 8) (mi_b (f_X0_nightsUntilRipe (mem.2.2 0) 0 p0 mem) fun v5 m6 => some (v5, m6)) else f_X11_ripe_J22 mem)
set_option maxRecDepth 100000 in
set_option maxHeartbeats 4000000 in
theorem w_X11_ripe (p0 : Int32) (mem : mi_M) (a : Int32 × mi_M) (e : f_X11_ripe p0 mem = some a) : mi_Ci (6) mX11_ripe [vr 11 0, vi p0] mem (fun x m' => x = a.1 ∧ m' = a.2) := by
  unfold mi_Ci
  refine mi_C_intro (ls := [(0, vr 11 0), (1, vi p0)]) (by decide) rfl rfl ?_
  obtain ⟨Q0, hq0, h⟩ : ∃ Q0 : (Int32 × mi_M) → Prop, (∀ b, Q0 b → b = a) ∧ wo (f_X11_ripe p0 mem) Q0 := ⟨fun b => b = a, fun _ h => h, wo_eq e⟩
  obtain ⟨QX, hQX⟩ : ∃ QX : Option mi_V → mi_M → Prop, QX = (fun r m' => ∃ x, r = some (vi x) ∧ x = a.1 ∧ m' = a.2) := ⟨_, rfl⟩
  rw [← hQX]
  unfold f_X11_ripe at h
  refine x_aload_n (pc := 0) dX11_ripe_0 rfl ?_
  obtain ⟨hm1, h⟩ := wo_g h
  refine x_getM (pc := 1) dX11_ripe_1 fX11_54 rfl (by decide) ?_
  refine x_iload_n (pc := 4) dX11_ripe_4 rfl ?_
  refine z_Vi1 (pc := 5) h dX11_ripe_5 lX11_123 hm1 (by omega) rfl (fun a e => w_X8_hasWrong _ _ hm1 _ a e) (fun v2 h => ?_)
  have j22 : wo (f_X11_ripe_J22 mem) Q0 → mi_X mX11_ripe (6) 22 [] [] mem QX := by
    intro h
    unfold f_X11_ripe_J22 at h
    refine x_iconst (pc := 22) dX11_ripe_22 (v := (-1 : Int32)) (by decide) ?_
    exact x_iret (pc := 23) dX11_ripe_23 rfl (by rw [hQX]; exact ⟨_, rfl, congrArg Prod.fst (hq0 _ (wo_some h)), congrArg Prod.snd (hq0 _ (wo_some h))⟩)
  refine x_if_eq (pc := 8) dX11_ripe_8 (tgt := 22) (by decide) (fun c8 => ?_) (fun c8 => ?_)
  · replace h := wo_pos c8 h
    refine x_sub [] trivial ?_
    exact j22 h
  · replace h := wo_neg c8 h
    refine x_aload_n (pc := 11) dX11_ripe_11 rfl ?_
    refine x_getC (pc := 12) dX11_ripe_12 fX11_19 rfl (by decide) ?_
    refine x_iload_n (pc := 15) dX11_ripe_15 rfl ?_
    refine z_Vi1 (pc := 16) h dX11_ripe_16 lX11_138 (by decide) (by omega) rfl (fun a e => w_X5_isForgiven _ _ (by decide) _ a e) (fun v3 h => ?_)
    refine x_if_eq (pc := 19) dX11_ripe_19 (tgt := 24) (by decide) (fun c7 => ?_) (fun c7 => ?_)
    · replace h := wo_pos c7 h
      refine x_aload_n (pc := 24) dX11_ripe_24 rfl ?_
      refine x_getC (pc := 25) dX11_ripe_25 fX11_40 rfl (by decide) ?_
      refine x_aload_n (pc := 28) dX11_ripe_28 rfl ?_
      obtain ⟨hm4, h⟩ := wo_g h
      refine x_getM (pc := 29) dX11_ripe_29 fX11_54 rfl (by decide) ?_
      refine x_aload_n (pc := 32) dX11_ripe_32 rfl ?_
      refine x_getC (pc := 33) dX11_ripe_33 fX11_19 rfl (by decide) ?_
      refine x_iload_n (pc := 36) dX11_ripe_36 rfl ?_
      refine y_Vi3 (pc := 37) h dX11_ripe_37 lX11_218 (by decide) (by omega) rfl (fun a e => w_X0_nightsUntilRipe _ _ _ hm4 (by decide) _ a e) (fun v5 m6 h => ?_)
      exact x_iret (pc := 40) dX11_ripe_40 rfl (by rw [hQX]; exact ⟨_, rfl, congrArg Prod.fst (hq0 _ (wo_some h)), congrArg Prod.snd (hq0 _ (wo_some h))⟩)
    · replace h := wo_neg c7 h
      refine x_sub [] trivial ?_
      exact j22 h
noncomputable def f_X2_countRipe_J55 (l3 : Int32) (m6 : mi_M) : Option ((Int32 × mi_M) ⊕ (mi_M)) := some (.inl ((l3 + (1 : Int32)), m6))
noncomputable def f_X2_countRipe_B23 (p0 : Nat) (p1 : Nat) : (Int32 × mi_M) → Option ((Int32 × mi_M) ⊕ (mi_M)) := fun s => match s with | (l3, m4) => if (m4.1 8 p0 1) ≤ l3 then some (.inr m4) else mi_bo (f_X5_isRipe p1 p0 l3 m4) fun v5 => if v5 = 0 then f_X2_countRipe_J55 l3 m4 else mi_g (vp_in l3 8) (mi_g (vp_in (m4.1 42 p0 l3.toNatClampNeg) 6) (mi_g (vp_in (m4.1 42 p0 l3.toNatClampNeg) 6) (mi_let (mi_wI m4 24 0 (m4.1 42 p0 l3.toNatClampNeg).toNatClampNeg ((m4.1 24 0 (m4.1 42 p0 l3.toNatClampNeg).toNatClampNeg) + (1 : Int32))) fun m10 => f_X2_countRipe_J55 l3 m10)))
noncomputable def f_X2_countRipe_K23 : mi_M → Option (mi_M) := fun m2 => some m2
noncomputable def f_X2_countRipe_B2 : (Int32 × mi_M) → Option ((Int32 × mi_M) ⊕ (mi_M)) := fun s => match s with | (l13, m14) => if (6 : Int32) ≤ l13 then some (.inr m14) else mi_g (vp_in l13 6) (mi_let (mi_wI m14 24 0 l13.toNatClampNeg (0 : Int32)) fun m16 => some (.inl ((l13 + (1 : Int32)), m16)))
noncomputable def f_X2_countRipe_K2 (p0 : Nat) (p1 : Nat) : mi_M → Option (mi_M) := fun m1 => mi_bo (mi_lp (f_X2_countRipe_B23 p0 p1) mi_fu ((0 : Int32), m1)) (f_X2_countRipe_K23)
noncomputable def f_X2_countRipe (p0 : Nat) (p1 : Nat) (mem : mi_M) : Option (mi_M) := mi_bo (mi_lp (f_X2_countRipe_B2) mi_fu ((0 : Int32), mem)) (f_X2_countRipe_K2 p0 p1)
set_option maxRecDepth 100000 in
set_option maxHeartbeats 4000000 in
theorem w_X2_countRipe (p0 : Nat) (p1 : Nat) (hp0 : p0 < mi_n 8) (hp1 : p1 < mi_n 5) (mem : mi_M) (a : mi_M) (e : f_X2_countRipe p0 p1 mem = some a) : mi_Cv (4) mX2_countRipe [vr 2 0, vr 8 p0, vr 5 p1] mem (fun m' => m' = a) := by
  unfold mi_Cv
  refine mi_C_intro (ls := [(0, vr 2 0), (1, vr 8 p0), (2, vr 5 p1)]) (by decide) rfl rfl ?_
  obtain ⟨Q0, hq0, h⟩ : ∃ Q0 : mi_M → Prop, (∀ b, Q0 b → b = a) ∧ wo (f_X2_countRipe p0 p1 mem) Q0 := ⟨fun b => b = a, fun _ h => h, wo_eq e⟩
  obtain ⟨QX, hQX⟩ : ∃ QX : Option mi_V → mi_M → Prop, QX = (fun r m' => r = none ∧ m' = a) := ⟨_, rfl⟩
  rw [← hQX]
  unfold f_X2_countRipe at h
  refine x_iconst (pc := 0) dX2_countRipe_0 (v := (0 : Int32)) (by decide) ?_
  refine x_istore_n (ls' := [(3, _), (0, _), (1, _), (2, _)]) (pc := 1) dX2_countRipe_1 rfl rfl rfl ?_
  have k2_0 : ∀ (m1 : mi_M), wo (f_X2_countRipe_K2 p0 p1 m1) Q0 → mi_X mX2_countRipe (4) 21 [(0, vr 2 0), (1, vr 8 p0), (2, vr 5 p1)] [] m1 QX := by
    intro m1 h
    unfold f_X2_countRipe_K2 at h
    try dsimp only at h
    refine x_iconst (pc := 21) dX2_countRipe_21 (v := (0 : Int32)) (by decide) ?_
    refine x_istore_n (ls' := [(3, _), (0, _), (1, _), (2, _)]) (pc := 22) dX2_countRipe_22 rfl rfl rfl ?_
    have k23_0 : ∀ (m2 : mi_M), wo (f_X2_countRipe_K23 m2) Q0 → mi_X mX2_countRipe (4) 61 [] [] m2 QX := by
      intro m2 h
      unfold f_X2_countRipe_K23 at h
      try dsimp only at h
      exact x_ret (pc := 61) dX2_countRipe_61 rfl (by rw [hQX]; exact ⟨rfl, hq0 _ (wo_some h)⟩)
    refine x_sub [(0, _), (1, _), (2, _), (3, _)] ⟨rfl, rfl, rfl, rfl, trivial⟩ ?_
    obtain ⟨ea, eb, h⟩ := wo_bo h
    refine wo_lq (X := fun s => match s with | (l3, m4) => mi_X mX2_countRipe (4) 23 [(0, vr 2 0), (1, vr 8 p0), (2, vr 5 p1), (3, vi l3)] [] m4 QX) (E := fun e => wo (f_X2_countRipe_K23 e) Q0) ?_ _ ((0 : Int32), m1) ⟨_, eb, h⟩
    intro Q23 hb23 he23 s h
    obtain ⟨l3, m4⟩ := s
    show mi_X mX2_countRipe (4) 23 [(0, vr 2 0), (1, vr 8 p0), (2, vr 5 p1), (3, vi l3)] [] m4 QX
    unfold f_X2_countRipe_B23 at h
    try dsimp only at h
    refine x_iload_n (pc := 23) dX2_countRipe_23 rfl ?_
    refine x_aload_n (pc := 24) dX2_countRipe_24 rfl ?_
    refine x_getI (pc := 25) dX2_countRipe_25 fX2_40 rfl hp0 ?_
    refine x_icmp_ge (pc := 28) dX2_countRipe_28 (tgt := 61) (by decide) (fun c12 => ?_) (fun c12 => ?_)
    · replace h := wo_pos c12 h
      refine x_sub [] trivial ?_
      exact k23_0 _ (he23 m4 (wo_some h))
    · replace h := wo_neg c12 h
      refine x_aload_n (pc := 31) dX2_countRipe_31 rfl ?_
      refine x_aload_n (pc := 32) dX2_countRipe_32 rfl ?_
      refine x_iload_n (pc := 33) dX2_countRipe_33 rfl ?_
      refine z_Vi2 (pc := 34) h dX2_countRipe_34 lX2_148 hp1 (by omega) rfl (fun a e => w_X5_isRipe _ _ _ hp1 hp0 _ a e) (fun v5 h => ?_)
      have j55 : ∀ (m6 : mi_M), wo (f_X2_countRipe_J55 l3 m6) Q23 → mi_X mX2_countRipe (4) 55 [(0, vr 2 0), (1, vr 8 p0), (2, vr 5 p1), (3, vi l3)] [] m6 QX := by
        intro m6 h
        unfold f_X2_countRipe_J55 at h
        refine x_iinc (ls' := [(3, _), (0, _), (1, _), (2, _)]) (pc := 55) dX2_countRipe_55 rfl (v := l3 + (1 : Int32)) rfl rfl rfl ?_
        refine x_goto (pc := 58) dX2_countRipe_58 (tgt := 23) (by decide) ?_
        refine x_sub [(0, _), (1, _), (2, _), (3, _)] ⟨rfl, rfl, rfl, rfl, trivial⟩ ?_
        exact hb23 ((l3 + (1 : Int32)), m6) (wo_some h)
      refine x_if_eq (pc := 37) dX2_countRipe_37 (tgt := 55) (by decide) (fun c11 => ?_) (fun c11 => ?_)
      · replace h := wo_pos c11 h
        refine x_sub [(0, _), (1, _), (2, _), (3, _)] ⟨rfl, rfl, rfl, rfl, trivial⟩ ?_
        exact j55 _ h
      · replace h := wo_neg c11 h
        refine x_aload_n (pc := 40) dX2_countRipe_40 rfl ?_
        refine x_getS (pc := 41) dX2_countRipe_41 fX2_24 rfl (by decide) ?_
        refine x_aload_n (pc := 44) dX2_countRipe_44 rfl ?_
        refine x_getS (pc := 45) dX2_countRipe_45 fX2_109 rfl hp0 ?_
        refine x_iload_n (pc := 48) dX2_countRipe_48 rfl ?_
        obtain ⟨hx7, h⟩ := wo_g h
        refine x_ialdJ (pc := 49) dX2_countRipe_49 rfl rfl hp0 hx7 ?_
        refine x_dup2 (pc := 50) dX2_countRipe_50 rfl rfl ?_
        obtain ⟨hx8, h⟩ := wo_g h
        refine x_ialdJ (pc := 51) dX2_countRipe_51 rfl rfl (by decide) hx8 ?_
        refine x_iconst (pc := 52) dX2_countRipe_52 (v := (1 : Int32)) (by decide) ?_
        refine x_iadd (pc := 53) dX2_countRipe_53 ?_
        obtain ⟨hx9, h⟩ := wo_g h
        refine x_iastJ (pc := 54) dX2_countRipe_54 rfl rfl (by decide) rfl hx9 ?_
        refine x_letm h (fun m10 h => ?_)
        refine x_sub [(0, _), (1, _), (2, _), (3, _)] ⟨rfl, rfl, rfl, rfl, trivial⟩ ?_
        exact j55 _ h
  refine x_sub [(0, _), (1, _), (2, _), (3, _)] ⟨rfl, rfl, rfl, rfl, trivial⟩ ?_
  obtain ⟨ea, eb, h⟩ := wo_bo h
  refine wo_lq (X := fun s => match s with | (l13, m14) => mi_X mX2_countRipe (4) 2 [(0, vr 2 0), (1, vr 8 p0), (2, vr 5 p1), (3, vi l13)] [] m14 QX) (E := fun e => wo (f_X2_countRipe_K2 p0 p1 e) Q0) ?_ _ ((0 : Int32), mem) ⟨_, eb, h⟩
  intro Q2 hb2 he2 s h
  obtain ⟨l13, m14⟩ := s
  show mi_X mX2_countRipe (4) 2 [(0, vr 2 0), (1, vr 8 p0), (2, vr 5 p1), (3, vi l13)] [] m14 QX
  unfold f_X2_countRipe_B2 at h
  try dsimp only at h
  refine x_iload_n (pc := 2) dX2_countRipe_2 rfl ?_
  refine x_bipush (pc := 3) dX2_countRipe_3 (v := (6 : Int32)) (by decide) ?_
  refine x_icmp_ge (pc := 5) dX2_countRipe_5 (tgt := 21) (by decide) (fun c17 => ?_) (fun c17 => ?_)
  · replace h := wo_pos c17 h
    refine x_sub [(0, _), (1, _), (2, _)] ⟨rfl, rfl, rfl, trivial⟩ ?_
    exact k2_0 _ (he2 m14 (wo_some h))
  · replace h := wo_neg c17 h
    refine x_aload_n (pc := 8) dX2_countRipe_8 rfl ?_
    refine x_getS (pc := 9) dX2_countRipe_9 fX2_24 rfl (by decide) ?_
    refine x_iload_n (pc := 12) dX2_countRipe_12 rfl ?_
    refine x_iconst (pc := 13) dX2_countRipe_13 (v := (0 : Int32)) (by decide) ?_
    obtain ⟨hx15, h⟩ := wo_g h
    refine x_iastJ (pc := 14) dX2_countRipe_14 rfl rfl (by decide) rfl hx15 ?_
    refine x_letm h (fun m16 h => ?_)
    refine x_iinc (ls' := [(3, _), (0, _), (1, _), (2, _)]) (pc := 15) dX2_countRipe_15 rfl (v := l13 + (1 : Int32)) rfl rfl rfl ?_
    refine x_goto (pc := 18) dX2_countRipe_18 (tgt := 2) (by decide) ?_
    refine x_sub [(0, _), (1, _), (2, _), (3, _)] ⟨rfl, rfl, rfl, rfl, trivial⟩ ?_
    exact hb2 ((l13 + (1 : Int32)), m16) (wo_some h)
noncomputable def f_X2_leastWalked_B5 (p0 : Int32) (mem : mi_M) : (Int32 × Int32) → Option ((Int32 × Int32) ⊕ (Int32)) := fun s => match s with | (l2, l3) => if (6 : Int32) ≤ l3 then some (.inr l2) else mi_g (vp_in ((p0 * (6 : Int32)) + l3) 384) (mi_let (if (mem.1 25 0 ((p0 * (6 : Int32)) + l3).toNatClampNeg) < l2 then (mem.1 25 0 ((p0 * (6 : Int32)) + l3).toNatClampNeg) else l2) fun v5 => some (.inl (v5, (l3 + (1 : Int32)))))
noncomputable def f_X2_leastWalked_K5 : Int32 → Option (Int32) := fun e1 => some e1
noncomputable def f_X2_leastWalked (p0 : Int32) (mem : mi_M) : Option (Int32) := mi_bo (mi_lp (f_X2_leastWalked_B5 p0 mem) mi_fu ((1048576 : Int32), (0 : Int32))) (f_X2_leastWalked_K5)
set_option maxRecDepth 100000 in
set_option maxHeartbeats 4000000 in
theorem w_X2_leastWalked (p0 : Int32) (mem : mi_M) (a : Int32) (e : f_X2_leastWalked p0 mem = some a) : mi_Ci (1) mX2_leastWalked [vr 2 0, vi p0] mem (fun x m' => x = a ∧ m' = mem) := by
  unfold mi_Ci
  refine mi_C_intro (ls := [(0, vr 2 0), (1, vi p0)]) (by decide) rfl rfl ?_
  obtain ⟨Q0, hq0, h⟩ : ∃ Q0 : Int32 → Prop, (∀ b, Q0 b → b = a) ∧ wo (f_X2_leastWalked p0 mem) Q0 := ⟨fun b => b = a, fun _ h => h, wo_eq e⟩
  obtain ⟨QX, hQX⟩ : ∃ QX : Option mi_V → mi_M → Prop, QX = (fun r m' => ∃ x, r = some (vi x) ∧ x = a ∧ m' = mem) := ⟨_, rfl⟩
  rw [← hQX]
  unfold f_X2_leastWalked at h
  refine x_ldc (pc := 0) dX2_leastWalked_0 kX2_147 ?_
  refine x_istore_n (ls' := [(2, _), (0, _), (1, _)]) (pc := 2) dX2_leastWalked_2 rfl rfl rfl ?_
  refine x_iconst (pc := 3) dX2_leastWalked_3 (v := (0 : Int32)) (by decide) ?_
  refine x_istore_n (ls' := [(3, _), (2, _), (0, _), (1, _)]) (pc := 4) dX2_leastWalked_4 rfl rfl rfl ?_
  have k5_0 : ∀ (e1 : Int32), wo (f_X2_leastWalked_K5 e1) Q0 → mi_X mX2_leastWalked (1) 33 [(2, vi e1)] [] mem QX := by
    intro e1 h
    unfold f_X2_leastWalked_K5 at h
    try dsimp only at h
    refine x_iload_n (pc := 33) dX2_leastWalked_33 rfl ?_
    exact x_iret (pc := 34) dX2_leastWalked_34 rfl (by rw [hQX]; exact ⟨_, rfl, hq0 _ (wo_some h), rfl⟩)
  refine x_sub [(0, _), (1, _), (2, _), (3, _)] ⟨rfl, rfl, rfl, rfl, trivial⟩ ?_
  obtain ⟨ea, eb, h⟩ := wo_bo h
  refine wo_lq (X := fun s => match s with | (l2, l3) => mi_X mX2_leastWalked (1) 5 [(0, vr 2 0), (1, vi p0), (2, vi l2), (3, vi l3)] [] mem QX) (E := fun e => wo (f_X2_leastWalked_K5 e) Q0) ?_ _ ((1048576 : Int32), (0 : Int32)) ⟨_, eb, h⟩
  intro Q5 hb5 he5 s h
  obtain ⟨l2, l3⟩ := s
  show mi_X mX2_leastWalked (1) 5 [(0, vr 2 0), (1, vi p0), (2, vi l2), (3, vi l3)] [] mem QX
  unfold f_X2_leastWalked_B5 at h
  try dsimp only at h
  refine x_iload_n (pc := 5) dX2_leastWalked_5 rfl ?_
  refine x_bipush (pc := 6) dX2_leastWalked_6 (v := (6 : Int32)) (by decide) ?_
  refine x_icmp_ge (pc := 8) dX2_leastWalked_8 (tgt := 33) (by decide) (fun c6 => ?_) (fun c6 => ?_)
  · replace h := wo_pos c6 h
    refine x_sub [(2, _)] ⟨rfl, trivial⟩ ?_
    exact k5_0 _ (he5 l2 (wo_some h))
  · replace h := wo_neg c6 h
    refine x_iload_n (pc := 11) dX2_leastWalked_11 rfl ?_
    refine x_aload_n (pc := 12) dX2_leastWalked_12 rfl ?_
    refine x_getS (pc := 13) dX2_leastWalked_13 fX2_27 rfl (by decide) ?_
    refine x_iload_n (pc := 16) dX2_leastWalked_16 rfl ?_
    refine x_bipush (pc := 17) dX2_leastWalked_17 (v := (6 : Int32)) (by decide) ?_
    refine x_imul (pc := 19) dX2_leastWalked_19 ?_
    refine x_iload_n (pc := 20) dX2_leastWalked_20 rfl ?_
    refine x_iadd (pc := 21) dX2_leastWalked_21 ?_
    obtain ⟨hx4, h⟩ := wo_g h
    refine x_ialdJ (pc := 22) dX2_leastWalked_22 rfl rfl (by decide) hx4 ?_
    refine x_mmin (pc := 23) dX2_leastWalked_23 lX2_161 (by omega) rfl ?_
    refine x_leti h (fun v5 h => ?_)
    refine x_istore_n (ls' := [(2, _), (0, _), (1, _), (3, _)]) (pc := 26) dX2_leastWalked_26 rfl rfl rfl ?_
    refine x_iinc (ls' := [(3, _), (2, _), (0, _), (1, _)]) (pc := 27) dX2_leastWalked_27 rfl (v := l3 + (1 : Int32)) rfl rfl rfl ?_
    refine x_goto (pc := 30) dX2_leastWalked_30 (tgt := 5) (by decide) ?_
    refine x_sub [(0, _), (1, _), (2, _), (3, _)] ⟨rfl, rfl, rfl, rfl, trivial⟩ ?_
    exact hb5 (v5, (l3 + (1 : Int32))) (wo_some h)
noncomputable def f_X2_ripeOf_J27 (l3 : Int32) (u5 : Int32) : Option ((Int32 × Int32) ⊕ (Int32)) := some (.inl (u5, (l3 + (1 : Int32))))
noncomputable def f_X2_ripeOf_B4 (p0 : Int32) (mem : mi_M) : (Int32 × Int32) → Option ((Int32 × Int32) ⊕ (Int32)) := fun s => match s with | (l2, l3) => if (6 : Int32) ≤ l3 then some (.inr l2) else mi_bo (f_X11_holds p0 l3 mem) fun v4 => if v4 = 0 then f_X2_ripeOf_J27 l3 l2 else mi_g (vp_in l3 6) (mi_let (l2 + (mem.1 24 0 l3.toNatClampNeg)) fun v7 => f_X2_ripeOf_J27 l3 v7)
noncomputable def f_X2_ripeOf_K4 : Int32 → Option (Int32) := fun e1 => some e1
noncomputable def f_X2_ripeOf (p0 : Int32) (mem : mi_M) : Option (Int32) := mi_bo (mi_lp (f_X2_ripeOf_B4 p0 mem) mi_fu ((0 : Int32), (0 : Int32))) (f_X2_ripeOf_K4)
set_option maxRecDepth 100000 in
set_option maxHeartbeats 4000000 in
theorem w_X2_ripeOf (p0 : Int32) (mem : mi_M) (a : Int32) (e : f_X2_ripeOf p0 mem = some a) : mi_Ci (2) mX2_ripeOf [vr 2 0, vi p0] mem (fun x m' => x = a ∧ m' = mem) := by
  unfold mi_Ci
  refine mi_C_intro (ls := [(0, vr 2 0), (1, vi p0)]) (by decide) rfl rfl ?_
  obtain ⟨Q0, hq0, h⟩ : ∃ Q0 : Int32 → Prop, (∀ b, Q0 b → b = a) ∧ wo (f_X2_ripeOf p0 mem) Q0 := ⟨fun b => b = a, fun _ h => h, wo_eq e⟩
  obtain ⟨QX, hQX⟩ : ∃ QX : Option mi_V → mi_M → Prop, QX = (fun r m' => ∃ x, r = some (vi x) ∧ x = a ∧ m' = mem) := ⟨_, rfl⟩
  rw [← hQX]
  unfold f_X2_ripeOf at h
  refine x_iconst (pc := 0) dX2_ripeOf_0 (v := (0 : Int32)) (by decide) ?_
  refine x_istore_n (ls' := [(2, _), (0, _), (1, _)]) (pc := 1) dX2_ripeOf_1 rfl rfl rfl ?_
  refine x_iconst (pc := 2) dX2_ripeOf_2 (v := (0 : Int32)) (by decide) ?_
  refine x_istore_n (ls' := [(3, _), (2, _), (0, _), (1, _)]) (pc := 3) dX2_ripeOf_3 rfl rfl rfl ?_
  have k4_0 : ∀ (e1 : Int32), wo (f_X2_ripeOf_K4 e1) Q0 → mi_X mX2_ripeOf (2) 33 [(2, vi e1)] [] mem QX := by
    intro e1 h
    unfold f_X2_ripeOf_K4 at h
    try dsimp only at h
    refine x_iload_n (pc := 33) dX2_ripeOf_33 rfl ?_
    exact x_iret (pc := 34) dX2_ripeOf_34 rfl (by rw [hQX]; exact ⟨_, rfl, hq0 _ (wo_some h), rfl⟩)
  refine x_sub [(0, _), (1, _), (2, _), (3, _)] ⟨rfl, rfl, rfl, rfl, trivial⟩ ?_
  obtain ⟨ea, eb, h⟩ := wo_bo h
  refine wo_lq (X := fun s => match s with | (l2, l3) => mi_X mX2_ripeOf (2) 4 [(0, vr 2 0), (1, vi p0), (2, vi l2), (3, vi l3)] [] mem QX) (E := fun e => wo (f_X2_ripeOf_K4 e) Q0) ?_ _ ((0 : Int32), (0 : Int32)) ⟨_, eb, h⟩
  intro Q4 hb4 he4 s h
  obtain ⟨l2, l3⟩ := s
  show mi_X mX2_ripeOf (2) 4 [(0, vr 2 0), (1, vi p0), (2, vi l2), (3, vi l3)] [] mem QX
  unfold f_X2_ripeOf_B4 at h
  try dsimp only at h
  refine x_iload_n (pc := 4) dX2_ripeOf_4 rfl ?_
  refine x_bipush (pc := 5) dX2_ripeOf_5 (v := (6 : Int32)) (by decide) ?_
  refine x_icmp_ge (pc := 7) dX2_ripeOf_7 (tgt := 33) (by decide) (fun c9 => ?_) (fun c9 => ?_)
  · replace h := wo_pos c9 h
    refine x_sub [(2, _)] ⟨rfl, trivial⟩ ?_
    exact k4_0 _ (he4 l2 (wo_some h))
  · replace h := wo_neg c9 h
    refine x_iload_n (pc := 10) dX2_ripeOf_10 rfl ?_
    refine x_iload_n (pc := 11) dX2_ripeOf_11 rfl ?_
    refine z_Ni2 (pc := 12) h dX2_ripeOf_12 nX2_96 (by omega) rfl (fun a e => w_X11_holds _ _ _ a e) (fun v4 h => ?_)
    have j27 : ∀ (u5 : Int32), wo (f_X2_ripeOf_J27 l3 u5) Q4 → mi_X mX2_ripeOf (2) 27 [(0, vr 2 0), (1, vi p0), (2, vi u5), (3, vi l3)] [] mem QX := by
      intro u5 h
      unfold f_X2_ripeOf_J27 at h
      refine x_iinc (ls' := [(3, _), (0, _), (1, _), (2, _)]) (pc := 27) dX2_ripeOf_27 rfl (v := l3 + (1 : Int32)) rfl rfl rfl ?_
      refine x_goto (pc := 30) dX2_ripeOf_30 (tgt := 4) (by decide) ?_
      refine x_sub [(0, _), (1, _), (2, _), (3, _)] ⟨rfl, rfl, rfl, rfl, trivial⟩ ?_
      exact hb4 (u5, (l3 + (1 : Int32))) (wo_some h)
    refine x_if_eq (pc := 15) dX2_ripeOf_15 (tgt := 27) (by decide) (fun c8 => ?_) (fun c8 => ?_)
    · replace h := wo_pos c8 h
      refine x_sub [(0, _), (1, _), (2, _), (3, _)] ⟨rfl, rfl, rfl, rfl, trivial⟩ ?_
      exact j27 _ h
    · replace h := wo_neg c8 h
      refine x_iload_n (pc := 18) dX2_ripeOf_18 rfl ?_
      refine x_aload_n (pc := 19) dX2_ripeOf_19 rfl ?_
      refine x_getS (pc := 20) dX2_ripeOf_20 fX2_24 rfl (by decide) ?_
      refine x_iload_n (pc := 23) dX2_ripeOf_23 rfl ?_
      obtain ⟨hx6, h⟩ := wo_g h
      refine x_ialdJ (pc := 24) dX2_ripeOf_24 rfl rfl (by decide) hx6 ?_
      refine x_iadd (pc := 25) dX2_ripeOf_25 ?_
      refine x_leti h (fun v7 h => ?_)
      refine x_istore_n (ls' := [(2, _), (0, _), (1, _), (3, _)]) (pc := 26) dX2_ripeOf_26 rfl rfl rfl ?_
      refine x_sub [(0, _), (1, _), (2, _), (3, _)] ⟨rfl, rfl, rfl, rfl, trivial⟩ ?_
      exact j27 _ h
noncomputable def f_X2_walkOn_J115 (l2 : Int32) (m5 : mi_M) : Option ((Int32 × mi_M) ⊕ (mi_M)) := some (.inl ((l2 + (1 : Int32)), m5))
noncomputable def f_X2_walkOn_B3 (p0 : Nat) (p1 : Int32) (p2 : Int32) (p3 : Int32) : (Int32 × mi_M) → Option ((Int32 × mi_M) ⊕ (mi_M)) := fun s => match s with | (l2, m3) => if (m3.1 8 p0 0) ≤ l2 then some (.inr m3) else mi_g (vp_in l2 6) (if (m3.1 24 0 l2.toNatClampNeg) = 0 then f_X2_walkOn_J115 l2 m3 else mi_bo (f_X11_holds p1 l2 m3) fun v6 => if v6 = 0 then mi_b (f_X9_isThere p0 (63 : Int32) p2 l2 m3) fun v7 m8 => if v7 = 0 then f_X2_walkOn_J115 l2 m8 else mi_g (vp_in ((p1 * (6 : Int32)) + p2) 384) (mi_b (f_X9_minutesOf p0 (63 : Int32) p2 l2 m8) fun v10 m11 => mi_let ((m8.1 25 0 ((p1 * (6 : Int32)) + p2).toNatClampNeg) + v10) fun v12 => mi_let (((p1 ||| ((1 : Int32) <<< (l2 &&& 31))) * (6 : Int32)) + l2) fun v13 => if p3 < v12 then f_X2_walkOn_J115 l2 m11 else mi_g (vp_in v13 384) (mi_let (if v12 < (m11.1 25 0 v13.toNatClampNeg) then v12 else (m11.1 25 0 v13.toNatClampNeg)) fun v15 => mi_g (vp_in v13 384) (mi_let (mi_wI m11 25 0 v13.toNatClampNeg v15) fun m17 => f_X2_walkOn_J115 l2 m17))) else f_X2_walkOn_J115 l2 m3)
noncomputable def f_X2_walkOn_K3 : mi_M → Option (mi_M) := fun m1 => some m1
noncomputable def f_X2_walkOn (p0 : Nat) (p1 : Int32) (p2 : Int32) (p3 : Int32) (mem : mi_M) : Option (mi_M) := mi_bo (mi_lp (f_X2_walkOn_B3 p0 p1 p2 p3) mi_fu ((0 : Int32), mem)) (f_X2_walkOn_K3)
set_option maxRecDepth 100000 in
set_option maxHeartbeats 4000000 in
theorem w_X2_walkOn (p0 : Nat) (p1 : Int32) (p2 : Int32) (p3 : Int32) (hp0 : p0 < mi_n 8) (mem : mi_M) (a : mi_M) (e : f_X2_walkOn p0 p1 p2 p3 mem = some a) : mi_Cv (5) mX2_walkOn [vr 2 0, vr 8 p0, vi p1, vi p2, vi p3] mem (fun m' => m' = a) := by
  unfold mi_Cv
  refine mi_C_intro (ls := [(0, vr 2 0), (1, vr 8 p0), (2, vi p1), (3, vi p2), (4, vi p3)]) (by decide) rfl rfl ?_
  obtain ⟨Q0, hq0, h⟩ : ∃ Q0 : mi_M → Prop, (∀ b, Q0 b → b = a) ∧ wo (f_X2_walkOn p0 p1 p2 p3 mem) Q0 := ⟨fun b => b = a, fun _ h => h, wo_eq e⟩
  obtain ⟨QX, hQX⟩ : ∃ QX : Option mi_V → mi_M → Prop, QX = (fun r m' => r = none ∧ m' = a) := ⟨_, rfl⟩
  rw [← hQX]
  unfold f_X2_walkOn at h
  refine x_iconst (pc := 0) dX2_walkOn_0 (v := (0 : Int32)) (by decide) ?_
  refine x_istore (ls' := [(5, _), (0, _), (1, _), (2, _), (3, _), (4, _)]) (pc := 1) dX2_walkOn_1 rfl rfl ?_
  have k3_0 : ∀ (m1 : mi_M), wo (f_X2_walkOn_K3 m1) Q0 → mi_X mX2_walkOn (5) 121 [] [] m1 QX := by
    intro m1 h
    unfold f_X2_walkOn_K3 at h
    try dsimp only at h
    exact x_ret (pc := 121) dX2_walkOn_121 rfl (by rw [hQX]; exact ⟨rfl, hq0 _ (wo_some h)⟩)
  refine x_sub [(0, _), (1, _), (2, _), (3, _), (4, _), (5, _)] ⟨rfl, rfl, rfl, rfl, rfl, rfl, trivial⟩ ?_
  obtain ⟨ea, eb, h⟩ := wo_bo h
  refine wo_lq (X := fun s => match s with | (l2, m3) => mi_X mX2_walkOn (5) 3 [(0, vr 2 0), (1, vr 8 p0), (2, vi p1), (3, vi p2), (4, vi p3), (5, vi l2)] [] m3 QX) (E := fun e => wo (f_X2_walkOn_K3 e) Q0) ?_ _ ((0 : Int32), mem) ⟨_, eb, h⟩
  intro Q3 hb3 he3 s h
  obtain ⟨l2, m3⟩ := s
  show mi_X mX2_walkOn (5) 3 [(0, vr 2 0), (1, vr 8 p0), (2, vi p1), (3, vi p2), (4, vi p3), (5, vi l2)] [] m3 QX
  unfold f_X2_walkOn_B3 at h
  try dsimp only at h
  refine x_iload (pc := 3) dX2_walkOn_3 rfl ?_
  refine x_aload_n (pc := 5) dX2_walkOn_5 rfl ?_
  refine x_getI (pc := 6) dX2_walkOn_6 fX2_93 rfl hp0 ?_
  refine x_icmp_ge (pc := 9) dX2_walkOn_9 (tgt := 121) (by decide) (fun c22 => ?_) (fun c22 => ?_)
  · replace h := wo_pos c22 h
    refine x_sub [] trivial ?_
    exact k3_0 _ (he3 m3 (wo_some h))
  · replace h := wo_neg c22 h
    refine x_aload_n (pc := 12) dX2_walkOn_12 rfl ?_
    refine x_getS (pc := 13) dX2_walkOn_13 fX2_24 rfl (by decide) ?_
    refine x_iload (pc := 16) dX2_walkOn_16 rfl ?_
    obtain ⟨hx4, h⟩ := wo_g h
    refine x_ialdJ (pc := 18) dX2_walkOn_18 rfl rfl (by decide) hx4 ?_
    have j115 : ∀ (m5 : mi_M), wo (f_X2_walkOn_J115 l2 m5) Q3 → mi_X mX2_walkOn (5) 115 [(0, vr 2 0), (1, vr 8 p0), (2, vi p1), (3, vi p2), (4, vi p3), (5, vi l2)] [] m5 QX := by
      intro m5 h
      unfold f_X2_walkOn_J115 at h
      refine x_iinc (ls' := [(5, _), (0, _), (1, _), (2, _), (3, _), (4, _)]) (pc := 115) dX2_walkOn_115 rfl (v := l2 + (1 : Int32)) rfl rfl rfl ?_
      refine x_goto (pc := 118) dX2_walkOn_118 (tgt := 3) (by decide) ?_
      refine x_sub [(0, _), (1, _), (2, _), (3, _), (4, _), (5, _)] ⟨rfl, rfl, rfl, rfl, rfl, rfl, trivial⟩ ?_
      exact hb3 ((l2 + (1 : Int32)), m5) (wo_some h)
    refine x_if_eq (pc := 19) dX2_walkOn_19 (tgt := 115) (by decide) (fun c21 => ?_) (fun c21 => ?_)
    · replace h := wo_pos c21 h
      refine x_sub [(0, _), (1, _), (2, _), (3, _), (4, _), (5, _)] ⟨rfl, rfl, rfl, rfl, rfl, rfl, trivial⟩ ?_
      exact j115 _ h
    · replace h := wo_neg c21 h
      refine x_iload_n (pc := 22) dX2_walkOn_22 rfl ?_
      refine x_iload (pc := 23) dX2_walkOn_23 rfl ?_
      refine z_Ni2 (pc := 25) h dX2_walkOn_25 nX2_96 (by omega) rfl (fun a e => w_X11_holds _ _ _ a e) (fun v6 h => ?_)
      refine x_if_ne (pc := 28) dX2_walkOn_28 (tgt := 115) (by decide) (fun c20 => ?_) (fun c20 => ?_)
      · replace h := wo_neg c20 h
        refine x_sub [(0, _), (1, _), (2, _), (3, _), (4, _), (5, _)] ⟨rfl, rfl, rfl, rfl, rfl, rfl, trivial⟩ ?_
        exact j115 _ h
      · replace h := wo_pos c20 h
        refine x_aload_n (pc := 31) dX2_walkOn_31 rfl ?_
        refine x_getS (pc := 32) dX2_walkOn_32 fX2_59 rfl hp0 ?_
        refine x_bipush (pc := 35) dX2_walkOn_35 (v := (63 : Int32)) (by decide) ?_
        refine x_iload_n (pc := 37) dX2_walkOn_37 rfl ?_
        refine x_iload (pc := 38) dX2_walkOn_38 rfl ?_
        refine y_Vi3 (pc := 40) h dX2_walkOn_40 lX2_155 hp0 (by omega) rfl (fun a e => w_X9_isThere _ _ _ _ hp0 _ a e) (fun v7 m8 h => ?_)
        refine x_if_ne (pc := 43) dX2_walkOn_43 (tgt := 49) (by decide) (fun c19 => ?_) (fun c19 => ?_)
        · replace h := wo_neg c19 h
          refine x_aload_n (pc := 49) dX2_walkOn_49 rfl ?_
          refine x_getS (pc := 50) dX2_walkOn_50 fX2_27 rfl (by decide) ?_
          refine x_iload_n (pc := 53) dX2_walkOn_53 rfl ?_
          refine x_bipush (pc := 54) dX2_walkOn_54 (v := (6 : Int32)) (by decide) ?_
          refine x_imul (pc := 56) dX2_walkOn_56 ?_
          refine x_iload_n (pc := 57) dX2_walkOn_57 rfl ?_
          refine x_iadd (pc := 58) dX2_walkOn_58 ?_
          obtain ⟨hx9, h⟩ := wo_g h
          refine x_ialdJ (pc := 59) dX2_walkOn_59 rfl rfl (by decide) hx9 ?_
          refine x_aload_n (pc := 60) dX2_walkOn_60 rfl ?_
          refine x_getS (pc := 61) dX2_walkOn_61 fX2_59 rfl hp0 ?_
          refine x_bipush (pc := 64) dX2_walkOn_64 (v := (63 : Int32)) (by decide) ?_
          refine x_iload_n (pc := 66) dX2_walkOn_66 rfl ?_
          refine x_iload (pc := 67) dX2_walkOn_67 rfl ?_
          refine y_Vi3 (pc := 69) h dX2_walkOn_69 lX2_158 hp0 (by omega) rfl (fun a e => w_X9_minutesOf _ _ _ _ hp0 _ a e) (fun v10 m11 h => ?_)
          refine x_iadd (pc := 72) dX2_walkOn_72 ?_
          refine x_leti h (fun v12 h => ?_)
          refine x_istore (ls' := [(6, _), (0, _), (1, _), (2, _), (3, _), (4, _), (5, _)]) (pc := 73) dX2_walkOn_73 rfl rfl ?_
          refine x_iload_n (pc := 75) dX2_walkOn_75 rfl ?_
          refine x_iconst (pc := 76) dX2_walkOn_76 (v := (1 : Int32)) (by decide) ?_
          refine x_iload (pc := 77) dX2_walkOn_77 rfl ?_
          refine x_ishl (pc := 79) dX2_walkOn_79 ?_
          refine x_ior (pc := 80) dX2_walkOn_80 ?_
          refine x_bipush (pc := 81) dX2_walkOn_81 (v := (6 : Int32)) (by decide) ?_
          refine x_imul (pc := 83) dX2_walkOn_83 ?_
          refine x_iload (pc := 84) dX2_walkOn_84 rfl ?_
          refine x_iadd (pc := 86) dX2_walkOn_86 ?_
          refine x_leti h (fun v13 h => ?_)
          refine x_istore (ls' := [(7, _), (6, _), (0, _), (1, _), (2, _), (3, _), (4, _), (5, _)]) (pc := 87) dX2_walkOn_87 rfl rfl ?_
          refine x_iload (pc := 89) dX2_walkOn_89 rfl ?_
          refine x_iload (pc := 91) dX2_walkOn_91 rfl ?_
          refine x_icmp_gt (pc := 93) dX2_walkOn_93 (tgt := 115) (by decide) (fun c18 => ?_) (fun c18 => ?_)
          · replace h := wo_pos c18 h
            refine x_sub [(0, _), (1, _), (2, _), (3, _), (4, _), (5, _)] ⟨rfl, rfl, rfl, rfl, rfl, rfl, trivial⟩ ?_
            exact j115 _ h
          · replace h := wo_neg c18 h
            refine x_aload_n (pc := 96) dX2_walkOn_96 rfl ?_
            refine x_getS (pc := 97) dX2_walkOn_97 fX2_27 rfl (by decide) ?_
            refine x_iload (pc := 100) dX2_walkOn_100 rfl ?_
            refine x_aload_n (pc := 102) dX2_walkOn_102 rfl ?_
            refine x_getS (pc := 103) dX2_walkOn_103 fX2_27 rfl (by decide) ?_
            refine x_iload (pc := 106) dX2_walkOn_106 rfl ?_
            obtain ⟨hx14, h⟩ := wo_g h
            refine x_ialdJ (pc := 108) dX2_walkOn_108 rfl rfl (by decide) hx14 ?_
            refine x_iload (pc := 109) dX2_walkOn_109 rfl ?_
            refine x_mmin (pc := 111) dX2_walkOn_111 lX2_161 (by omega) rfl ?_
            refine x_leti h (fun v15 h => ?_)
            obtain ⟨hx16, h⟩ := wo_g h
            refine x_iastJ (pc := 114) dX2_walkOn_114 rfl rfl (by decide) rfl hx16 ?_
            refine x_letm h (fun m17 h => ?_)
            refine x_sub [(0, _), (1, _), (2, _), (3, _), (4, _), (5, _)] ⟨rfl, rfl, rfl, rfl, rfl, rfl, trivial⟩ ?_
            exact j115 _ h
        · replace h := wo_pos c19 h
          refine x_goto (pc := 46) dX2_walkOn_46 (tgt := 115) (by decide) ?_
          refine x_sub [(0, _), (1, _), (2, _), (3, _), (4, _), (5, _)] ⟨rfl, rfl, rfl, rfl, rfl, rfl, trivial⟩ ?_
          exact j115 _ h
noncomputable def f_X2_walkRounds_J110 (l10 : Int32) (m13 : mi_M) : Option ((Int32 × mi_M) ⊕ (mi_M)) := some (.inl ((l10 + (1 : Int32)), m13))
noncomputable def f_X2_walkRounds_B73 (p0 : Nat) (p2 : Int32) (l7 : Int32) : (Int32 × mi_M) → Option ((Int32 × mi_M) ⊕ (mi_M)) := fun s => match s with | (l10, m11) => if (m11.1 8 p0 0) ≤ l10 then some (.inr m11) else mi_g (vp_in ((l7 * (6 : Int32)) + l10) 384) (if (1048576 : Int32) ≤ (m11.1 25 0 ((l7 * (6 : Int32)) + l10).toNatClampNeg) then f_X2_walkRounds_J110 l10 m11 else mi_bo (f_X2_walkOn p0 l7 l10 p2 m11) fun m14 => f_X2_walkRounds_J110 l10 m14)
noncomputable def f_X2_walkRounds_K73 (l7 : Int32) : mi_M → Option ((Int32 × mi_M) ⊕ (mi_M)) := fun m9 => some (.inl ((l7 + (1 : Int32)), m9))
noncomputable def f_X2_walkRounds_B63 (p0 : Nat) (p2 : Int32) : (Int32 × mi_M) → Option ((Int32 × mi_M) ⊕ (mi_M)) := fun s => match s with | (l7, m8) => if (64 : Int32) ≤ l7 then some (.inr m8) else mi_bo (mi_lp (f_X2_walkRounds_B73 p0 p2 l7) mi_fu ((0 : Int32), m8)) (f_X2_walkRounds_K73 l7)
noncomputable def f_X2_walkRounds_K63 : mi_M → Option (mi_M) := fun m6 => some m6
noncomputable def f_X2_walkRounds_J44 (p0 : Nat) (p1 : Int32) (p2 : Int32) (m1 : mi_M) (u3 : Int32) : Option (mi_M) := mi_g (vp_in ((u3 * (6 : Int32)) + p1) 384) (mi_let (mi_wI m1 25 0 ((u3 * (6 : Int32)) + p1).toNatClampNeg (0 : Int32)) fun m5 => mi_bo (mi_lp (f_X2_walkRounds_B63 p0 p2) mi_fu (u3, m5)) (f_X2_walkRounds_K63))
noncomputable def f_X2_walkRounds_B3 : (Int32 × mi_M) → Option ((Int32 × mi_M) ⊕ (mi_M)) := fun s => match s with | (l19, m20) => if (384 : Int32) ≤ l19 then some (.inr m20) else mi_g (vp_in l19 384) (mi_let (mi_wI m20 25 0 l19.toNatClampNeg (1048576 : Int32)) fun m22 => some (.inl ((l19 + (1 : Int32)), m22)))
noncomputable def f_X2_walkRounds_K3 (p0 : Nat) (p1 : Int32) (p2 : Int32) : mi_M → Option (mi_M) := fun m1 => mi_g (vp_in p1 6) (if (m1.1 24 0 p1.toNatClampNeg) ≤ 0 then f_X2_walkRounds_J44 p0 p1 p2 m1 (0 : Int32) else f_X2_walkRounds_J44 p0 p1 p2 m1 ((1 : Int32) <<< (p1 &&& 31)))
noncomputable def f_X2_walkRounds (p0 : Nat) (p1 : Int32) (p2 : Int32) (mem : mi_M) : Option (mi_M) := mi_bo (mi_lp (f_X2_walkRounds_B3) mi_fu ((0 : Int32), mem)) (f_X2_walkRounds_K3 p0 p1 p2)
set_option maxRecDepth 100000 in
set_option maxHeartbeats 4000000 in
theorem w_X2_walkRounds (p0 : Nat) (p1 : Int32) (p2 : Int32) (hp0 : p0 < mi_n 8) (mem : mi_M) (a : mi_M) (e : f_X2_walkRounds p0 p1 p2 mem = some a) : mi_Cv (6) mX2_walkRounds [vr 2 0, vr 8 p0, vi p1, vi p2] mem (fun m' => m' = a) := by
  unfold mi_Cv
  refine mi_C_intro (ls := [(0, vr 2 0), (1, vr 8 p0), (2, vi p1), (3, vi p2)]) (by decide) rfl rfl ?_
  obtain ⟨Q0, hq0, h⟩ : ∃ Q0 : mi_M → Prop, (∀ b, Q0 b → b = a) ∧ wo (f_X2_walkRounds p0 p1 p2 mem) Q0 := ⟨fun b => b = a, fun _ h => h, wo_eq e⟩
  obtain ⟨QX, hQX⟩ : ∃ QX : Option mi_V → mi_M → Prop, QX = (fun r m' => r = none ∧ m' = a) := ⟨_, rfl⟩
  rw [← hQX]
  unfold f_X2_walkRounds at h
  refine x_iconst (pc := 0) dX2_walkRounds_0 (v := (0 : Int32)) (by decide) ?_
  refine x_istore (ls' := [(4, _), (0, _), (1, _), (2, _), (3, _)]) (pc := 1) dX2_walkRounds_1 rfl rfl ?_
  have k3_0 : ∀ (m1 : mi_M), wo (f_X2_walkRounds_K3 p0 p1 p2 m1) Q0 → mi_X mX2_walkRounds (6) 28 [(0, vr 2 0), (1, vr 8 p0), (2, vi p1), (3, vi p2)] [] m1 QX := by
    intro m1 h
    unfold f_X2_walkRounds_K3 at h
    try dsimp only at h
    refine x_aload_n (pc := 28) dX2_walkRounds_28 rfl ?_
    refine x_getS (pc := 29) dX2_walkRounds_29 fX2_24 rfl (by decide) ?_
    refine x_iload_n (pc := 32) dX2_walkRounds_32 rfl ?_
    obtain ⟨hx2, h⟩ := wo_g h
    refine x_ialdJ (pc := 33) dX2_walkRounds_33 rfl rfl (by decide) hx2 ?_
    have j44 : ∀ (u3 : Int32), wo (f_X2_walkRounds_J44 p0 p1 p2 m1 u3) Q0 → mi_X mX2_walkRounds (6) 44 [(0, vr 2 0), (1, vr 8 p0), (2, vi p1), (3, vi p2)] [vi u3] m1 QX := by
      intro u3 h
      unfold f_X2_walkRounds_J44 at h
      refine x_istore (ls' := [(4, _), (0, _), (1, _), (2, _), (3, _)]) (pc := 44) dX2_walkRounds_44 rfl rfl ?_
      refine x_aload_n (pc := 46) dX2_walkRounds_46 rfl ?_
      refine x_getS (pc := 47) dX2_walkRounds_47 fX2_27 rfl (by decide) ?_
      refine x_iload (pc := 50) dX2_walkRounds_50 rfl ?_
      refine x_bipush (pc := 52) dX2_walkRounds_52 (v := (6 : Int32)) (by decide) ?_
      refine x_imul (pc := 54) dX2_walkRounds_54 ?_
      refine x_iload_n (pc := 55) dX2_walkRounds_55 rfl ?_
      refine x_iadd (pc := 56) dX2_walkRounds_56 ?_
      refine x_iconst (pc := 57) dX2_walkRounds_57 (v := (0 : Int32)) (by decide) ?_
      obtain ⟨hx4, h⟩ := wo_g h
      refine x_iastJ (pc := 58) dX2_walkRounds_58 rfl rfl (by decide) rfl hx4 ?_
      refine x_letm h (fun m5 h => ?_)
      refine x_iload (pc := 59) dX2_walkRounds_59 rfl ?_
      refine x_istore (ls' := [(5, _), (4, _), (0, _), (1, _), (2, _), (3, _)]) (pc := 61) dX2_walkRounds_61 rfl rfl ?_
      have k63_0 : ∀ (m6 : mi_M), wo (f_X2_walkRounds_K63 m6) Q0 → mi_X mX2_walkRounds (6) 122 [] [] m6 QX := by
        intro m6 h
        unfold f_X2_walkRounds_K63 at h
        try dsimp only at h
        exact x_ret (pc := 122) dX2_walkRounds_122 rfl (by rw [hQX]; exact ⟨rfl, hq0 _ (wo_some h)⟩)
      refine x_sub [(0, _), (1, _), (3, _), (5, _)] ⟨rfl, rfl, rfl, rfl, trivial⟩ ?_
      obtain ⟨ea, eb, h⟩ := wo_bo h
      refine wo_lq (X := fun s => match s with | (l7, m8) => mi_X mX2_walkRounds (6) 63 [(0, vr 2 0), (1, vr 8 p0), (3, vi p2), (5, vi l7)] [] m8 QX) (E := fun e => wo (f_X2_walkRounds_K63 e) Q0) ?_ _ (u3, m5) ⟨_, eb, h⟩
      intro Q63 hb63 he63 s h
      obtain ⟨l7, m8⟩ := s
      show mi_X mX2_walkRounds (6) 63 [(0, vr 2 0), (1, vr 8 p0), (3, vi p2), (5, vi l7)] [] m8 QX
      unfold f_X2_walkRounds_B63 at h
      try dsimp only at h
      refine x_iload (pc := 63) dX2_walkRounds_63 rfl ?_
      refine x_bipush (pc := 65) dX2_walkRounds_65 (v := (64 : Int32)) (by decide) ?_
      refine x_icmp_ge (pc := 67) dX2_walkRounds_67 (tgt := 122) (by decide) (fun c17 => ?_) (fun c17 => ?_)
      · replace h := wo_pos c17 h
        refine x_sub [] trivial ?_
        exact k63_0 _ (he63 m8 (wo_some h))
      · replace h := wo_neg c17 h
        refine x_iconst (pc := 70) dX2_walkRounds_70 (v := (0 : Int32)) (by decide) ?_
        refine x_istore (ls' := [(6, _), (0, _), (1, _), (3, _), (5, _)]) (pc := 71) dX2_walkRounds_71 rfl rfl ?_
        have k73_0 : ∀ (m9 : mi_M), wo (f_X2_walkRounds_K73 l7 m9) Q63 → mi_X mX2_walkRounds (6) 116 [(0, vr 2 0), (1, vr 8 p0), (3, vi p2), (5, vi l7)] [] m9 QX := by
          intro m9 h
          unfold f_X2_walkRounds_K73 at h
          try dsimp only at h
          refine x_iinc (ls' := [(5, _), (0, _), (1, _), (3, _)]) (pc := 116) dX2_walkRounds_116 rfl (v := l7 + (1 : Int32)) rfl rfl rfl ?_
          refine x_goto (pc := 119) dX2_walkRounds_119 (tgt := 63) (by decide) ?_
          refine x_sub [(0, _), (1, _), (3, _), (5, _)] ⟨rfl, rfl, rfl, rfl, trivial⟩ ?_
          exact hb63 ((l7 + (1 : Int32)), m9) (wo_some h)
        refine x_sub [(0, _), (1, _), (3, _), (5, _), (6, _)] ⟨rfl, rfl, rfl, rfl, rfl, trivial⟩ ?_
        obtain ⟨ea, eb, h⟩ := wo_bo h
        refine wo_lq (X := fun s => match s with | (l10, m11) => mi_X mX2_walkRounds (6) 73 [(0, vr 2 0), (1, vr 8 p0), (3, vi p2), (5, vi l7), (6, vi l10)] [] m11 QX) (E := fun e => wo (f_X2_walkRounds_K73 l7 e) Q63) ?_ _ ((0 : Int32), m8) ⟨_, eb, h⟩
        intro Q73 hb73 he73 s h
        obtain ⟨l10, m11⟩ := s
        show mi_X mX2_walkRounds (6) 73 [(0, vr 2 0), (1, vr 8 p0), (3, vi p2), (5, vi l7), (6, vi l10)] [] m11 QX
        unfold f_X2_walkRounds_B73 at h
        try dsimp only at h
        refine x_iload (pc := 73) dX2_walkRounds_73 rfl ?_
        refine x_aload_n (pc := 75) dX2_walkRounds_75 rfl ?_
        refine x_getI (pc := 76) dX2_walkRounds_76 fX2_93 rfl hp0 ?_
        refine x_icmp_ge (pc := 79) dX2_walkRounds_79 (tgt := 116) (by decide) (fun c16 => ?_) (fun c16 => ?_)
        · replace h := wo_pos c16 h
          refine x_sub [(0, _), (1, _), (3, _), (5, _)] ⟨rfl, rfl, rfl, rfl, trivial⟩ ?_
          exact k73_0 _ (he73 m11 (wo_some h))
        · replace h := wo_neg c16 h
          refine x_aload_n (pc := 82) dX2_walkRounds_82 rfl ?_
          refine x_getS (pc := 83) dX2_walkRounds_83 fX2_27 rfl (by decide) ?_
          refine x_iload (pc := 86) dX2_walkRounds_86 rfl ?_
          refine x_bipush (pc := 88) dX2_walkRounds_88 (v := (6 : Int32)) (by decide) ?_
          refine x_imul (pc := 90) dX2_walkRounds_90 ?_
          refine x_iload (pc := 91) dX2_walkRounds_91 rfl ?_
          refine x_iadd (pc := 93) dX2_walkRounds_93 ?_
          obtain ⟨hx12, h⟩ := wo_g h
          refine x_ialdJ (pc := 94) dX2_walkRounds_94 rfl rfl (by decide) hx12 ?_
          refine x_ldc (pc := 95) dX2_walkRounds_95 kX2_147 ?_
          have j110 : ∀ (m13 : mi_M), wo (f_X2_walkRounds_J110 l10 m13) Q73 → mi_X mX2_walkRounds (6) 110 [(0, vr 2 0), (1, vr 8 p0), (3, vi p2), (5, vi l7), (6, vi l10)] [] m13 QX := by
            intro m13 h
            unfold f_X2_walkRounds_J110 at h
            refine x_iinc (ls' := [(6, _), (0, _), (1, _), (3, _), (5, _)]) (pc := 110) dX2_walkRounds_110 rfl (v := l10 + (1 : Int32)) rfl rfl rfl ?_
            refine x_goto (pc := 113) dX2_walkRounds_113 (tgt := 73) (by decide) ?_
            refine x_sub [(0, _), (1, _), (3, _), (5, _), (6, _)] ⟨rfl, rfl, rfl, rfl, rfl, trivial⟩ ?_
            exact hb73 ((l10 + (1 : Int32)), m13) (wo_some h)
          refine x_icmp_ge (pc := 97) dX2_walkRounds_97 (tgt := 110) (by decide) (fun c15 => ?_) (fun c15 => ?_)
          · replace h := wo_pos c15 h
            refine x_sub [(0, _), (1, _), (3, _), (5, _), (6, _)] ⟨rfl, rfl, rfl, rfl, rfl, trivial⟩ ?_
            exact j110 _ h
          · replace h := wo_neg c15 h
            refine x_aload_n (pc := 100) dX2_walkRounds_100 rfl ?_
            refine x_aload_n (pc := 101) dX2_walkRounds_101 rfl ?_
            refine x_iload (pc := 102) dX2_walkRounds_102 rfl ?_
            refine x_iload (pc := 104) dX2_walkRounds_104 rfl ?_
            refine x_iload_n (pc := 106) dX2_walkRounds_106 rfl ?_
            refine y_Vv4 (pc := 107) h dX2_walkRounds_107 lX2_151 (by decide) (by omega) rfl (fun a e => w_X2_walkOn _ _ _ _ hp0 _ a e) (fun m14 h => ?_)
            refine x_sub [(0, _), (1, _), (3, _), (5, _), (6, _)] ⟨rfl, rfl, rfl, rfl, rfl, trivial⟩ ?_
            exact j110 _ h
    refine x_if_le (pc := 34) dX2_walkRounds_34 (tgt := 43) (by decide) (fun c18 => ?_) (fun c18 => ?_)
    · replace h := wo_pos c18 h
      refine x_iconst (pc := 43) dX2_walkRounds_43 (v := (0 : Int32)) (by decide) ?_
      refine x_sub [(0, _), (1, _), (2, _), (3, _)] ⟨rfl, rfl, rfl, rfl, trivial⟩ ?_
      exact j44 _ h
    · replace h := wo_neg c18 h
      refine x_iconst (pc := 37) dX2_walkRounds_37 (v := (1 : Int32)) (by decide) ?_
      refine x_iload_n (pc := 38) dX2_walkRounds_38 rfl ?_
      refine x_ishl (pc := 39) dX2_walkRounds_39 ?_
      refine x_goto (pc := 40) dX2_walkRounds_40 (tgt := 44) (by decide) ?_
      refine x_sub [(0, _), (1, _), (2, _), (3, _)] ⟨rfl, rfl, rfl, rfl, trivial⟩ ?_
      exact j44 _ h
  refine x_sub [(0, _), (1, _), (2, _), (3, _), (4, _)] ⟨rfl, rfl, rfl, rfl, rfl, trivial⟩ ?_
  obtain ⟨ea, eb, h⟩ := wo_bo h
  refine wo_lq (X := fun s => match s with | (l19, m20) => mi_X mX2_walkRounds (6) 3 [(0, vr 2 0), (1, vr 8 p0), (2, vi p1), (3, vi p2), (4, vi l19)] [] m20 QX) (E := fun e => wo (f_X2_walkRounds_K3 p0 p1 p2 e) Q0) ?_ _ ((0 : Int32), mem) ⟨_, eb, h⟩
  intro Q3 hb3 he3 s h
  obtain ⟨l19, m20⟩ := s
  show mi_X mX2_walkRounds (6) 3 [(0, vr 2 0), (1, vr 8 p0), (2, vi p1), (3, vi p2), (4, vi l19)] [] m20 QX
  unfold f_X2_walkRounds_B3 at h
  try dsimp only at h
  refine x_iload (pc := 3) dX2_walkRounds_3 rfl ?_
  refine x_aload_n (pc := 5) dX2_walkRounds_5 rfl ?_
  refine x_getS (pc := 6) dX2_walkRounds_6 fX2_27 rfl (by decide) ?_
  refine x_alen (pc := 9) dX2_walkRounds_9 rfl (by decide) rfl (by decide) (v := (384 : Int32)) (by decide) ?_
  refine x_icmp_ge (pc := 10) dX2_walkRounds_10 (tgt := 28) (by decide) (fun c23 => ?_) (fun c23 => ?_)
  · replace h := wo_pos c23 h
    refine x_sub [(0, _), (1, _), (2, _), (3, _)] ⟨rfl, rfl, rfl, rfl, trivial⟩ ?_
    exact k3_0 _ (he3 m20 (wo_some h))
  · replace h := wo_neg c23 h
    refine x_aload_n (pc := 13) dX2_walkRounds_13 rfl ?_
    refine x_getS (pc := 14) dX2_walkRounds_14 fX2_27 rfl (by decide) ?_
    refine x_iload (pc := 17) dX2_walkRounds_17 rfl ?_
    refine x_ldc (pc := 19) dX2_walkRounds_19 kX2_147 ?_
    obtain ⟨hx21, h⟩ := wo_g h
    refine x_iastJ (pc := 21) dX2_walkRounds_21 rfl rfl (by decide) rfl hx21 ?_
    refine x_letm h (fun m22 h => ?_)
    refine x_iinc (ls' := [(4, _), (0, _), (1, _), (2, _), (3, _)]) (pc := 22) dX2_walkRounds_22 rfl (v := l19 + (1 : Int32)) rfl rfl rfl ?_
    refine x_goto (pc := 25) dX2_walkRounds_25 (tgt := 3) (by decide) ?_
    refine x_sub [(0, _), (1, _), (2, _), (3, _), (4, _)] ⟨rfl, rfl, rfl, rfl, rfl, trivial⟩ ?_
    exact hb3 ((l19 + (1 : Int32)), m22) (wo_some h)
noncomputable def f_X2_bestRound_J111 (l7 : Int32) (m11 : mi_M) : Option ((Int32 × mi_M) ⊕ (mi_M)) := some (.inl ((l7 + (1 : Int32)), m11))
noncomputable def f_X2_bestRound_J87 (l7 : Int32) (m8 : mi_M) (v9 : Int32) (v10 : Int32) : Option ((Int32 × mi_M) ⊕ (mi_M)) := mi_g (vp_in (0 : Int32) 3) (mi_let (mi_wI m8 27 0 (0 : Int32).toNatClampNeg v10) fun m14 => mi_g (vp_in (1 : Int32) 3) (mi_let (mi_wI m14 27 0 (1 : Int32).toNatClampNeg v9) fun m16 => mi_g (vp_in (2 : Int32) 3) (mi_let (mi_wI m16 27 0 (2 : Int32).toNatClampNeg l7) fun m18 => f_X2_bestRound_J111 l7 m18)))
noncomputable def f_X2_bestRound_B24 : (Int32 × mi_M) → Option ((Int32 × mi_M) ⊕ (mi_M)) := fun s => match s with | (l7, m8) => if (64 : Int32) ≤ l7 then some (.inr m8) else mi_bo (f_X2_leastWalked l7 m8) fun v9 => mi_bo (f_X2_ripeOf l7 m8) fun v10 => if (1048576 : Int32) ≤ v9 then f_X2_bestRound_J111 l7 m8 else mi_g (vp_in (0 : Int32) 3) (if (m8.1 27 0 (0 : Int32).toNatClampNeg) < v10 then f_X2_bestRound_J87 l7 m8 v9 v10 else mi_g (vp_in (0 : Int32) 3) (if v10 = (m8.1 27 0 (0 : Int32).toNatClampNeg) then mi_g (vp_in (1 : Int32) 3) (if (m8.1 27 0 (1 : Int32).toNatClampNeg) ≤ v9 then f_X2_bestRound_J111 l7 m8 else f_X2_bestRound_J87 l7 m8 v9 v10) else f_X2_bestRound_J111 l7 m8))
noncomputable def f_X2_bestRound_K24 (p4 : Int32) : mi_M → Option (Int32 × mi_M) := fun m5 => mi_g (vp_in p4 3) (some ((m5.1 27 0 p4.toNatClampNeg), m5))
noncomputable def f_X2_bestRound (p0 : Nat) (p1 : Nat) (p2 : Int32) (p3 : Int32) (p4 : Int32) (mem : mi_M) : Option (Int32 × mi_M) := mi_bo (f_X2_countRipe p0 p1 mem) fun m1 => mi_bo (f_X2_walkRounds p0 p2 p3 m1) fun m2 => mi_g (vp_in (0 : Int32) 3) (mi_let (mi_wI m2 27 0 (0 : Int32).toNatClampNeg (-1 : Int32)) fun m4 => mi_bo (mi_lp (f_X2_bestRound_B24) mi_fu ((0 : Int32), m4)) (f_X2_bestRound_K24 p4))
set_option maxRecDepth 100000 in
set_option maxHeartbeats 4000000 in
theorem w_X2_bestRound (p0 : Nat) (p1 : Nat) (p2 : Int32) (p3 : Int32) (p4 : Int32) (hp0 : p0 < mi_n 8) (hp1 : p1 < mi_n 5) (mem : mi_M) (a : Int32 × mi_M) (e : f_X2_bestRound p0 p1 p2 p3 p4 mem = some a) : mi_Ci (7) mX2_bestRound [vr 2 0, vr 8 p0, vr 5 p1, vi p2, vi p3, vi p4] mem (fun x m' => x = a.1 ∧ m' = a.2) := by
  unfold mi_Ci
  refine mi_C_intro (ls := [(0, vr 2 0), (1, vr 8 p0), (2, vr 5 p1), (3, vi p2), (4, vi p3), (5, vi p4)]) (by decide) rfl rfl ?_
  obtain ⟨Q0, hq0, h⟩ : ∃ Q0 : (Int32 × mi_M) → Prop, (∀ b, Q0 b → b = a) ∧ wo (f_X2_bestRound p0 p1 p2 p3 p4 mem) Q0 := ⟨fun b => b = a, fun _ h => h, wo_eq e⟩
  obtain ⟨QX, hQX⟩ : ∃ QX : Option mi_V → mi_M → Prop, QX = (fun r m' => ∃ x, r = some (vi x) ∧ x = a.1 ∧ m' = a.2) := ⟨_, rfl⟩
  rw [← hQX]
  unfold f_X2_bestRound at h
  refine x_aload_n (pc := 0) dX2_bestRound_0 rfl ?_
  refine x_aload_n (pc := 1) dX2_bestRound_1 rfl ?_
  refine x_aload_n (pc := 2) dX2_bestRound_2 rfl ?_
  refine y_Vv2 (pc := 3) h dX2_bestRound_3 lX2_134 (by decide) (by omega) rfl (fun a e => w_X2_countRipe _ _ hp0 hp1 _ a e) (fun m1 h => ?_)
  refine x_aload_n (pc := 6) dX2_bestRound_6 rfl ?_
  refine x_aload_n (pc := 7) dX2_bestRound_7 rfl ?_
  refine x_iload_n (pc := 8) dX2_bestRound_8 rfl ?_
  refine x_iload (pc := 9) dX2_bestRound_9 rfl ?_
  refine y_Vv3 (pc := 11) h dX2_bestRound_11 lX2_137 (by decide) (by omega) rfl (fun a e => w_X2_walkRounds _ _ _ hp0 _ a e) (fun m2 h => ?_)
  refine x_aload_n (pc := 14) dX2_bestRound_14 rfl ?_
  refine x_getS (pc := 15) dX2_bestRound_15 fX2_33 rfl (by decide) ?_
  refine x_iconst (pc := 18) dX2_bestRound_18 (v := (0 : Int32)) (by decide) ?_
  refine x_iconst (pc := 19) dX2_bestRound_19 (v := (-1 : Int32)) (by decide) ?_
  obtain ⟨hx3, h⟩ := wo_g h
  refine x_iastJ (pc := 20) dX2_bestRound_20 rfl rfl (by decide) rfl hx3 ?_
  refine x_letm h (fun m4 h => ?_)
  refine x_iconst (pc := 21) dX2_bestRound_21 (v := (0 : Int32)) (by decide) ?_
  refine x_istore (ls' := [(6, _), (0, _), (1, _), (2, _), (3, _), (4, _), (5, _)]) (pc := 22) dX2_bestRound_22 rfl rfl ?_
  have k24_0 : ∀ (m5 : mi_M), wo (f_X2_bestRound_K24 p4 m5) Q0 → mi_X mX2_bestRound (7) 117 [(0, vr 2 0), (5, vi p4)] [] m5 QX := by
    intro m5 h
    unfold f_X2_bestRound_K24 at h
    try dsimp only at h
    refine x_aload_n (pc := 117) dX2_bestRound_117 rfl ?_
    refine x_getS (pc := 118) dX2_bestRound_118 fX2_33 rfl (by decide) ?_
    refine x_iload (pc := 121) dX2_bestRound_121 rfl ?_
    obtain ⟨hx6, h⟩ := wo_g h
    refine x_ialdJ (pc := 123) dX2_bestRound_123 rfl rfl (by decide) hx6 ?_
    exact x_iret (pc := 124) dX2_bestRound_124 rfl (by rw [hQX]; exact ⟨_, rfl, congrArg Prod.fst (hq0 _ (wo_some h)), congrArg Prod.snd (hq0 _ (wo_some h))⟩)
  refine x_sub [(0, _), (5, _), (6, _)] ⟨rfl, rfl, rfl, trivial⟩ ?_
  obtain ⟨ea, eb, h⟩ := wo_bo h
  refine wo_lq (X := fun s => match s with | (l7, m8) => mi_X mX2_bestRound (7) 24 [(0, vr 2 0), (5, vi p4), (6, vi l7)] [] m8 QX) (E := fun e => wo (f_X2_bestRound_K24 p4 e) Q0) ?_ _ ((0 : Int32), m4) ⟨_, eb, h⟩
  intro Q24 hb24 he24 s h
  obtain ⟨l7, m8⟩ := s
  show mi_X mX2_bestRound (7) 24 [(0, vr 2 0), (5, vi p4), (6, vi l7)] [] m8 QX
  unfold f_X2_bestRound_B24 at h
  try dsimp only at h
  refine x_iload (pc := 24) dX2_bestRound_24 rfl ?_
  refine x_bipush (pc := 26) dX2_bestRound_26 (v := (64 : Int32)) (by decide) ?_
  refine x_icmp_ge (pc := 28) dX2_bestRound_28 (tgt := 117) (by decide) (fun c25 => ?_) (fun c25 => ?_)
  · replace h := wo_pos c25 h
    refine x_sub [(0, _), (5, _)] ⟨rfl, rfl, trivial⟩ ?_
    exact k24_0 _ (he24 m8 (wo_some h))
  · replace h := wo_neg c25 h
    refine x_aload_n (pc := 31) dX2_bestRound_31 rfl ?_
    refine x_iload (pc := 32) dX2_bestRound_32 rfl ?_
    refine z_Vi1 (pc := 34) h dX2_bestRound_34 lX2_141 (by decide) (by omega) rfl (fun a e => w_X2_leastWalked _ _ a e) (fun v9 h => ?_)
    refine x_istore (ls' := [(7, _), (0, _), (5, _), (6, _)]) (pc := 37) dX2_bestRound_37 rfl rfl ?_
    refine x_aload_n (pc := 39) dX2_bestRound_39 rfl ?_
    refine x_iload (pc := 40) dX2_bestRound_40 rfl ?_
    refine z_Vi1 (pc := 42) h dX2_bestRound_42 lX2_144 (by decide) (by omega) rfl (fun a e => w_X2_ripeOf _ _ a e) (fun v10 h => ?_)
    refine x_istore (ls' := [(8, _), (7, _), (0, _), (5, _), (6, _)]) (pc := 45) dX2_bestRound_45 rfl rfl ?_
    refine x_iload (pc := 47) dX2_bestRound_47 rfl ?_
    refine x_ldc (pc := 49) dX2_bestRound_49 kX2_147 ?_
    have j111 : ∀ (m11 : mi_M), wo (f_X2_bestRound_J111 l7 m11) Q24 → mi_X mX2_bestRound (7) 111 [(0, vr 2 0), (5, vi p4), (6, vi l7)] [] m11 QX := by
      intro m11 h
      unfold f_X2_bestRound_J111 at h
      refine x_iinc (ls' := [(6, _), (0, _), (5, _)]) (pc := 111) dX2_bestRound_111 rfl (v := l7 + (1 : Int32)) rfl rfl rfl ?_
      refine x_goto (pc := 114) dX2_bestRound_114 (tgt := 24) (by decide) ?_
      refine x_sub [(0, _), (5, _), (6, _)] ⟨rfl, rfl, rfl, trivial⟩ ?_
      exact hb24 ((l7 + (1 : Int32)), m11) (wo_some h)
    refine x_icmp_ge (pc := 51) dX2_bestRound_51 (tgt := 111) (by decide) (fun c24 => ?_) (fun c24 => ?_)
    · replace h := wo_pos c24 h
      refine x_sub [(0, _), (5, _), (6, _)] ⟨rfl, rfl, rfl, trivial⟩ ?_
      exact j111 _ h
    · replace h := wo_neg c24 h
      refine x_iload (pc := 54) dX2_bestRound_54 rfl ?_
      refine x_aload_n (pc := 56) dX2_bestRound_56 rfl ?_
      refine x_getS (pc := 57) dX2_bestRound_57 fX2_33 rfl (by decide) ?_
      refine x_iconst (pc := 60) dX2_bestRound_60 (v := (0 : Int32)) (by decide) ?_
      obtain ⟨hx12, h⟩ := wo_g h
      refine x_ialdJ (pc := 61) dX2_bestRound_61 rfl rfl (by decide) hx12 ?_
      have j87 : wo (f_X2_bestRound_J87 l7 m8 v9 v10) Q24 → mi_X mX2_bestRound (7) 87 [(0, vr 2 0), (5, vi p4), (6, vi l7), (7, vi v9), (8, vi v10)] [] m8 QX := by
        intro h
        unfold f_X2_bestRound_J87 at h
        refine x_aload_n (pc := 87) dX2_bestRound_87 rfl ?_
        refine x_getS (pc := 88) dX2_bestRound_88 fX2_33 rfl (by decide) ?_
        refine x_iconst (pc := 91) dX2_bestRound_91 (v := (0 : Int32)) (by decide) ?_
        refine x_iload (pc := 92) dX2_bestRound_92 rfl ?_
        obtain ⟨hx13, h⟩ := wo_g h
        refine x_iastJ (pc := 94) dX2_bestRound_94 rfl rfl (by decide) rfl hx13 ?_
        refine x_letm h (fun m14 h => ?_)
        refine x_aload_n (pc := 95) dX2_bestRound_95 rfl ?_
        refine x_getS (pc := 96) dX2_bestRound_96 fX2_33 rfl (by decide) ?_
        refine x_iconst (pc := 99) dX2_bestRound_99 (v := (1 : Int32)) (by decide) ?_
        refine x_iload (pc := 100) dX2_bestRound_100 rfl ?_
        obtain ⟨hx15, h⟩ := wo_g h
        refine x_iastJ (pc := 102) dX2_bestRound_102 rfl rfl (by decide) rfl hx15 ?_
        refine x_letm h (fun m16 h => ?_)
        refine x_aload_n (pc := 103) dX2_bestRound_103 rfl ?_
        refine x_getS (pc := 104) dX2_bestRound_104 fX2_33 rfl (by decide) ?_
        refine x_iconst (pc := 107) dX2_bestRound_107 (v := (2 : Int32)) (by decide) ?_
        refine x_iload (pc := 108) dX2_bestRound_108 rfl ?_
        obtain ⟨hx17, h⟩ := wo_g h
        refine x_iastJ (pc := 110) dX2_bestRound_110 rfl rfl (by decide) rfl hx17 ?_
        refine x_letm h (fun m18 h => ?_)
        refine x_sub [(0, _), (5, _), (6, _)] ⟨rfl, rfl, rfl, trivial⟩ ?_
        exact j111 _ h
      refine x_icmp_gt (pc := 62) dX2_bestRound_62 (tgt := 87) (by decide) (fun c23 => ?_) (fun c23 => ?_)
      · replace h := wo_pos c23 h
        refine x_sub [(0, _), (5, _), (6, _), (7, _), (8, _)] ⟨rfl, rfl, rfl, rfl, rfl, trivial⟩ ?_
        exact j87 h
      · replace h := wo_neg c23 h
        refine x_iload (pc := 65) dX2_bestRound_65 rfl ?_
        refine x_aload_n (pc := 67) dX2_bestRound_67 rfl ?_
        refine x_getS (pc := 68) dX2_bestRound_68 fX2_33 rfl (by decide) ?_
        refine x_iconst (pc := 71) dX2_bestRound_71 (v := (0 : Int32)) (by decide) ?_
        obtain ⟨hx19, h⟩ := wo_g h
        refine x_ialdJ (pc := 72) dX2_bestRound_72 rfl rfl (by decide) hx19 ?_
        refine x_icmp_ne (pc := 73) dX2_bestRound_73 (tgt := 111) (by decide) (fun c22 => ?_) (fun c22 => ?_)
        · replace h := wo_neg c22 h
          refine x_sub [(0, _), (5, _), (6, _)] ⟨rfl, rfl, rfl, trivial⟩ ?_
          exact j111 _ h
        · replace h := wo_pos c22 h
          refine x_iload (pc := 76) dX2_bestRound_76 rfl ?_
          refine x_aload_n (pc := 78) dX2_bestRound_78 rfl ?_
          refine x_getS (pc := 79) dX2_bestRound_79 fX2_33 rfl (by decide) ?_
          refine x_iconst (pc := 82) dX2_bestRound_82 (v := (1 : Int32)) (by decide) ?_
          obtain ⟨hx20, h⟩ := wo_g h
          refine x_ialdJ (pc := 83) dX2_bestRound_83 rfl rfl (by decide) hx20 ?_
          refine x_icmp_ge (pc := 84) dX2_bestRound_84 (tgt := 111) (by decide) (fun c21 => ?_) (fun c21 => ?_)
          · replace h := wo_pos c21 h
            refine x_sub [(0, _), (5, _), (6, _)] ⟨rfl, rfl, rfl, trivial⟩ ?_
            exact j111 _ h
          · replace h := wo_neg c21 h
            refine x_sub [(0, _), (5, _), (6, _), (7, _), (8, _)] ⟨rfl, rfl, rfl, rfl, rfl, trivial⟩ ?_
            exact j87 h
noncomputable def f_X11_round_J31 (mem : mi_M) : Option (Int32 × mi_M) := some ((-1 : Int32), mem)
noncomputable def f_X11_round (p0 : Int32) (p1 : Int32) (p2 : Int32) (mem : mi_M) : Option (Int32 × mi_M) := mi_g (mem.2.2 0 < mi_n 8) (mi_bo (f_X8_hasPerson (mem.2.2 0) p0 mem) fun v2 => if v2 = 0 then f_X11_round_J31 mem else mi_bo (f_X11_isWithin p1 (0 : Int32) (200 : Int32) mem) fun v3 => if v3 = 0 then f_X11_round_J31 mem else mi_bo (f_X11_isWithin p2 (0 : Int32) (2 : Int32) mem) fun v4 => if v4 = 0 then f_X11_round_J31 mem else mi_g (mem.2.2 0 < mi_n 8) (mi_b (f_X2_bestRound (mem.2.2 0) 0 p0 p1 p2 mem) fun v6 m7 => some (v6, m7)))
set_option maxRecDepth 100000 in
set_option maxHeartbeats 4000000 in
theorem w_X11_round (p0 : Int32) (p1 : Int32) (p2 : Int32) (mem : mi_M) (a : Int32 × mi_M) (e : f_X11_round p0 p1 p2 mem = some a) : mi_Ci (8) mX11_round [vr 11 0, vi p0, vi p1, vi p2] mem (fun x m' => x = a.1 ∧ m' = a.2) := by
  unfold mi_Ci
  refine mi_C_intro (ls := [(0, vr 11 0), (1, vi p0), (2, vi p1), (3, vi p2)]) (by decide) rfl rfl ?_
  obtain ⟨Q0, hq0, h⟩ : ∃ Q0 : (Int32 × mi_M) → Prop, (∀ b, Q0 b → b = a) ∧ wo (f_X11_round p0 p1 p2 mem) Q0 := ⟨fun b => b = a, fun _ h => h, wo_eq e⟩
  obtain ⟨QX, hQX⟩ : ∃ QX : Option mi_V → mi_M → Prop, QX = (fun r m' => ∃ x, r = some (vi x) ∧ x = a.1 ∧ m' = a.2) := ⟨_, rfl⟩
  rw [← hQX]
  unfold f_X11_round at h
  refine x_aload_n (pc := 0) dX11_round_0 rfl ?_
  obtain ⟨hm1, h⟩ := wo_g h
  refine x_getM (pc := 1) dX11_round_1 fX11_54 rfl (by decide) ?_
  refine x_iload_n (pc := 4) dX11_round_4 rfl ?_
  refine z_Vi1 (pc := 5) h dX11_round_5 lX11_109 hm1 (by omega) rfl (fun a e => w_X8_hasPerson _ _ hm1 _ a e) (fun v2 h => ?_)
  have j31 : wo (f_X11_round_J31 mem) Q0 → mi_X mX11_round (8) 31 [] [] mem QX := by
    intro h
    unfold f_X11_round_J31 at h
    refine x_iconst (pc := 31) dX11_round_31 (v := (-1 : Int32)) (by decide) ?_
    exact x_iret (pc := 32) dX11_round_32 rfl (by rw [hQX]; exact ⟨_, rfl, congrArg Prod.fst (hq0 _ (wo_some h)), congrArg Prod.snd (hq0 _ (wo_some h))⟩)
  refine x_if_eq (pc := 8) dX11_round_8 (tgt := 31) (by decide) (fun c10 => ?_) (fun c10 => ?_)
  · replace h := wo_pos c10 h
    refine x_sub [] trivial ?_
    exact j31 h
  · replace h := wo_neg c10 h
    refine x_iload_n (pc := 11) dX11_round_11 rfl ?_
    refine x_iconst (pc := 12) dX11_round_12 (v := (0 : Int32)) (by decide) ?_
    refine x_sipush (pc := 13) dX11_round_13 (v := (200 : Int32)) (by decide) ?_
    refine z_Si3 (pc := 16) h dX11_round_16 lX11_155 (by omega) rfl (fun a e => w_X11_isWithin _ _ _ _ a e) (fun v3 h => ?_)
    refine x_if_eq (pc := 19) dX11_round_19 (tgt := 31) (by decide) (fun c9 => ?_) (fun c9 => ?_)
    · replace h := wo_pos c9 h
      refine x_sub [] trivial ?_
      exact j31 h
    · replace h := wo_neg c9 h
      refine x_iload_n (pc := 22) dX11_round_22 rfl ?_
      refine x_iconst (pc := 23) dX11_round_23 (v := (0 : Int32)) (by decide) ?_
      refine x_iconst (pc := 24) dX11_round_24 (v := (2 : Int32)) (by decide) ?_
      refine z_Si3 (pc := 25) h dX11_round_25 lX11_155 (by omega) rfl (fun a e => w_X11_isWithin _ _ _ _ a e) (fun v4 h => ?_)
      refine x_if_ne (pc := 28) dX11_round_28 (tgt := 33) (by decide) (fun c8 => ?_) (fun c8 => ?_)
      · replace h := wo_neg c8 h
        refine x_aload_n (pc := 33) dX11_round_33 rfl ?_
        refine x_getC (pc := 34) dX11_round_34 fX11_47 rfl (by decide) ?_
        refine x_aload_n (pc := 37) dX11_round_37 rfl ?_
        obtain ⟨hm5, h⟩ := wo_g h
        refine x_getM (pc := 38) dX11_round_38 fX11_54 rfl (by decide) ?_
        refine x_aload_n (pc := 41) dX11_round_41 rfl ?_
        refine x_getC (pc := 42) dX11_round_42 fX11_19 rfl (by decide) ?_
        refine x_iload_n (pc := 45) dX11_round_45 rfl ?_
        refine x_iload_n (pc := 46) dX11_round_46 rfl ?_
        refine x_iload_n (pc := 47) dX11_round_47 rfl ?_
        refine y_Vi5 (pc := 48) h dX11_round_48 lX11_235 (by decide) (by omega) rfl (fun a e => w_X2_bestRound _ _ _ _ _ hm5 (by decide) _ a e) (fun v6 m7 h => ?_)
        exact x_iret (pc := 51) dX11_round_51 rfl (by rw [hQX]; exact ⟨_, rfl, congrArg Prod.fst (hq0 _ (wo_some h)), congrArg Prod.snd (hq0 _ (wo_some h))⟩)
      · replace h := wo_pos c8 h
        refine x_sub [] trivial ?_
        exact j31 h
noncomputable def f_X11_say_J34 (u3 : Int32) (m4 : mi_M) : Option (Int32 × mi_M) := some (u3, m4)
noncomputable def f_X11_say_J33 (m5 : mi_M) : Option (Int32 × mi_M) := f_X11_say_J34 (-1 : Int32) m5
noncomputable def f_X11_say (p0 : Int32) (mem : mi_M) : Option (Int32 × mi_M) := mi_g (mem.2.2 0 < mi_n 8) (mi_bo (f_X8_hasWrong (mem.2.2 0) p0 mem) fun v2 => if v2 = 0 then f_X11_say_J33 mem else mi_b (f_X11_doByHand (0 : Int32) p0 (0 : Int32) mem) fun v6 m7 => if v6 = 0 then f_X11_say_J33 m7 else mi_g (vp_in p0 8) (f_X11_say_J34 (m7.1 34 0 p0.toNatClampNeg) m7))
set_option maxRecDepth 100000 in
set_option maxHeartbeats 4000000 in
theorem w_X11_say (p0 : Int32) (mem : mi_M) (a : Int32 × mi_M) (e : f_X11_say p0 mem = some a) : mi_Ci (8) mX11_say [vr 11 0, vi p0] mem (fun x m' => x = a.1 ∧ m' = a.2) := by
  unfold mi_Ci
  refine mi_C_intro (ls := [(0, vr 11 0), (1, vi p0)]) (by decide) rfl rfl ?_
  obtain ⟨Q0, hq0, h⟩ : ∃ Q0 : (Int32 × mi_M) → Prop, (∀ b, Q0 b → b = a) ∧ wo (f_X11_say p0 mem) Q0 := ⟨fun b => b = a, fun _ h => h, wo_eq e⟩
  obtain ⟨QX, hQX⟩ : ∃ QX : Option mi_V → mi_M → Prop, QX = (fun r m' => ∃ x, r = some (vi x) ∧ x = a.1 ∧ m' = a.2) := ⟨_, rfl⟩
  rw [← hQX]
  unfold f_X11_say at h
  refine x_aload_n (pc := 0) dX11_say_0 rfl ?_
  obtain ⟨hm1, h⟩ := wo_g h
  refine x_getM (pc := 1) dX11_say_1 fX11_54 rfl (by decide) ?_
  refine x_iload_n (pc := 4) dX11_say_4 rfl ?_
  refine z_Vi1 (pc := 5) h dX11_say_5 lX11_123 hm1 (by omega) rfl (fun a e => w_X8_hasWrong _ _ hm1 _ a e) (fun v2 h => ?_)
  have j34 : ∀ (u3 : Int32) (m4 : mi_M), wo (f_X11_say_J34 u3 m4) Q0 → mi_X mX11_say (8) 34 [] [vi u3] m4 QX := by
    intro u3 m4 h
    unfold f_X11_say_J34 at h
    exact x_iret (pc := 34) dX11_say_34 rfl (by rw [hQX]; exact ⟨_, rfl, congrArg Prod.fst (hq0 _ (wo_some h)), congrArg Prod.snd (hq0 _ (wo_some h))⟩)
  have j33 : ∀ (m5 : mi_M), wo (f_X11_say_J33 m5) Q0 → mi_X mX11_say (8) 33 [] [] m5 QX := by
    intro m5 h
    unfold f_X11_say_J33 at h
    refine x_iconst (pc := 33) dX11_say_33 (v := (-1 : Int32)) (by decide) ?_
    refine x_sub [] trivial ?_
    exact j34 _ _ h
  refine x_if_eq (pc := 8) dX11_say_8 (tgt := 33) (by decide) (fun c10 => ?_) (fun c10 => ?_)
  · replace h := wo_pos c10 h
    refine x_sub [] trivial ?_
    exact j33 _ h
  · replace h := wo_neg c10 h
    refine x_aload_n (pc := 11) dX11_say_11 rfl ?_
    refine x_iconst (pc := 12) dX11_say_12 (v := (0 : Int32)) (by decide) ?_
    refine x_iload_n (pc := 13) dX11_say_13 rfl ?_
    refine x_iconst (pc := 14) dX11_say_14 (v := (0 : Int32)) (by decide) ?_
    refine y_Vi3 (pc := 15) h dX11_say_15 lX11_181 (by decide) (by omega) rfl (fun a e => w_X11_doByHand _ _ _ _ a e) (fun v6 m7 h => ?_)
    refine x_if_eq (pc := 18) dX11_say_18 (tgt := 33) (by decide) (fun c9 => ?_) (fun c9 => ?_)
    · replace h := wo_pos c9 h
      refine x_sub [] trivial ?_
      exact j33 _ h
    · replace h := wo_neg c9 h
      refine x_aload_n (pc := 21) dX11_say_21 rfl ?_
      refine x_getC (pc := 22) dX11_say_22 fX11_19 rfl (by decide) ?_
      refine x_getS (pc := 25) dX11_say_25 fX11_135 rfl (by decide) ?_
      refine x_iload_n (pc := 28) dX11_say_28 rfl ?_
      obtain ⟨hx8, h⟩ := wo_g h
      refine x_ialdJ (pc := 29) dX11_say_29 rfl rfl (by decide) hx8 ?_
      refine x_goto (pc := 30) dX11_say_30 (tgt := 34) (by decide) ?_
      refine x_sub [] trivial ?_
      exact j34 _ _ h
noncomputable def f_X4_add (i0 : Nat) (p0 : Int32) (p1 : Int32) (p2 : Int32) (mem : mi_M) : Option (Int32 × mi_M) := if (mem.1 4 i0 0) < (8 : Int32) then mi_g (vp_in (mem.1 4 i0 0) 8) (mi_let (mi_wI mem 31 i0 (mem.1 4 i0 0).toNatClampNeg p0) fun m2 => mi_g (vp_in (m2.1 4 i0 0) 8) (mi_let (mi_wI m2 32 i0 (m2.1 4 i0 0).toNatClampNeg p1) fun m4 => mi_g (vp_in (m4.1 4 i0 0) 8) (mi_let (mi_wI m4 33 i0 (m4.1 4 i0 0).toNatClampNeg (vp_nar .boolean p2)) fun m6 => mi_let (mi_wI m6 4 i0 0 ((m6.1 4 i0 0) + (1 : Int32))) fun m7 => mi_g ((1 : Int32) = 0 ∨ (1 : Int32) = 1) (some ((1 : Int32), m7))))) else mi_g ((0 : Int32) = 0 ∨ (0 : Int32) = 1) (some ((0 : Int32), mem))
set_option maxRecDepth 100000 in
set_option maxHeartbeats 4000000 in
theorem w_X4_add (i0 : Nat) (p0 : Int32) (p1 : Int32) (p2 : Int32) (hi0 : i0 < mi_n 4) (mem : mi_M) (a : Int32 × mi_M) (e : f_X4_add i0 p0 p1 p2 mem = some a) : mi_Ci (1) mX4_add [vr 4 i0, vi p0, vi p1, vi p2] mem (fun x m' => x = a.1 ∧ m' = a.2) := by
  unfold mi_Ci
  refine mi_C_intro (ls := [(0, vr 4 i0), (1, vi p0), (2, vi p1), (3, vi p2)]) (by decide) rfl rfl ?_
  obtain ⟨Q0, hq0, h⟩ : ∃ Q0 : (Int32 × mi_M) → Prop, (∀ b, Q0 b → b = a) ∧ wo (f_X4_add i0 p0 p1 p2 mem) Q0 := ⟨fun b => b = a, fun _ h => h, wo_eq e⟩
  obtain ⟨QX, hQX⟩ : ∃ QX : Option mi_V → mi_M → Prop, QX = (fun r m' => ∃ x, r = some (vi x) ∧ x = a.1 ∧ m' = a.2) := ⟨_, rfl⟩
  rw [← hQX]
  unfold f_X4_add at h
  refine x_aload_n (pc := 0) dX4_add_0 rfl ?_
  refine x_getI (pc := 1) dX4_add_1 fX4_22 rfl hi0 ?_
  refine x_bipush (pc := 4) dX4_add_4 (v := (8 : Int32)) (by decide) ?_
  refine x_icmp_lt (pc := 6) dX4_add_6 (tgt := 11) (by decide) (fun c10 => ?_) (fun c10 => ?_)
  · replace h := wo_pos c10 h
    refine x_aload_n (pc := 11) dX4_add_11 rfl ?_
    refine x_getS (pc := 12) dX4_add_12 fX4_9 rfl hi0 ?_
    refine x_aload_n (pc := 15) dX4_add_15 rfl ?_
    refine x_getI (pc := 16) dX4_add_16 fX4_22 rfl hi0 ?_
    refine x_iload_n (pc := 19) dX4_add_19 rfl ?_
    obtain ⟨hx1, h⟩ := wo_g h
    refine x_iastJ (pc := 20) dX4_add_20 rfl rfl hi0 rfl hx1 ?_
    refine x_letm h (fun m2 h => ?_)
    refine x_aload_n (pc := 21) dX4_add_21 rfl ?_
    refine x_getS (pc := 22) dX4_add_22 fX4_15 rfl hi0 ?_
    refine x_aload_n (pc := 25) dX4_add_25 rfl ?_
    refine x_getI (pc := 26) dX4_add_26 fX4_22 rfl hi0 ?_
    refine x_iload_n (pc := 29) dX4_add_29 rfl ?_
    obtain ⟨hx3, h⟩ := wo_g h
    refine x_iastJ (pc := 30) dX4_add_30 rfl rfl hi0 rfl hx3 ?_
    refine x_letm h (fun m4 h => ?_)
    refine x_aload_n (pc := 31) dX4_add_31 rfl ?_
    refine x_getS (pc := 32) dX4_add_32 fX4_18 rfl hi0 ?_
    refine x_aload_n (pc := 35) dX4_add_35 rfl ?_
    refine x_getI (pc := 36) dX4_add_36 fX4_22 rfl hi0 ?_
    refine x_iload_n (pc := 39) dX4_add_39 rfl ?_
    obtain ⟨hx5, h⟩ := wo_g h
    refine x_zastJ (pc := 40) dX4_add_40 rfl rfl hi0 rfl hx5 ?_
    refine x_letm h (fun m6 h => ?_)
    refine x_aload_n (pc := 41) dX4_add_41 rfl ?_
    refine x_dup (pc := 42) dX4_add_42 rfl ?_
    refine x_getI (pc := 43) dX4_add_43 fX4_22 rfl hi0 ?_
    refine x_iconst (pc := 46) dX4_add_46 (v := (1 : Int32)) (by decide) ?_
    refine x_iadd (pc := 47) dX4_add_47 ?_
    refine x_putI (pc := 48) dX4_add_48 fX4_22 rfl hi0 rfl rfl ?_
    refine x_letm h (fun m7 h => ?_)
    refine x_iconst (pc := 51) dX4_add_51 (v := (1 : Int32)) (by decide) ?_
    obtain ⟨hb8, h⟩ := wo_g h
    exact x_zretB (pc := 52) dX4_add_52 rfl hb8 (by rw [hQX]; exact ⟨_, rfl, congrArg Prod.fst (hq0 _ (wo_some h)), congrArg Prod.snd (hq0 _ (wo_some h))⟩)
  · replace h := wo_neg c10 h
    refine x_iconst (pc := 9) dX4_add_9 (v := (0 : Int32)) (by decide) ?_
    obtain ⟨hb9, h⟩ := wo_g h
    exact x_zretB (pc := 10) dX4_add_10 rfl hb9 (by rw [hQX]; exact ⟨_, rfl, congrArg Prod.fst (hq0 _ (wo_some h)), congrArg Prod.snd (hq0 _ (wo_some h))⟩)
noncomputable def f_X11_see_J21 (mem : mi_M) : Option (Int32 × mi_M) := mi_g ((0 : Int32) = 0 ∨ (0 : Int32) = 1) (some ((0 : Int32), mem))
noncomputable def f_X11_see (p0 : Int32) (p1 : Int32) (p2 : Int32) (mem : mi_M) : Option (Int32 × mi_M) := mi_g (mem.2.2 0 < mi_n 8) (mi_bo (f_X8_hasPerson (mem.2.2 0) p0 mem) fun v2 => if v2 = 0 then f_X11_see_J21 mem else mi_bo (f_X11_isWithin p1 (0 : Int32) (9 : Int32) mem) fun v4 => if v4 = 0 then f_X11_see_J21 mem else mi_b (f_X4_add 0 p0 p1 p2 mem) fun v5 m6 => mi_g (v5 = 0 ∨ v5 = 1) (some (v5, m6)))
set_option maxRecDepth 100000 in
set_option maxHeartbeats 4000000 in
theorem w_X11_see (p0 : Int32) (p1 : Int32) (p2 : Int32) (mem : mi_M) (a : Int32 × mi_M) (e : f_X11_see p0 p1 p2 mem = some a) : mi_Ci (3) mX11_see [vr 11 0, vi p0, vi p1, vi p2] mem (fun x m' => x = a.1 ∧ m' = a.2) := by
  unfold mi_Ci
  refine mi_C_intro (ls := [(0, vr 11 0), (1, vi p0), (2, vi p1), (3, vi p2)]) (by decide) rfl rfl ?_
  obtain ⟨Q0, hq0, h⟩ : ∃ Q0 : (Int32 × mi_M) → Prop, (∀ b, Q0 b → b = a) ∧ wo (f_X11_see p0 p1 p2 mem) Q0 := ⟨fun b => b = a, fun _ h => h, wo_eq e⟩
  obtain ⟨QX, hQX⟩ : ∃ QX : Option mi_V → mi_M → Prop, QX = (fun r m' => ∃ x, r = some (vi x) ∧ x = a.1 ∧ m' = a.2) := ⟨_, rfl⟩
  rw [← hQX]
  unfold f_X11_see at h
  refine x_aload_n (pc := 0) dX11_see_0 rfl ?_
  obtain ⟨hm1, h⟩ := wo_g h
  refine x_getM (pc := 1) dX11_see_1 fX11_54 rfl (by decide) ?_
  refine x_iload_n (pc := 4) dX11_see_4 rfl ?_
  refine z_Vi1 (pc := 5) h dX11_see_5 lX11_109 hm1 (by omega) rfl (fun a e => w_X8_hasPerson _ _ hm1 _ a e) (fun v2 h => ?_)
  have j21 : wo (f_X11_see_J21 mem) Q0 → mi_X mX11_see (3) 21 [] [] mem QX := by
    intro h
    unfold f_X11_see_J21 at h
    refine x_iconst (pc := 21) dX11_see_21 (v := (0 : Int32)) (by decide) ?_
    obtain ⟨hb3, h⟩ := wo_g h
    exact x_zretB (pc := 22) dX11_see_22 rfl hb3 (by rw [hQX]; exact ⟨_, rfl, congrArg Prod.fst (hq0 _ (wo_some h)), congrArg Prod.snd (hq0 _ (wo_some h))⟩)
  refine x_if_eq (pc := 8) dX11_see_8 (tgt := 21) (by decide) (fun c9 => ?_) (fun c9 => ?_)
  · replace h := wo_pos c9 h
    refine x_sub [] trivial ?_
    exact j21 h
  · replace h := wo_neg c9 h
    refine x_iload_n (pc := 11) dX11_see_11 rfl ?_
    refine x_iconst (pc := 12) dX11_see_12 (v := (0 : Int32)) (by decide) ?_
    refine x_bipush (pc := 13) dX11_see_13 (v := (9 : Int32)) (by decide) ?_
    refine z_Si3 (pc := 15) h dX11_see_15 lX11_155 (by omega) rfl (fun a e => w_X11_isWithin _ _ _ _ a e) (fun v4 h => ?_)
    refine x_if_ne (pc := 18) dX11_see_18 (tgt := 23) (by decide) (fun c8 => ?_) (fun c8 => ?_)
    · replace h := wo_neg c8 h
      refine x_aload_n (pc := 23) dX11_see_23 rfl ?_
      refine x_getC (pc := 24) dX11_see_24 fX11_33 rfl (by decide) ?_
      refine x_iload_n (pc := 27) dX11_see_27 rfl ?_
      refine x_iload_n (pc := 28) dX11_see_28 rfl ?_
      refine x_iload_n (pc := 29) dX11_see_29 rfl ?_
      refine y_Vi3 (pc := 30) h dX11_see_30 lX11_248 (by decide) (by omega) rfl (fun a e => w_X4_add _ _ _ _ (by decide) _ a e) (fun v5 m6 h => ?_)
      obtain ⟨hb7, h⟩ := wo_g h
      exact x_zretB (pc := 33) dX11_see_33 rfl hb7 (by rw [hQX]; exact ⟨_, rfl, congrArg Prod.fst (hq0 _ (wo_some h)), congrArg Prod.snd (hq0 _ (wo_some h))⟩)
    · replace h := wo_pos c8 h
      refine x_sub [] trivial ?_
      exact j21 h
noncomputable def f_X2_setsSeen_J32 (m1 : mi_M) (u2 : Int32) : Option (Int32 × mi_M) := some (u2, m1)
noncomputable def f_X2_setsSeen_J21 (p3 : Int32) (m1 : mi_M) : Option (Int32 × mi_M) := mi_g (vp_in p3 3) (f_X2_setsSeen_J32 m1 (m1.1 27 0 p3.toNatClampNeg))
noncomputable def f_X2_setsSeen (p0 : Nat) (p1 : Nat) (p2 : Nat) (p3 : Int32) (mem : mi_M) : Option (Int32 × mi_M) := mi_bo (f_X2_sortSets p0 p1 p2 mem) fun m1 => if p3 = 0 then f_X2_setsSeen_J21 p3 m1 else mi_g (vp_in (0 : Int32) 3) (if (m1.1 27 0 (0 : Int32).toNatClampNeg) ≤ 0 then f_X2_setsSeen_J32 m1 (-1 : Int32) else f_X2_setsSeen_J21 p3 m1)
set_option maxRecDepth 100000 in
set_option maxHeartbeats 4000000 in
theorem w_X2_setsSeen (p0 : Nat) (p1 : Nat) (p2 : Nat) (p3 : Int32) (hp0 : p0 < mi_n 8) (hp1 : p1 < mi_n 5) (hp2 : p2 < mi_n 4) (mem : mi_M) (a : Int32 × mi_M) (e : f_X2_setsSeen p0 p1 p2 p3 mem = some a) : mi_Ci (7) mX2_setsSeen [vr 2 0, vr 8 p0, vr 5 p1, vr 4 p2, vi p3] mem (fun x m' => x = a.1 ∧ m' = a.2) := by
  unfold mi_Ci
  refine mi_C_intro (ls := [(0, vr 2 0), (1, vr 8 p0), (2, vr 5 p1), (3, vr 4 p2), (4, vi p3)]) (by decide) rfl rfl ?_
  obtain ⟨Q0, hq0, h⟩ : ∃ Q0 : (Int32 × mi_M) → Prop, (∀ b, Q0 b → b = a) ∧ wo (f_X2_setsSeen p0 p1 p2 p3 mem) Q0 := ⟨fun b => b = a, fun _ h => h, wo_eq e⟩
  obtain ⟨QX, hQX⟩ : ∃ QX : Option mi_V → mi_M → Prop, QX = (fun r m' => ∃ x, r = some (vi x) ∧ x = a.1 ∧ m' = a.2) := ⟨_, rfl⟩
  rw [← hQX]
  unfold f_X2_setsSeen at h
  refine x_aload_n (pc := 0) dX2_setsSeen_0 rfl ?_
  refine x_aload_n (pc := 1) dX2_setsSeen_1 rfl ?_
  refine x_aload_n (pc := 2) dX2_setsSeen_2 rfl ?_
  refine x_aload_n (pc := 3) dX2_setsSeen_3 rfl ?_
  refine y_Vv3 (pc := 4) h dX2_setsSeen_4 lX2_164 (by decide) (by omega) rfl (fun a e => w_X2_sortSets _ _ _ hp0 hp1 hp2 _ a e) (fun m1 h => ?_)
  refine x_iload (pc := 7) dX2_setsSeen_7 rfl ?_
  have j32 : ∀ (u2 : Int32), wo (f_X2_setsSeen_J32 m1 u2) Q0 → mi_X mX2_setsSeen (7) 32 [] [vi u2] m1 QX := by
    intro u2 h
    unfold f_X2_setsSeen_J32 at h
    exact x_iret (pc := 32) dX2_setsSeen_32 rfl (by rw [hQX]; exact ⟨_, rfl, congrArg Prod.fst (hq0 _ (wo_some h)), congrArg Prod.snd (hq0 _ (wo_some h))⟩)
  have j21 : wo (f_X2_setsSeen_J21 p3 m1) Q0 → mi_X mX2_setsSeen (7) 21 [(0, vr 2 0), (4, vi p3)] [] m1 QX := by
    intro h
    unfold f_X2_setsSeen_J21 at h
    refine x_aload_n (pc := 21) dX2_setsSeen_21 rfl ?_
    refine x_getS (pc := 22) dX2_setsSeen_22 fX2_33 rfl (by decide) ?_
    refine x_iload (pc := 25) dX2_setsSeen_25 rfl ?_
    obtain ⟨hx3, h⟩ := wo_g h
    refine x_ialdJ (pc := 27) dX2_setsSeen_27 rfl rfl (by decide) hx3 ?_
    refine x_goto (pc := 28) dX2_setsSeen_28 (tgt := 32) (by decide) ?_
    refine x_sub [] trivial ?_
    exact j32 _ h
  refine x_if_eq (pc := 9) dX2_setsSeen_9 (tgt := 21) (by decide) (fun c6 => ?_) (fun c6 => ?_)
  · replace h := wo_pos c6 h
    refine x_sub [(0, _), (4, _)] ⟨rfl, rfl, trivial⟩ ?_
    exact j21 h
  · replace h := wo_neg c6 h
    refine x_aload_n (pc := 12) dX2_setsSeen_12 rfl ?_
    refine x_getS (pc := 13) dX2_setsSeen_13 fX2_33 rfl (by decide) ?_
    refine x_iconst (pc := 16) dX2_setsSeen_16 (v := (0 : Int32)) (by decide) ?_
    obtain ⟨hx4, h⟩ := wo_g h
    refine x_ialdJ (pc := 17) dX2_setsSeen_17 rfl rfl (by decide) hx4 ?_
    refine x_if_le (pc := 18) dX2_setsSeen_18 (tgt := 31) (by decide) (fun c5 => ?_) (fun c5 => ?_)
    · replace h := wo_pos c5 h
      refine x_iconst (pc := 31) dX2_setsSeen_31 (v := (-1 : Int32)) (by decide) ?_
      refine x_sub [] trivial ?_
      exact j32 _ h
    · replace h := wo_neg c5 h
      refine x_sub [(0, _), (4, _)] ⟨rfl, rfl, trivial⟩ ?_
      exact j21 h
noncomputable def f_X11_sets_J33 (u2 : Int32) (m3 : mi_M) : Option (Int32 × mi_M) := some (u2, m3)
noncomputable def f_X11_sets (p0 : Int32) (mem : mi_M) : Option (Int32 × mi_M) := mi_bo (f_X11_isWithin p0 (0 : Int32) (2 : Int32) mem) fun v1 => if v1 = 0 then f_X11_sets_J33 (-1 : Int32) mem else mi_g (mem.2.2 0 < mi_n 8) (mi_b (f_X2_setsSeen (mem.2.2 0) 0 0 p0 mem) fun v5 m6 => f_X11_sets_J33 v5 m6)
set_option maxRecDepth 100000 in
set_option maxHeartbeats 4000000 in
theorem w_X11_sets (p0 : Int32) (mem : mi_M) (a : Int32 × mi_M) (e : f_X11_sets p0 mem = some a) : mi_Ci (8) mX11_sets [vr 11 0, vi p0] mem (fun x m' => x = a.1 ∧ m' = a.2) := by
  unfold mi_Ci
  refine mi_C_intro (ls := [(0, vr 11 0), (1, vi p0)]) (by decide) rfl rfl ?_
  obtain ⟨Q0, hq0, h⟩ : ∃ Q0 : (Int32 × mi_M) → Prop, (∀ b, Q0 b → b = a) ∧ wo (f_X11_sets p0 mem) Q0 := ⟨fun b => b = a, fun _ h => h, wo_eq e⟩
  obtain ⟨QX, hQX⟩ : ∃ QX : Option mi_V → mi_M → Prop, QX = (fun r m' => ∃ x, r = some (vi x) ∧ x = a.1 ∧ m' = a.2) := ⟨_, rfl⟩
  rw [← hQX]
  unfold f_X11_sets at h
  refine x_iload_n (pc := 0) dX11_sets_0 rfl ?_
  refine x_iconst (pc := 1) dX11_sets_1 (v := (0 : Int32)) (by decide) ?_
  refine x_iconst (pc := 2) dX11_sets_2 (v := (2 : Int32)) (by decide) ?_
  refine z_Si3 (pc := 3) h dX11_sets_3 lX11_155 (by omega) rfl (fun a e => w_X11_isWithin _ _ _ _ a e) (fun v1 h => ?_)
  have j33 : ∀ (u2 : Int32) (m3 : mi_M), wo (f_X11_sets_J33 u2 m3) Q0 → mi_X mX11_sets (8) 33 [] [vi u2] m3 QX := by
    intro u2 m3 h
    unfold f_X11_sets_J33 at h
    exact x_iret (pc := 33) dX11_sets_33 rfl (by rw [hQX]; exact ⟨_, rfl, congrArg Prod.fst (hq0 _ (wo_some h)), congrArg Prod.snd (hq0 _ (wo_some h))⟩)
  refine x_if_eq (pc := 6) dX11_sets_6 (tgt := 32) (by decide) (fun c7 => ?_) (fun c7 => ?_)
  · replace h := wo_pos c7 h
    refine x_iconst (pc := 32) dX11_sets_32 (v := (-1 : Int32)) (by decide) ?_
    refine x_sub [] trivial ?_
    exact j33 _ _ h
  · replace h := wo_neg c7 h
    refine x_aload_n (pc := 9) dX11_sets_9 rfl ?_
    refine x_getC (pc := 10) dX11_sets_10 fX11_47 rfl (by decide) ?_
    refine x_aload_n (pc := 13) dX11_sets_13 rfl ?_
    obtain ⟨hm4, h⟩ := wo_g h
    refine x_getM (pc := 14) dX11_sets_14 fX11_54 rfl (by decide) ?_
    refine x_aload_n (pc := 17) dX11_sets_17 rfl ?_
    refine x_getC (pc := 18) dX11_sets_18 fX11_19 rfl (by decide) ?_
    refine x_aload_n (pc := 21) dX11_sets_21 rfl ?_
    refine x_getC (pc := 22) dX11_sets_22 fX11_33 rfl (by decide) ?_
    refine x_iload_n (pc := 25) dX11_sets_25 rfl ?_
    refine y_Vi4 (pc := 26) h dX11_sets_26 lX11_252 (by decide) (by omega) rfl (fun a e => w_X2_setsSeen _ _ _ _ hm4 (by decide) (by decide) _ a e) (fun v5 m6 h => ?_)
    refine x_goto (pc := 29) dX11_sets_29 (tgt := 33) (by decide) ?_
    refine x_sub [] trivial ?_
    exact j33 _ _ h
noncomputable def f_X2_nightsLit_B3 (p0 : Nat) (p1 : Nat) (p2 : Int32) (p3 : Int32) : (Int32 × mi_M) → Option ((Int32 × mi_M) ⊕ ((Int32 × mi_M) ⊕ mi_M)) := fun s => match s with | (l4, m5) => if (99 : Int32) ≤ l4 then some (.inr (.inr m5)) else mi_bo (f_X5_burningBehind p1 l4 m5) fun v6 => mi_b (f_X9_isLit p0 v6 p2 p3 m5) fun v7 m8 => if v7 = 0 then some (.inr (.inl (l4, m8))) else some (.inl ((l4 + (1 : Int32)), m8))
noncomputable def f_X2_nightsLit_K3 : ((Int32 × mi_M) ⊕ mi_M) → Option (Int32 × mi_M) := fun e => match e with | (.inl (e1, m2)) => some (e1, m2) | (.inr m3) => some ((99 : Int32), m3)
noncomputable def f_X2_nightsLit (p0 : Nat) (p1 : Nat) (p2 : Int32) (p3 : Int32) (mem : mi_M) : Option (Int32 × mi_M) := mi_bo (mi_lp (f_X2_nightsLit_B3 p0 p1 p2 p3) mi_fu ((0 : Int32), mem)) (f_X2_nightsLit_K3)
set_option maxRecDepth 100000 in
set_option maxHeartbeats 4000000 in
theorem w_X2_nightsLit (p0 : Nat) (p1 : Nat) (p2 : Int32) (p3 : Int32) (hp0 : p0 < mi_n 8) (hp1 : p1 < mi_n 5) (mem : mi_M) (a : Int32 × mi_M) (e : f_X2_nightsLit p0 p1 p2 p3 mem = some a) : mi_Ci (5) mX2_nightsLit [vr 2 0, vr 8 p0, vr 5 p1, vi p2, vi p3] mem (fun x m' => x = a.1 ∧ m' = a.2) := by
  unfold mi_Ci
  refine mi_C_intro (ls := [(0, vr 2 0), (1, vr 8 p0), (2, vr 5 p1), (3, vi p2), (4, vi p3)]) (by decide) rfl rfl ?_
  obtain ⟨Q0, hq0, h⟩ : ∃ Q0 : (Int32 × mi_M) → Prop, (∀ b, Q0 b → b = a) ∧ wo (f_X2_nightsLit p0 p1 p2 p3 mem) Q0 := ⟨fun b => b = a, fun _ h => h, wo_eq e⟩
  obtain ⟨QX, hQX⟩ : ∃ QX : Option mi_V → mi_M → Prop, QX = (fun r m' => ∃ x, r = some (vi x) ∧ x = a.1 ∧ m' = a.2) := ⟨_, rfl⟩
  rw [← hQX]
  unfold f_X2_nightsLit at h
  refine x_iconst (pc := 0) dX2_nightsLit_0 (v := (0 : Int32)) (by decide) ?_
  refine x_istore (ls' := [(5, _), (0, _), (1, _), (2, _), (3, _), (4, _)]) (pc := 1) dX2_nightsLit_1 rfl rfl ?_
  have k3_0 : ∀ (e1 : Int32) (m2 : mi_M), wo (f_X2_nightsLit_K3 (.inl (e1, m2))) Q0 → mi_X mX2_nightsLit (5) 29 [(5, vi e1)] [] m2 QX := by
    intro e1 m2 h
    unfold f_X2_nightsLit_K3 at h
    try dsimp only at h
    refine x_iload (pc := 29) dX2_nightsLit_29 rfl ?_
    exact x_iret (pc := 31) dX2_nightsLit_31 rfl (by rw [hQX]; exact ⟨_, rfl, congrArg Prod.fst (hq0 _ (wo_some h)), congrArg Prod.snd (hq0 _ (wo_some h))⟩)
  have k3_1 : ∀ (m3 : mi_M), wo (f_X2_nightsLit_K3 (.inr m3)) Q0 → mi_X mX2_nightsLit (5) 38 [] [] m3 QX := by
    intro m3 h
    unfold f_X2_nightsLit_K3 at h
    try dsimp only at h
    refine x_bipush (pc := 38) dX2_nightsLit_38 (v := (99 : Int32)) (by decide) ?_
    exact x_iret (pc := 40) dX2_nightsLit_40 rfl (by rw [hQX]; exact ⟨_, rfl, congrArg Prod.fst (hq0 _ (wo_some h)), congrArg Prod.snd (hq0 _ (wo_some h))⟩)
  refine x_sub [(1, _), (2, _), (3, _), (4, _), (5, _)] ⟨rfl, rfl, rfl, rfl, rfl, trivial⟩ ?_
  obtain ⟨ea, eb, h⟩ := wo_bo h
  refine wo_lq (X := fun s => match s with | (l4, m5) => mi_X mX2_nightsLit (5) 3 [(1, vr 8 p0), (2, vr 5 p1), (3, vi p2), (4, vi p3), (5, vi l4)] [] m5 QX) (E := fun e => wo (f_X2_nightsLit_K3 e) Q0) ?_ _ ((0 : Int32), mem) ⟨_, eb, h⟩
  intro Q3 hb3 he3 s h
  obtain ⟨l4, m5⟩ := s
  show mi_X mX2_nightsLit (5) 3 [(1, vr 8 p0), (2, vr 5 p1), (3, vi p2), (4, vi p3), (5, vi l4)] [] m5 QX
  unfold f_X2_nightsLit_B3 at h
  try dsimp only at h
  refine x_iload (pc := 3) dX2_nightsLit_3 rfl ?_
  refine x_bipush (pc := 5) dX2_nightsLit_5 (v := (99 : Int32)) (by decide) ?_
  refine x_icmp_ge (pc := 7) dX2_nightsLit_7 (tgt := 38) (by decide) (fun c10 => ?_) (fun c10 => ?_)
  · replace h := wo_pos c10 h
    refine x_sub [] trivial ?_
    exact k3_1 _ (he3 (.inr m5) (wo_some h))
  · replace h := wo_neg c10 h
    refine x_aload_n (pc := 10) dX2_nightsLit_10 rfl ?_
    refine x_getS (pc := 11) dX2_nightsLit_11 fX2_59 rfl hp0 ?_
    refine x_aload_n (pc := 14) dX2_nightsLit_14 rfl ?_
    refine x_iload (pc := 15) dX2_nightsLit_15 rfl ?_
    refine z_Vi1 (pc := 17) h dX2_nightsLit_17 lX2_106 hp1 (by omega) rfl (fun a e => w_X5_burningBehind _ _ hp1 _ a e) (fun v6 h => ?_)
    refine x_iload_n (pc := 20) dX2_nightsLit_20 rfl ?_
    refine x_iload (pc := 21) dX2_nightsLit_21 rfl ?_
    refine y_Vi3 (pc := 23) h dX2_nightsLit_23 lX2_67 hp0 (by omega) rfl (fun a e => w_X9_isLit _ _ _ _ hp0 _ a e) (fun v7 m8 h => ?_)
    refine x_if_ne (pc := 26) dX2_nightsLit_26 (tgt := 32) (by decide) (fun c9 => ?_) (fun c9 => ?_)
    · replace h := wo_neg c9 h
      refine x_iinc (ls' := [(5, _), (1, _), (2, _), (3, _), (4, _)]) (pc := 32) dX2_nightsLit_32 rfl (v := l4 + (1 : Int32)) rfl rfl rfl ?_
      refine x_goto (pc := 35) dX2_nightsLit_35 (tgt := 3) (by decide) ?_
      refine x_sub [(1, _), (2, _), (3, _), (4, _), (5, _)] ⟨rfl, rfl, rfl, rfl, rfl, trivial⟩ ?_
      exact hb3 ((l4 + (1 : Int32)), m8) (wo_some h)
    · replace h := wo_pos c9 h
      refine x_sub [(5, _)] ⟨rfl, trivial⟩ ?_
      exact k3_0 _ _ (he3 (.inl (l4, m8)) (wo_some h))
noncomputable def f_X11_stays_J33 (u3 : Int32) (m4 : mi_M) : Option (Int32 × mi_M) := some (u3, m4)
noncomputable def f_X11_stays (p0 : Int32) (p1 : Int32) (mem : mi_M) : Option (Int32 × mi_M) := mi_g (mem.2.2 0 < mi_n 8) (mi_bo (f_X8_hasTwoDoors (mem.2.2 0) p0 p1 mem) fun v2 => if v2 = 0 then f_X11_stays_J33 (-1 : Int32) mem else mi_g (mem.2.2 0 < mi_n 8) (mi_b (f_X2_nightsLit (mem.2.2 0) 0 p0 p1 mem) fun v6 m7 => f_X11_stays_J33 v6 m7))
set_option maxRecDepth 100000 in
set_option maxHeartbeats 4000000 in
theorem w_X11_stays (p0 : Int32) (p1 : Int32) (mem : mi_M) (a : Int32 × mi_M) (e : f_X11_stays p0 p1 mem = some a) : mi_Ci (6) mX11_stays [vr 11 0, vi p0, vi p1] mem (fun x m' => x = a.1 ∧ m' = a.2) := by
  unfold mi_Ci
  refine mi_C_intro (ls := [(0, vr 11 0), (1, vi p0), (2, vi p1)]) (by decide) rfl rfl ?_
  obtain ⟨Q0, hq0, h⟩ : ∃ Q0 : (Int32 × mi_M) → Prop, (∀ b, Q0 b → b = a) ∧ wo (f_X11_stays p0 p1 mem) Q0 := ⟨fun b => b = a, fun _ h => h, wo_eq e⟩
  obtain ⟨QX, hQX⟩ : ∃ QX : Option mi_V → mi_M → Prop, QX = (fun r m' => ∃ x, r = some (vi x) ∧ x = a.1 ∧ m' = a.2) := ⟨_, rfl⟩
  rw [← hQX]
  unfold f_X11_stays at h
  refine x_aload_n (pc := 0) dX11_stays_0 rfl ?_
  obtain ⟨hm1, h⟩ := wo_g h
  refine x_getM (pc := 1) dX11_stays_1 fX11_54 rfl (by decide) ?_
  refine x_iload_n (pc := 4) dX11_stays_4 rfl ?_
  refine x_iload_n (pc := 5) dX11_stays_5 rfl ?_
  refine z_Vi2 (pc := 6) h dX11_stays_6 lX11_151 hm1 (by omega) rfl (fun a e => w_X8_hasTwoDoors _ _ _ hm1 _ a e) (fun v2 h => ?_)
  have j33 : ∀ (u3 : Int32) (m4 : mi_M), wo (f_X11_stays_J33 u3 m4) Q0 → mi_X mX11_stays (6) 33 [] [vi u3] m4 QX := by
    intro u3 m4 h
    unfold f_X11_stays_J33 at h
    exact x_iret (pc := 33) dX11_stays_33 rfl (by rw [hQX]; exact ⟨_, rfl, congrArg Prod.fst (hq0 _ (wo_some h)), congrArg Prod.snd (hq0 _ (wo_some h))⟩)
  refine x_if_eq (pc := 9) dX11_stays_9 (tgt := 32) (by decide) (fun c8 => ?_) (fun c8 => ?_)
  · replace h := wo_pos c8 h
    refine x_iconst (pc := 32) dX11_stays_32 (v := (-1 : Int32)) (by decide) ?_
    refine x_sub [] trivial ?_
    exact j33 _ _ h
  · replace h := wo_neg c8 h
    refine x_aload_n (pc := 12) dX11_stays_12 rfl ?_
    refine x_getC (pc := 13) dX11_stays_13 fX11_47 rfl (by decide) ?_
    refine x_aload_n (pc := 16) dX11_stays_16 rfl ?_
    obtain ⟨hm5, h⟩ := wo_g h
    refine x_getM (pc := 17) dX11_stays_17 fX11_54 rfl (by decide) ?_
    refine x_aload_n (pc := 20) dX11_stays_20 rfl ?_
    refine x_getC (pc := 21) dX11_stays_21 fX11_19 rfl (by decide) ?_
    refine x_iload_n (pc := 24) dX11_stays_24 rfl ?_
    refine x_iload_n (pc := 25) dX11_stays_25 rfl ?_
    refine y_Vi4 (pc := 26) h dX11_stays_26 lX11_225 (by decide) (by omega) rfl (fun a e => w_X2_nightsLit _ _ _ _ hm5 (by decide) _ a e) (fun v6 m7 h => ?_)
    refine x_goto (pc := 29) dX11_stays_29 (tgt := 33) (by decide) ?_
    refine x_sub [] trivial ?_
    exact j33 _ _ h
noncomputable def f_X3_forget (mem : mi_M) : Option (mi_M) := mi_let (mi_wI mem 3 0 0 (0 : Int32)) fun m1 => mi_let (mi_wI m1 3 0 2 (0 : Int32)) fun m2 => some m2
set_option maxRecDepth 100000 in
set_option maxHeartbeats 4000000 in
theorem w_X3_forget (mem : mi_M) (a : mi_M) (e : f_X3_forget  mem = some a) : mi_Cv (1) mX3_forget [vr 3 0] mem (fun m' => m' = a) := by
  unfold mi_Cv
  refine mi_C_intro (ls := [(0, vr 3 0)]) (by decide) rfl rfl ?_
  obtain ⟨Q0, hq0, h⟩ : ∃ Q0 : mi_M → Prop, (∀ b, Q0 b → b = a) ∧ wo (f_X3_forget  mem) Q0 := ⟨fun b => b = a, fun _ h => h, wo_eq e⟩
  obtain ⟨QX, hQX⟩ : ∃ QX : Option mi_V → mi_M → Prop, QX = (fun r m' => r = none ∧ m' = a) := ⟨_, rfl⟩
  rw [← hQX]
  unfold f_X3_forget at h
  refine x_aload_n (pc := 0) dX3_forget_0 rfl ?_
  refine x_iconst (pc := 1) dX3_forget_1 (v := (0 : Int32)) (by decide) ?_
  refine x_putI (pc := 2) dX3_forget_2 fX3_28 rfl (by decide) rfl rfl ?_
  refine x_letm h (fun m1 h => ?_)
  refine x_aload_n (pc := 5) dX3_forget_5 rfl ?_
  refine x_iconst (pc := 6) dX3_forget_6 (v := (0 : Int32)) (by decide) ?_
  refine x_putI (pc := 7) dX3_forget_7 fX3_32 rfl (by decide) rfl rfl ?_
  refine x_letm h (fun m2 h => ?_)
  exact x_ret (pc := 10) dX3_forget_10 rfl (by rw [hQX]; exact ⟨rfl, hq0 _ (wo_some h)⟩)
noncomputable def f_J0_isLatin1_aae02_J18 (u1 : Int32) : Option (Int32) := mi_g (u1 = 0 ∨ u1 = 1) (some u1)
noncomputable def f_J0_isLatin1_aae02_J17 : Option (Int32) := f_J0_isLatin1_aae02_J18 (0 : Int32)
noncomputable def f_J0_isLatin1_aae02 (i0 : Nat) (mem : mi_M) : Option (Int32) := if (1 : Int32) = 0 then f_J0_isLatin1_aae02_J17 else if (0 : Int32) = 0 then f_J0_isLatin1_aae02_J18 (1 : Int32) else f_J0_isLatin1_aae02_J17
set_option maxRecDepth 100000 in
set_option maxHeartbeats 4000000 in
theorem w_J0_isLatin1_aae02 (i0 : Nat) (hi0 : i0 < 12) (mem : mi_M) (a : Int32) (e : f_J0_isLatin1_aae02 i0 mem = some a) : mi_Ci (1) mJ0_isLatin1_aae02 [vr 300 i0] mem (fun x m' => x = a ∧ m' = mem) := by
  unfold mi_Ci
  refine mi_C_intro (ls := [(0, vr 300 i0)]) (by decide) rfl rfl ?_
  obtain ⟨Q0, hq0, h⟩ : ∃ Q0 : Int32 → Prop, (∀ b, Q0 b → b = a) ∧ wo (f_J0_isLatin1_aae02 i0 mem) Q0 := ⟨fun b => b = a, fun _ h => h, wo_eq e⟩
  obtain ⟨QX, hQX⟩ : ∃ QX : Option mi_V → mi_M → Prop, QX = (fun r m' => ∃ x, r = some (vi x) ∧ x = a ∧ m' = mem) := ⟨_, rfl⟩
  rw [← hQX]
  unfold f_J0_isLatin1_aae02 at h
  refine x_gst (pc := 0) dJ0_isLatin1_aae02_0 fJ0_38 ?_
  have j18 : ∀ (u1 : Int32), wo (f_J0_isLatin1_aae02_J18 u1) Q0 → mi_X mJ0_isLatin1_aae02 (1) 18 [] [vi u1] mem QX := by
    intro u1 h
    unfold f_J0_isLatin1_aae02_J18 at h
    obtain ⟨hb2, h⟩ := wo_g h
    exact x_zretB (pc := 18) dJ0_isLatin1_aae02_18 rfl hb2 (by rw [hQX]; exact ⟨_, rfl, hq0 _ (wo_some h), rfl⟩)
  have j17 : wo (f_J0_isLatin1_aae02_J17) Q0 → mi_X mJ0_isLatin1_aae02 (1) 17 [] [] mem QX := by
    intro h
    unfold f_J0_isLatin1_aae02_J17 at h
    refine x_iconst (pc := 17) dJ0_isLatin1_aae02_17 (v := (0 : Int32)) (by decide) ?_
    refine x_sub [] trivial ?_
    exact j18 _ h
  refine x_if_eq (pc := 3) dJ0_isLatin1_aae02_3 (tgt := 17) (by decide) (fun c4 => ?_) (fun c4 => ?_)
  · replace h := wo_pos c4 h
    refine x_sub [] trivial ?_
    exact j17 h
  · replace h := wo_neg c4 h
    refine x_aload_n (pc := 6) dJ0_isLatin1_aae02_6 rfl ?_
    refine x_gsC (pc := 7) dJ0_isLatin1_aae02_7 fJ0_15 hi0 ?_
    refine x_if_ne (pc := 10) dJ0_isLatin1_aae02_10 (tgt := 17) (by decide) (fun c3 => ?_) (fun c3 => ?_)
    · replace h := wo_neg c3 h
      refine x_sub [] trivial ?_
      exact j17 h
    · replace h := wo_pos c3 h
      refine x_iconst (pc := 13) dJ0_isLatin1_aae02_13 (v := (1 : Int32)) (by decide) ?_
      refine x_goto (pc := 14) dJ0_isLatin1_aae02_14 (tgt := 18) (by decide) ?_
      refine x_sub [] trivial ?_
      exact j18 _ h
noncomputable def f_J1_charAt_3b067 (p0 : Nat) (p1 : Int32) (mem : mi_M) : Option (Int32) := mi_g (¬ p1 < 0 ∧ p1 < (nI (mi_sn p0))) (mi_g (vp_in p1 (mi_sn p0)) (mi_g (narrow .char (.int (((((mi_sb p0 p1.toNatClampNeg) &&& (255 : Int32))).toUInt32 % 65536).toInt32)) = .int (((((mi_sb p0 p1.toNatClampNeg) &&& (255 : Int32))).toUInt32 % 65536).toInt32)) (some (((((mi_sb p0 p1.toNatClampNeg) &&& (255 : Int32))).toUInt32 % 65536).toInt32))))
set_option maxRecDepth 100000 in
set_option maxHeartbeats 4000000 in
theorem w_J1_charAt_3b067 (p0 : Nat) (p1 : Int32) (hp0 : p0 < 12) (mem : mi_M) (a : Int32) (e : f_J1_charAt_3b067 p0 p1 mem = some a) : mi_Ci (3) mJ1_charAt_3b067 [vr 301 p0, vi p1] mem (fun x m' => x = a ∧ m' = mem) := by
  unfold mi_Ci
  refine mi_C_intro (ls := [(0, vr 301 p0), (1, vi p1)]) (by decide) rfl rfl ?_
  obtain ⟨Q0, hq0, h⟩ : ∃ Q0 : Int32 → Prop, (∀ b, Q0 b → b = a) ∧ wo (f_J1_charAt_3b067 p0 p1 mem) Q0 := ⟨fun b => b = a, fun _ h => h, wo_eq e⟩
  obtain ⟨QX, hQX⟩ : ∃ QX : Option mi_V → mi_M → Prop, QX = (fun r m' => ∃ x, r = some (vi x) ∧ x = a ∧ m' = mem) := ⟨_, rfl⟩
  rw [← hQX]
  unfold f_J1_charAt_3b067 at h
  refine x_iload_n (pc := 0) dJ1_charAt_3b067_0 rfl ?_
  refine x_aload_n (pc := 1) dJ1_charAt_3b067_1 rfl ?_
  refine x_tln (pc := 2) dJ1_charAt_3b067_2 hp0 ?_
  obtain ⟨hx1, h⟩ := wo_g h
  refine x_Sv2 (pc := 3) dJ1_charAt_3b067_3 lJ1_9 (by omega) rfl (w_J0_checkIndex_df160 _ _ hx1 _) (fun m9 hm9 => ?_)
  subst hm9
  refine x_aload_n (pc := 6) dJ1_charAt_3b067_6 rfl ?_
  refine x_iload_n (pc := 7) dJ1_charAt_3b067_7 rfl ?_
  obtain ⟨hx2, h⟩ := wo_g h
  refine x_tbJ (pc := 8) dJ1_charAt_3b067_8 hp0 hx2 ?_
  refine x_sipush (pc := 9) dJ1_charAt_3b067_9 (v := (255 : Int32)) (by decide) ?_
  refine x_iand (pc := 12) dJ1_charAt_3b067_12 ?_
  refine x_i2c (pc := 13) dJ1_charAt_3b067_13 rfl ?_
  obtain ⟨hb3, h⟩ := wo_g h
  exact x_zret (pc := 14) dJ1_charAt_3b067_14 rfl hb3 (by rw [hQX]; exact ⟨_, rfl, hq0 _ (wo_some h), rfl⟩)
noncomputable def f_J0_charAt_5068e (i0 : Nat) (p0 : Int32) (mem : mi_M) : Option (Int32) := mi_bo (f_J0_isLatin1_aae02 i0 mem) fun v1 => if v1 = 0 then none else mi_bo (f_J1_charAt_3b067 i0 p0 mem) fun v2 => mi_g (narrow .char (.int v2) = .int v2) (some v2)
set_option maxRecDepth 100000 in
set_option maxHeartbeats 4000000 in
theorem w_J0_charAt_5068e (i0 : Nat) (p0 : Int32) (hi0 : i0 < 12) (mem : mi_M) (a : Int32) (e : f_J0_charAt_5068e i0 p0 mem = some a) : mi_Ci (4) mJ0_charAt_5068e [vr 300 i0, vi p0] mem (fun x m' => x = a ∧ m' = mem) := by
  unfold mi_Ci
  refine mi_C_intro (ls := [(0, vr 300 i0), (1, vi p0)]) (by decide) rfl rfl ?_
  obtain ⟨Q0, hq0, h⟩ : ∃ Q0 : Int32 → Prop, (∀ b, Q0 b → b = a) ∧ wo (f_J0_charAt_5068e i0 p0 mem) Q0 := ⟨fun b => b = a, fun _ h => h, wo_eq e⟩
  obtain ⟨QX, hQX⟩ : ∃ QX : Option mi_V → mi_M → Prop, QX = (fun r m' => ∃ x, r = some (vi x) ∧ x = a ∧ m' = mem) := ⟨_, rfl⟩
  rw [← hQX]
  unfold f_J0_charAt_5068e at h
  refine x_aload_n (pc := 0) dJ0_charAt_5068e_0 rfl ?_
  refine z_Ti0 (pc := 1) h dJ0_charAt_5068e_1 tJ0_492 hi0 (by omega) rfl (fun a e => w_J0_isLatin1_aae02 _ hi0 _ a e) (fun v1 h => ?_)
  refine x_if_eq (pc := 4) dJ0_charAt_5068e_4 (tgt := 16) (by decide) (fun c4 => ?_) (fun c4 => ?_)
  · replace h := wo_pos c4 h
    refine x_aload_n (pc := 16) dJ0_charAt_5068e_16 rfl ?_
    refine x_gsV (pc := 17) dJ0_charAt_5068e_17 fJ0_9 hi0 ?_
    refine x_iload_n (pc := 20) dJ0_charAt_5068e_20 rfl ?_
    obtain ⟨_, h, _⟩ := h
    cases h
  · replace h := wo_neg c4 h
    refine x_aload_n (pc := 7) dJ0_charAt_5068e_7 rfl ?_
    refine x_gsV (pc := 8) dJ0_charAt_5068e_8 fJ0_9 hi0 ?_
    refine x_iload_n (pc := 11) dJ0_charAt_5068e_11 rfl ?_
    refine z_Si2 (pc := 12) h dJ0_charAt_5068e_12 lJ0_495 (by omega) rfl (fun a e => w_J1_charAt_3b067 _ _ hi0 _ a e) (fun v2 h => ?_)
    obtain ⟨hb3, h⟩ := wo_g h
    exact x_zret (pc := 15) dJ0_charAt_5068e_15 rfl hb3 (by rw [hQX]; exact ⟨_, rfl, hq0 _ (wo_some h), rfl⟩)
noncomputable def f_J0_coder_7d493_J14 (u1 : Int32) : Option (Int32) := mi_g (narrow .byte (.int u1) = .int u1) (some u1)
noncomputable def f_J0_coder_7d493 (i0 : Nat) (mem : mi_M) : Option (Int32) := if (1 : Int32) = 0 then f_J0_coder_7d493_J14 (1 : Int32) else f_J0_coder_7d493_J14 (0 : Int32)
set_option maxRecDepth 100000 in
set_option maxHeartbeats 4000000 in
theorem w_J0_coder_7d493 (i0 : Nat) (hi0 : i0 < 12) (mem : mi_M) (a : Int32) (e : f_J0_coder_7d493 i0 mem = some a) : mi_Ci (1) mJ0_coder_7d493 [vr 300 i0] mem (fun x m' => x = a ∧ m' = mem) := by
  unfold mi_Ci
  refine mi_C_intro (ls := [(0, vr 300 i0)]) (by decide) rfl rfl ?_
  obtain ⟨Q0, hq0, h⟩ : ∃ Q0 : Int32 → Prop, (∀ b, Q0 b → b = a) ∧ wo (f_J0_coder_7d493 i0 mem) Q0 := ⟨fun b => b = a, fun _ h => h, wo_eq e⟩
  obtain ⟨QX, hQX⟩ : ∃ QX : Option mi_V → mi_M → Prop, QX = (fun r m' => ∃ x, r = some (vi x) ∧ x = a ∧ m' = mem) := ⟨_, rfl⟩
  rw [← hQX]
  unfold f_J0_coder_7d493 at h
  refine x_gst (pc := 0) dJ0_coder_7d493_0 fJ0_38 ?_
  have j14 : ∀ (u1 : Int32), wo (f_J0_coder_7d493_J14 u1) Q0 → mi_X mJ0_coder_7d493 (1) 14 [] [vi u1] mem QX := by
    intro u1 h
    unfold f_J0_coder_7d493_J14 at h
    obtain ⟨hb2, h⟩ := wo_g h
    exact x_zret (pc := 14) dJ0_coder_7d493_14 rfl hb2 (by rw [hQX]; exact ⟨_, rfl, hq0 _ (wo_some h), rfl⟩)
  refine x_if_eq (pc := 3) dJ0_coder_7d493_3 (tgt := 13) (by decide) (fun c3 => ?_) (fun c3 => ?_)
  · replace h := wo_pos c3 h
    refine x_iconst (pc := 13) dJ0_coder_7d493_13 (v := (1 : Int32)) (by decide) ?_
    refine x_sub [] trivial ?_
    exact j14 _ h
  · replace h := wo_neg c3 h
    refine x_aload_n (pc := 6) dJ0_coder_7d493_6 rfl ?_
    refine x_gsC (pc := 7) dJ0_coder_7d493_7 fJ0_15 hi0 ?_
    refine x_goto (pc := 10) dJ0_coder_7d493_10 (tgt := 14) (by decide) ?_
    refine x_sub [] trivial ?_
    exact j14 _ h
noncomputable def f_J0_length_8abf5 (i0 : Nat) (mem : mi_M) : Option (Int32) := mi_bo (f_J0_coder_7d493 i0 mem) fun v1 => some ((nI (mi_sn i0)) >>> (v1 &&& 31))
set_option maxRecDepth 100000 in
set_option maxHeartbeats 4000000 in
theorem w_J0_length_8abf5 (i0 : Nat) (hi0 : i0 < 12) (mem : mi_M) (a : Int32) (e : f_J0_length_8abf5 i0 mem = some a) : mi_Ci (2) mJ0_length_8abf5 [vr 300 i0] mem (fun x m' => x = a ∧ m' = mem) := by
  unfold mi_Ci
  refine mi_C_intro (ls := [(0, vr 300 i0)]) (by decide) rfl rfl ?_
  obtain ⟨Q0, hq0, h⟩ : ∃ Q0 : Int32 → Prop, (∀ b, Q0 b → b = a) ∧ wo (f_J0_length_8abf5 i0 mem) Q0 := ⟨fun b => b = a, fun _ h => h, wo_eq e⟩
  obtain ⟨QX, hQX⟩ : ∃ QX : Option mi_V → mi_M → Prop, QX = (fun r m' => ∃ x, r = some (vi x) ∧ x = a ∧ m' = mem) := ⟨_, rfl⟩
  rw [← hQX]
  unfold f_J0_length_8abf5 at h
  refine x_aload_n (pc := 0) dJ0_length_8abf5_0 rfl ?_
  refine x_gsV (pc := 1) dJ0_length_8abf5_1 fJ0_9 hi0 ?_
  refine x_tln (pc := 4) dJ0_length_8abf5_4 hi0 ?_
  refine x_aload_n (pc := 5) dJ0_length_8abf5_5 rfl ?_
  refine z_Ti0 (pc := 6) h dJ0_length_8abf5_6 tJ0_335 hi0 (by omega) rfl (fun a e => w_J0_coder_7d493 _ hi0 _ a e) (fun v1 h => ?_)
  refine x_ishr (pc := 9) dJ0_length_8abf5_9 ?_
  exact x_iret (pc := 10) dJ0_length_8abf5_10 rfl (by rw [hQX]; exact ⟨_, rfl, hq0 _ (wo_some h), rfl⟩)
noncomputable def f_X6_among_J94 (u4 : Int32) : Option (Int32) := some u4
noncomputable def f_X6_among_J74 (l8 : Int32) (u11 : Int32) (u12 : Int64) : Option ((Int32 × Int64 × Int32) ⊕ (Int32 ⊕ (Int32 × Int64))) := some (.inl (u11, u12, (l8 + (1 : Int32))))
noncomputable def f_X6_among_B17 (p0 : Nat) (mem : mi_M) : (Int32 × Int64 × Int32) → Option ((Int32 × Int64 × Int32) ⊕ (Int32 ⊕ (Int32 × Int64))) := fun s => match s with | (l6, l7, l8) => mi_bo (f_J0_length_8abf5 p0 mem) fun v9 => if v9 ≤ l8 then some (.inr (.inr (l6, l7))) else mi_bo (f_J0_charAt_5068e p0 l8 mem) fun v10 => if v10 = (32 : Int32) then if (lg_cmp l7 (mem.2.1 6 0 4)) = 0 then some (.inr (.inl l6)) else f_X6_among_J74 l8 (l6 + (1 : Int32)) (0 : Int64) else mi_bo (f_J0_charAt_5068e p0 l8 mem) fun v14 => mi_let (((l7 * (32 : Int64)) + (v14).toInt64) - (96 : Int64)) fun v15 => f_X6_among_J74 l8 l6 v15
noncomputable def f_X6_among_K17 (mem : mi_M) : (Int32 ⊕ (Int32 × Int64)) → Option (Int32) := fun e => match e with | (.inl e1) => some e1 | (.inr (e2, e3)) => if (lg_cmp e3 (mem.2.1 6 0 4)) = 0 then f_X6_among_J94 e2 else f_X6_among_J94 (-1 : Int32)
noncomputable def f_X6_among (p0 : Nat) (mem : mi_M) : Option (Int32) := if (mem.1 6 0 1) = (2 : Int32) then mi_bo (mi_lp (f_X6_among_B17 p0 mem) mi_fu ((0 : Int32), (0 : Int64), (0 : Int32))) (f_X6_among_K17 mem) else some (-1 : Int32)
set_option maxRecDepth 100000 in
set_option maxHeartbeats 4000000 in
theorem w_X6_among (p0 : Nat) (hp0 : p0 < 12) (mem : mi_M) (a : Int32) (e : f_X6_among p0 mem = some a) : mi_Ci (5) mX6_among [vr 6 0, vr 300 p0] mem (fun x m' => x = a ∧ m' = mem) := by
  unfold mi_Ci
  refine mi_C_intro (ls := [(0, vr 6 0), (1, vr 300 p0)]) (by decide) rfl rfl ?_
  obtain ⟨Q0, hq0, h⟩ : ∃ Q0 : Int32 → Prop, (∀ b, Q0 b → b = a) ∧ wo (f_X6_among p0 mem) Q0 := ⟨fun b => b = a, fun _ h => h, wo_eq e⟩
  obtain ⟨QX, hQX⟩ : ∃ QX : Option mi_V → mi_M → Prop, QX = (fun r m' => ∃ x, r = some (vi x) ∧ x = a ∧ m' = mem) := ⟨_, rfl⟩
  rw [← hQX]
  unfold f_X6_among at h
  refine x_aload_n (pc := 0) dX6_among_0 rfl ?_
  refine x_getI (pc := 1) dX6_among_1 fX6_41 rfl (by decide) ?_
  refine x_iconst (pc := 4) dX6_among_4 (v := (2 : Int32)) (by decide) ?_
  refine x_icmp_eq (pc := 5) dX6_among_5 (tgt := 10) (by decide) (fun c18 => ?_) (fun c18 => ?_)
  · replace h := wo_pos c18 h
    refine x_iconst (pc := 10) dX6_among_10 (v := (0 : Int32)) (by decide) ?_
    refine x_istore_n (ls' := [(2, _), (0, _), (1, _)]) (pc := 11) dX6_among_11 rfl rfl rfl ?_
    refine x_lconst (pc := 12) dX6_among_12 (v := (0 : Int64)) (by decide) ?_
    refine x_lstore_n (ls' := [(3, _), (2, _), (0, _), (1, _)]) (pc := 13) dX6_among_13 rfl rfl rfl ?_
    refine x_iconst (pc := 14) dX6_among_14 (v := (0 : Int32)) (by decide) ?_
    refine x_istore (ls' := [(5, _), (3, _), (2, _), (0, _), (1, _)]) (pc := 15) dX6_among_15 rfl rfl ?_
    have k17_0 : ∀ (e1 : Int32), wo (f_X6_among_K17 mem (.inl e1)) Q0 → mi_X mX6_among (5) 67 [(2, vi e1)] [] mem QX := by
      intro e1 h
      unfold f_X6_among_K17 at h
      try dsimp only at h
      refine x_iload_n (pc := 67) dX6_among_67 rfl ?_
      exact x_iret (pc := 68) dX6_among_68 rfl (by rw [hQX]; exact ⟨_, rfl, hq0 _ (wo_some h), rfl⟩)
    have k17_1 : ∀ (e2 : Int32) (e3 : Int64), wo (f_X6_among_K17 mem (.inr (e2, e3))) Q0 → mi_X mX6_among (5) 80 [(0, vr 6 0), (2, vi e2), (3, vl e3)] [] mem QX := by
      intro e2 e3 h
      unfold f_X6_among_K17 at h
      try dsimp only at h
      refine x_lload_n (pc := 80) dX6_among_80 rfl ?_
      refine x_aload_n (pc := 81) dX6_among_81 rfl ?_
      refine x_getL (pc := 82) dX6_among_82 fX6_37 rfl (by decide) ?_
      refine x_lcmp (pc := 85) dX6_among_85 ?_
      have j94 : ∀ (u4 : Int32), wo (f_X6_among_J94 u4) Q0 → mi_X mX6_among (5) 94 [] [vi u4] mem QX := by
        intro u4 h
        unfold f_X6_among_J94 at h
        exact x_iret (pc := 94) dX6_among_94 rfl (by rw [hQX]; exact ⟨_, rfl, hq0 _ (wo_some h), rfl⟩)
      refine x_if_ne (pc := 86) dX6_among_86 (tgt := 93) (by decide) (fun c5 => ?_) (fun c5 => ?_)
      · replace h := wo_neg c5 h
        refine x_iconst (pc := 93) dX6_among_93 (v := (-1 : Int32)) (by decide) ?_
        refine x_sub [] trivial ?_
        exact j94 _ h
      · replace h := wo_pos c5 h
        refine x_iload_n (pc := 89) dX6_among_89 rfl ?_
        refine x_goto (pc := 90) dX6_among_90 (tgt := 94) (by decide) ?_
        refine x_sub [] trivial ?_
        exact j94 _ h
    refine x_sub [(0, _), (1, _), (2, _), (3, _), (5, _)] ⟨rfl, rfl, rfl, rfl, rfl, trivial⟩ ?_
    obtain ⟨ea, eb, h⟩ := wo_bo h
    refine wo_lq (X := fun s => match s with | (l6, l7, l8) => mi_X mX6_among (5) 17 [(0, vr 6 0), (1, vr 300 p0), (2, vi l6), (3, vl l7), (5, vi l8)] [] mem QX) (E := fun e => wo (f_X6_among_K17 mem e) Q0) ?_ _ ((0 : Int32), (0 : Int64), (0 : Int32)) ⟨_, eb, h⟩
    intro Q17 hb17 he17 s h
    obtain ⟨l6, l7, l8⟩ := s
    show mi_X mX6_among (5) 17 [(0, vr 6 0), (1, vr 300 p0), (2, vi l6), (3, vl l7), (5, vi l8)] [] mem QX
    unfold f_X6_among_B17 at h
    try dsimp only at h
    refine x_iload (pc := 17) dX6_among_17 rfl ?_
    refine x_aload_n (pc := 19) dX6_among_19 rfl ?_
    refine z_Ti0 (pc := 20) h dX6_among_20 tX6_62 hp0 (by omega) rfl (fun a e => w_J0_length_8abf5 _ hp0 _ a e) (fun v9 h => ?_)
    refine x_icmp_ge (pc := 23) dX6_among_23 (tgt := 80) (by decide) (fun c17 => ?_) (fun c17 => ?_)
    · replace h := wo_pos c17 h
      refine x_sub [(0, _), (2, _), (3, _)] ⟨rfl, rfl, rfl, trivial⟩ ?_
      exact k17_1 _ _ (he17 (.inr (l6, l7)) (wo_some h))
    · replace h := wo_neg c17 h
      refine x_aload_n (pc := 26) dX6_among_26 rfl ?_
      refine x_iload (pc := 27) dX6_among_27 rfl ?_
      refine z_Ti1 (pc := 29) h dX6_among_29 tX6_65 hp0 (by omega) rfl (fun a e => w_J0_charAt_5068e _ _ hp0 _ a e) (fun v10 h => ?_)
      refine x_bipush (pc := 32) dX6_among_32 (v := (32 : Int32)) (by decide) ?_
      have j74 : ∀ (u11 : Int32) (u12 : Int64), wo (f_X6_among_J74 l8 u11 u12) Q17 → mi_X mX6_among (5) 74 [(0, vr 6 0), (1, vr 300 p0), (2, vi u11), (3, vl u12), (5, vi l8)] [] mem QX := by
        intro u11 u12 h
        unfold f_X6_among_J74 at h
        refine x_iinc (ls' := [(5, _), (0, _), (1, _), (2, _), (3, _)]) (pc := 74) dX6_among_74 rfl (v := l8 + (1 : Int32)) rfl rfl rfl ?_
        refine x_goto (pc := 77) dX6_among_77 (tgt := 17) (by decide) ?_
        refine x_sub [(0, _), (1, _), (2, _), (3, _), (5, _)] ⟨rfl, rfl, rfl, rfl, rfl, trivial⟩ ?_
        exact hb17 (u11, u12, (l8 + (1 : Int32))) (wo_some h)
      refine x_icmp_eq (pc := 34) dX6_among_34 (tgt := 58) (by decide) (fun c16 => ?_) (fun c16 => ?_)
      · replace h := wo_pos c16 h
        refine x_lload_n (pc := 58) dX6_among_58 rfl ?_
        refine x_aload_n (pc := 59) dX6_among_59 rfl ?_
        refine x_getL (pc := 60) dX6_among_60 fX6_37 rfl (by decide) ?_
        refine x_lcmp (pc := 63) dX6_among_63 ?_
        refine x_if_ne (pc := 64) dX6_among_64 (tgt := 69) (by decide) (fun c13 => ?_) (fun c13 => ?_)
        · replace h := wo_neg c13 h
          refine x_iinc (ls' := [(2, _), (0, _), (1, _), (3, _), (5, _)]) (pc := 69) dX6_among_69 rfl (v := l6 + (1 : Int32)) rfl rfl rfl ?_
          refine x_lconst (pc := 72) dX6_among_72 (v := (0 : Int64)) (by decide) ?_
          refine x_lstore_n (ls' := [(3, _), (2, _), (0, _), (1, _), (5, _)]) (pc := 73) dX6_among_73 rfl rfl rfl ?_
          refine x_sub [(0, _), (1, _), (2, _), (3, _), (5, _)] ⟨rfl, rfl, rfl, rfl, rfl, trivial⟩ ?_
          exact j74 _ _ h
        · replace h := wo_pos c13 h
          refine x_sub [(2, _)] ⟨rfl, trivial⟩ ?_
          exact k17_0 _ (he17 (.inl l6) (wo_some h))
      · replace h := wo_neg c16 h
        refine x_lload_n (pc := 37) dX6_among_37 rfl ?_
        refine x_ldc2 (pc := 38) dX6_among_38 kX6_58 ?_
        refine x_lmul (pc := 41) dX6_among_41 ?_
        refine x_aload_n (pc := 42) dX6_among_42 rfl ?_
        refine x_iload (pc := 43) dX6_among_43 rfl ?_
        refine z_Ti1 (pc := 45) h dX6_among_45 tX6_65 hp0 (by omega) rfl (fun a e => w_J0_charAt_5068e _ _ hp0 _ a e) (fun v14 h => ?_)
        refine x_i2l (pc := 48) dX6_among_48 rfl ?_
        refine x_ladd (pc := 49) dX6_among_49 ?_
        refine x_ldc2 (pc := 50) dX6_among_50 kX6_60 ?_
        refine x_lsub (pc := 53) dX6_among_53 ?_
        refine x_letl h (fun v15 h => ?_)
        refine x_lstore_n (ls' := [(3, _), (0, _), (1, _), (2, _), (5, _)]) (pc := 54) dX6_among_54 rfl rfl rfl ?_
        refine x_goto (pc := 55) dX6_among_55 (tgt := 74) (by decide) ?_
        refine x_sub [(0, _), (1, _), (2, _), (3, _), (5, _)] ⟨rfl, rfl, rfl, rfl, rfl, trivial⟩ ?_
        exact j74 _ _ h
  · replace h := wo_neg c18 h
    refine x_iconst (pc := 8) dX6_among_8 (v := (-1 : Int32)) (by decide) ?_
    exact x_iret (pc := 9) dX6_among_9 rfl (by rw [hQX]; exact ⟨_, rfl, hq0 _ (wo_some h), rfl⟩)
noncomputable def f_X6_takeNumber_J78 (e2 : Int32) (m3 : mi_M) (u4 : Int32) : Option (mi_M) := mi_let (mi_wI m3 6 0 1 u4) fun m5 => mi_let (mi_wI m5 6 0 6 e2) fun m6 => some m6
noncomputable def f_X6_takeNumber_B5 : (Int32 × mi_M) → Option ((Int32 × mi_M) ⊕ (Int32 × mi_M)) := fun s => match s with | (l8, m9) => if (m9.1 6 0 0) ≤ l8 then some (.inr (l8, m9)) else mi_g (vp_in l8 1000) (if (m9.1 37 0 l8.toNatClampNeg) < (48 : Int32) then some (.inr (l8, m9)) else mi_g (vp_in l8 1000) (if (57 : Int32) < (m9.1 37 0 l8.toNatClampNeg) then some (.inr (l8, m9)) else mi_g (vp_in l8 1000) (mi_let (mi_wI m9 6 0 3 ((((m9.1 6 0 3) * (10 : Int32)) + (m9.1 37 0 l8.toNatClampNeg)) - (48 : Int32))) fun m13 => some (.inl ((l8 + (1 : Int32)), m13)))))
noncomputable def f_X6_takeNumber_K5 : (Int32 × mi_M) → Option (mi_M) := fun e => match e with | (e2, m3) => if (4 : Int32) < (e2 - (m3.1 6 0 2)) then f_X6_takeNumber_J78 e2 m3 (1 : Int32) else f_X6_takeNumber_J78 e2 m3 (3 : Int32)
noncomputable def f_X6_takeNumber (mem : mi_M) : Option (mi_M) := mi_let (mem.1 6 0 2) fun v1 => mi_bo (mi_lp (f_X6_takeNumber_B5) mi_fu (v1, mem)) (f_X6_takeNumber_K5)
set_option maxRecDepth 100000 in
set_option maxHeartbeats 4000000 in
theorem w_X6_takeNumber (mem : mi_M) (a : mi_M) (e : f_X6_takeNumber  mem = some a) : mi_Cv (1) mX6_takeNumber [vr 6 0] mem (fun m' => m' = a) := by
  unfold mi_Cv
  refine mi_C_intro (ls := [(0, vr 6 0)]) (by decide) rfl rfl ?_
  obtain ⟨Q0, hq0, h⟩ : ∃ Q0 : mi_M → Prop, (∀ b, Q0 b → b = a) ∧ wo (f_X6_takeNumber  mem) Q0 := ⟨fun b => b = a, fun _ h => h, wo_eq e⟩
  obtain ⟨QX, hQX⟩ : ∃ QX : Option mi_V → mi_M → Prop, QX = (fun r m' => r = none ∧ m' = a) := ⟨_, rfl⟩
  rw [← hQX]
  unfold f_X6_takeNumber at h
  refine x_aload_n (pc := 0) dX6_takeNumber_0 rfl ?_
  refine x_getI (pc := 1) dX6_takeNumber_1 fX6_31 rfl (by decide) ?_
  refine x_leti h (fun v1 h => ?_)
  refine x_istore_n (ls' := [(1, _), (0, _)]) (pc := 4) dX6_takeNumber_4 rfl rfl rfl ?_
  have k5_0 : ∀ (e2 : Int32) (m3 : mi_M), wo (f_X6_takeNumber_K5 (e2, m3)) Q0 → mi_X mX6_takeNumber (1) 62 [(0, vr 6 0), (1, vi e2)] [] m3 QX := by
    intro e2 m3 h
    unfold f_X6_takeNumber_K5 at h
    try dsimp only at h
    refine x_aload_n (pc := 62) dX6_takeNumber_62 rfl ?_
    refine x_iload_n (pc := 63) dX6_takeNumber_63 rfl ?_
    refine x_aload_n (pc := 64) dX6_takeNumber_64 rfl ?_
    refine x_getI (pc := 65) dX6_takeNumber_65 fX6_31 rfl (by decide) ?_
    refine x_isub (pc := 68) dX6_takeNumber_68 ?_
    refine x_iconst (pc := 69) dX6_takeNumber_69 (v := (4 : Int32)) (by decide) ?_
    have j78 : ∀ (u4 : Int32), wo (f_X6_takeNumber_J78 e2 m3 u4) Q0 → mi_X mX6_takeNumber (1) 78 [(0, vr 6 0), (1, vi e2)] [vi u4, vr 6 0] m3 QX := by
      intro u4 h
      unfold f_X6_takeNumber_J78 at h
      refine x_putI (pc := 78) dX6_takeNumber_78 fX6_41 rfl (by decide) rfl rfl ?_
      refine x_letm h (fun m5 h => ?_)
      refine x_aload_n (pc := 81) dX6_takeNumber_81 rfl ?_
      refine x_iload_n (pc := 82) dX6_takeNumber_82 rfl ?_
      refine x_putI (pc := 83) dX6_takeNumber_83 fX6_25 rfl (by decide) rfl rfl ?_
      refine x_letm h (fun m6 h => ?_)
      exact x_ret (pc := 86) dX6_takeNumber_86 rfl (by rw [hQX]; exact ⟨rfl, hq0 _ (wo_some h)⟩)
    refine x_icmp_gt (pc := 70) dX6_takeNumber_70 (tgt := 77) (by decide) (fun c7 => ?_) (fun c7 => ?_)
    · replace h := wo_pos c7 h
      refine x_iconst (pc := 77) dX6_takeNumber_77 (v := (1 : Int32)) (by decide) ?_
      refine x_sub [(0, _), (1, _)] ⟨rfl, rfl, trivial⟩ ?_
      exact j78 _ h
    · replace h := wo_neg c7 h
      refine x_iconst (pc := 73) dX6_takeNumber_73 (v := (3 : Int32)) (by decide) ?_
      refine x_goto (pc := 74) dX6_takeNumber_74 (tgt := 78) (by decide) ?_
      refine x_sub [(0, _), (1, _)] ⟨rfl, rfl, trivial⟩ ?_
      exact j78 _ h
  refine x_sub [(0, _), (1, _)] ⟨rfl, rfl, trivial⟩ ?_
  obtain ⟨ea, eb, h⟩ := wo_bo h
  refine wo_lq (X := fun s => match s with | (l8, m9) => mi_X mX6_takeNumber (1) 5 [(0, vr 6 0), (1, vi l8)] [] m9 QX) (E := fun e => wo (f_X6_takeNumber_K5 e) Q0) ?_ _ (v1, mem) ⟨_, eb, h⟩
  intro Q5 hb5 he5 s h
  obtain ⟨l8, m9⟩ := s
  show mi_X mX6_takeNumber (1) 5 [(0, vr 6 0), (1, vi l8)] [] m9 QX
  unfold f_X6_takeNumber_B5 at h
  try dsimp only at h
  refine x_iload_n (pc := 5) dX6_takeNumber_5 rfl ?_
  refine x_aload_n (pc := 6) dX6_takeNumber_6 rfl ?_
  refine x_getI (pc := 7) dX6_takeNumber_7 fX6_21 rfl (by decide) ?_
  refine x_icmp_ge (pc := 10) dX6_takeNumber_10 (tgt := 62) (by decide) (fun c16 => ?_) (fun c16 => ?_)
  · replace h := wo_pos c16 h
    refine x_sub [(0, _), (1, _)] ⟨rfl, rfl, trivial⟩ ?_
    exact k5_0 _ _ (he5 (l8, m9) (wo_some h))
  · replace h := wo_neg c16 h
    refine x_aload_n (pc := 13) dX6_takeNumber_13 rfl ?_
    refine x_getS (pc := 14) dX6_takeNumber_14 fX6_11 rfl (by decide) ?_
    refine x_iload_n (pc := 17) dX6_takeNumber_17 rfl ?_
    obtain ⟨hx10, h⟩ := wo_g h
    refine x_baldJ (pc := 18) dX6_takeNumber_18 rfl rfl (by decide) hx10 ?_
    refine x_bipush (pc := 19) dX6_takeNumber_19 (v := (48 : Int32)) (by decide) ?_
    refine x_icmp_lt (pc := 21) dX6_takeNumber_21 (tgt := 62) (by decide) (fun c15 => ?_) (fun c15 => ?_)
    · replace h := wo_pos c15 h
      refine x_sub [(0, _), (1, _)] ⟨rfl, rfl, trivial⟩ ?_
      exact k5_0 _ _ (he5 (l8, m9) (wo_some h))
    · replace h := wo_neg c15 h
      refine x_aload_n (pc := 24) dX6_takeNumber_24 rfl ?_
      refine x_getS (pc := 25) dX6_takeNumber_25 fX6_11 rfl (by decide) ?_
      refine x_iload_n (pc := 28) dX6_takeNumber_28 rfl ?_
      obtain ⟨hx11, h⟩ := wo_g h
      refine x_baldJ (pc := 29) dX6_takeNumber_29 rfl rfl (by decide) hx11 ?_
      refine x_bipush (pc := 30) dX6_takeNumber_30 (v := (57 : Int32)) (by decide) ?_
      refine x_icmp_gt (pc := 32) dX6_takeNumber_32 (tgt := 62) (by decide) (fun c14 => ?_) (fun c14 => ?_)
      · replace h := wo_pos c14 h
        refine x_sub [(0, _), (1, _)] ⟨rfl, rfl, trivial⟩ ?_
        exact k5_0 _ _ (he5 (l8, m9) (wo_some h))
      · replace h := wo_neg c14 h
        refine x_aload_n (pc := 35) dX6_takeNumber_35 rfl ?_
        refine x_aload_n (pc := 36) dX6_takeNumber_36 rfl ?_
        refine x_getI (pc := 37) dX6_takeNumber_37 fX6_34 rfl (by decide) ?_
        refine x_bipush (pc := 40) dX6_takeNumber_40 (v := (10 : Int32)) (by decide) ?_
        refine x_imul (pc := 42) dX6_takeNumber_42 ?_
        refine x_aload_n (pc := 43) dX6_takeNumber_43 rfl ?_
        refine x_getS (pc := 44) dX6_takeNumber_44 fX6_11 rfl (by decide) ?_
        refine x_iload_n (pc := 47) dX6_takeNumber_47 rfl ?_
        obtain ⟨hx12, h⟩ := wo_g h
        refine x_baldJ (pc := 48) dX6_takeNumber_48 rfl rfl (by decide) hx12 ?_
        refine x_iadd (pc := 49) dX6_takeNumber_49 ?_
        refine x_bipush (pc := 50) dX6_takeNumber_50 (v := (48 : Int32)) (by decide) ?_
        refine x_isub (pc := 52) dX6_takeNumber_52 ?_
        refine x_putI (pc := 53) dX6_takeNumber_53 fX6_34 rfl (by decide) rfl rfl ?_
        refine x_letm h (fun m13 h => ?_)
        refine x_iinc (ls' := [(1, _), (0, _)]) (pc := 56) dX6_takeNumber_56 rfl (v := l8 + (1 : Int32)) rfl rfl rfl ?_
        refine x_goto (pc := 59) dX6_takeNumber_59 (tgt := 5) (by decide) ?_
        refine x_sub [(0, _), (1, _)] ⟨rfl, rfl, trivial⟩ ?_
        exact hb5 ((l8 + (1 : Int32)), m13) (wo_some h)
noncomputable def f_X6_takeWord_J82 (e2 : Int32) (m3 : mi_M) (u4 : Int32) : Option (mi_M) := mi_let (mi_wI m3 6 0 1 u4) fun m5 => mi_let (mi_wI m5 6 0 6 e2) fun m6 => some m6
noncomputable def f_X6_takeWord_B5 : (Int32 × mi_M) → Option ((Int32 × mi_M) ⊕ (Int32 × mi_M)) := fun s => match s with | (l8, m9) => if (m9.1 6 0 0) ≤ l8 then some (.inr (l8, m9)) else mi_g (vp_in l8 1000) (if (m9.1 37 0 l8.toNatClampNeg) < (97 : Int32) then some (.inr (l8, m9)) else mi_g (vp_in l8 1000) (if (122 : Int32) < (m9.1 37 0 l8.toNatClampNeg) then some (.inr (l8, m9)) else mi_g (vp_in l8 1000) (mi_let (mi_wL m9 6 0 4 ((((m9.2.1 6 0 4) * (32 : Int64)) + ((m9.1 37 0 l8.toNatClampNeg)).toInt64) - (96 : Int64))) fun m13 => some (.inl ((l8 + (1 : Int32)), m13)))))
noncomputable def f_X6_takeWord_K5 : (Int32 × mi_M) → Option (mi_M) := fun e => match e with | (e2, m3) => if (8 : Int32) < (e2 - (m3.1 6 0 2)) then f_X6_takeWord_J82 e2 m3 (1 : Int32) else f_X6_takeWord_J82 e2 m3 (2 : Int32)
noncomputable def f_X6_takeWord (mem : mi_M) : Option (mi_M) := mi_let (mem.1 6 0 2) fun v1 => mi_bo (mi_lp (f_X6_takeWord_B5) mi_fu (v1, mem)) (f_X6_takeWord_K5)
set_option maxRecDepth 100000 in
set_option maxHeartbeats 4000000 in
theorem w_X6_takeWord (mem : mi_M) (a : mi_M) (e : f_X6_takeWord  mem = some a) : mi_Cv (1) mX6_takeWord [vr 6 0] mem (fun m' => m' = a) := by
  unfold mi_Cv
  refine mi_C_intro (ls := [(0, vr 6 0)]) (by decide) rfl rfl ?_
  obtain ⟨Q0, hq0, h⟩ : ∃ Q0 : mi_M → Prop, (∀ b, Q0 b → b = a) ∧ wo (f_X6_takeWord  mem) Q0 := ⟨fun b => b = a, fun _ h => h, wo_eq e⟩
  obtain ⟨QX, hQX⟩ : ∃ QX : Option mi_V → mi_M → Prop, QX = (fun r m' => r = none ∧ m' = a) := ⟨_, rfl⟩
  rw [← hQX]
  unfold f_X6_takeWord at h
  refine x_aload_n (pc := 0) dX6_takeWord_0 rfl ?_
  refine x_getI (pc := 1) dX6_takeWord_1 fX6_31 rfl (by decide) ?_
  refine x_leti h (fun v1 h => ?_)
  refine x_istore_n (ls' := [(1, _), (0, _)]) (pc := 4) dX6_takeWord_4 rfl rfl rfl ?_
  have k5_0 : ∀ (e2 : Int32) (m3 : mi_M), wo (f_X6_takeWord_K5 (e2, m3)) Q0 → mi_X mX6_takeWord (1) 65 [(0, vr 6 0), (1, vi e2)] [] m3 QX := by
    intro e2 m3 h
    unfold f_X6_takeWord_K5 at h
    try dsimp only at h
    refine x_aload_n (pc := 65) dX6_takeWord_65 rfl ?_
    refine x_iload_n (pc := 66) dX6_takeWord_66 rfl ?_
    refine x_aload_n (pc := 67) dX6_takeWord_67 rfl ?_
    refine x_getI (pc := 68) dX6_takeWord_68 fX6_31 rfl (by decide) ?_
    refine x_isub (pc := 71) dX6_takeWord_71 ?_
    refine x_bipush (pc := 72) dX6_takeWord_72 (v := (8 : Int32)) (by decide) ?_
    have j82 : ∀ (u4 : Int32), wo (f_X6_takeWord_J82 e2 m3 u4) Q0 → mi_X mX6_takeWord (1) 82 [(0, vr 6 0), (1, vi e2)] [vi u4, vr 6 0] m3 QX := by
      intro u4 h
      unfold f_X6_takeWord_J82 at h
      refine x_putI (pc := 82) dX6_takeWord_82 fX6_41 rfl (by decide) rfl rfl ?_
      refine x_letm h (fun m5 h => ?_)
      refine x_aload_n (pc := 85) dX6_takeWord_85 rfl ?_
      refine x_iload_n (pc := 86) dX6_takeWord_86 rfl ?_
      refine x_putI (pc := 87) dX6_takeWord_87 fX6_25 rfl (by decide) rfl rfl ?_
      refine x_letm h (fun m6 h => ?_)
      exact x_ret (pc := 90) dX6_takeWord_90 rfl (by rw [hQX]; exact ⟨rfl, hq0 _ (wo_some h)⟩)
    refine x_icmp_gt (pc := 74) dX6_takeWord_74 (tgt := 81) (by decide) (fun c7 => ?_) (fun c7 => ?_)
    · replace h := wo_pos c7 h
      refine x_iconst (pc := 81) dX6_takeWord_81 (v := (1 : Int32)) (by decide) ?_
      refine x_sub [(0, _), (1, _)] ⟨rfl, rfl, trivial⟩ ?_
      exact j82 _ h
    · replace h := wo_neg c7 h
      refine x_iconst (pc := 77) dX6_takeWord_77 (v := (2 : Int32)) (by decide) ?_
      refine x_goto (pc := 78) dX6_takeWord_78 (tgt := 82) (by decide) ?_
      refine x_sub [(0, _), (1, _)] ⟨rfl, rfl, trivial⟩ ?_
      exact j82 _ h
  refine x_sub [(0, _), (1, _)] ⟨rfl, rfl, trivial⟩ ?_
  obtain ⟨ea, eb, h⟩ := wo_bo h
  refine wo_lq (X := fun s => match s with | (l8, m9) => mi_X mX6_takeWord (1) 5 [(0, vr 6 0), (1, vi l8)] [] m9 QX) (E := fun e => wo (f_X6_takeWord_K5 e) Q0) ?_ _ (v1, mem) ⟨_, eb, h⟩
  intro Q5 hb5 he5 s h
  obtain ⟨l8, m9⟩ := s
  show mi_X mX6_takeWord (1) 5 [(0, vr 6 0), (1, vi l8)] [] m9 QX
  unfold f_X6_takeWord_B5 at h
  try dsimp only at h
  refine x_iload_n (pc := 5) dX6_takeWord_5 rfl ?_
  refine x_aload_n (pc := 6) dX6_takeWord_6 rfl ?_
  refine x_getI (pc := 7) dX6_takeWord_7 fX6_21 rfl (by decide) ?_
  refine x_icmp_ge (pc := 10) dX6_takeWord_10 (tgt := 65) (by decide) (fun c16 => ?_) (fun c16 => ?_)
  · replace h := wo_pos c16 h
    refine x_sub [(0, _), (1, _)] ⟨rfl, rfl, trivial⟩ ?_
    exact k5_0 _ _ (he5 (l8, m9) (wo_some h))
  · replace h := wo_neg c16 h
    refine x_aload_n (pc := 13) dX6_takeWord_13 rfl ?_
    refine x_getS (pc := 14) dX6_takeWord_14 fX6_11 rfl (by decide) ?_
    refine x_iload_n (pc := 17) dX6_takeWord_17 rfl ?_
    obtain ⟨hx10, h⟩ := wo_g h
    refine x_baldJ (pc := 18) dX6_takeWord_18 rfl rfl (by decide) hx10 ?_
    refine x_bipush (pc := 19) dX6_takeWord_19 (v := (97 : Int32)) (by decide) ?_
    refine x_icmp_lt (pc := 21) dX6_takeWord_21 (tgt := 65) (by decide) (fun c15 => ?_) (fun c15 => ?_)
    · replace h := wo_pos c15 h
      refine x_sub [(0, _), (1, _)] ⟨rfl, rfl, trivial⟩ ?_
      exact k5_0 _ _ (he5 (l8, m9) (wo_some h))
    · replace h := wo_neg c15 h
      refine x_aload_n (pc := 24) dX6_takeWord_24 rfl ?_
      refine x_getS (pc := 25) dX6_takeWord_25 fX6_11 rfl (by decide) ?_
      refine x_iload_n (pc := 28) dX6_takeWord_28 rfl ?_
      obtain ⟨hx11, h⟩ := wo_g h
      refine x_baldJ (pc := 29) dX6_takeWord_29 rfl rfl (by decide) hx11 ?_
      refine x_bipush (pc := 30) dX6_takeWord_30 (v := (122 : Int32)) (by decide) ?_
      refine x_icmp_gt (pc := 32) dX6_takeWord_32 (tgt := 65) (by decide) (fun c14 => ?_) (fun c14 => ?_)
      · replace h := wo_pos c14 h
        refine x_sub [(0, _), (1, _)] ⟨rfl, rfl, trivial⟩ ?_
        exact k5_0 _ _ (he5 (l8, m9) (wo_some h))
      · replace h := wo_neg c14 h
        refine x_aload_n (pc := 35) dX6_takeWord_35 rfl ?_
        refine x_aload_n (pc := 36) dX6_takeWord_36 rfl ?_
        refine x_getL (pc := 37) dX6_takeWord_37 fX6_37 rfl (by decide) ?_
        refine x_ldc2 (pc := 40) dX6_takeWord_40 kX6_58 ?_
        refine x_lmul (pc := 43) dX6_takeWord_43 ?_
        refine x_aload_n (pc := 44) dX6_takeWord_44 rfl ?_
        refine x_getS (pc := 45) dX6_takeWord_45 fX6_11 rfl (by decide) ?_
        refine x_iload_n (pc := 48) dX6_takeWord_48 rfl ?_
        obtain ⟨hx12, h⟩ := wo_g h
        refine x_baldJ (pc := 49) dX6_takeWord_49 rfl rfl (by decide) hx12 ?_
        refine x_i2l (pc := 50) dX6_takeWord_50 rfl ?_
        refine x_ladd (pc := 51) dX6_takeWord_51 ?_
        refine x_ldc2 (pc := 52) dX6_takeWord_52 kX6_60 ?_
        refine x_lsub (pc := 55) dX6_takeWord_55 ?_
        refine x_putL (pc := 56) dX6_takeWord_56 fX6_37 rfl (by decide) rfl rfl ?_
        refine x_letm h (fun m13 h => ?_)
        refine x_iinc (ls' := [(1, _), (0, _)]) (pc := 59) dX6_takeWord_59 rfl (v := l8 + (1 : Int32)) rfl rfl rfl ?_
        refine x_goto (pc := 62) dX6_takeWord_62 (tgt := 5) (by decide) ?_
        refine x_sub [(0, _), (1, _)] ⟨rfl, rfl, trivial⟩ ?_
        exact hb5 ((l8 + (1 : Int32)), m13) (wo_some h)
noncomputable def f_J1_canEncode_9a6ad_J16 (u1 : Int32) : Option (Int32) := mi_g (u1 = 0 ∨ u1 = 1) (some u1)
noncomputable def f_J1_canEncode_9a6ad_J15 : Option (Int32) := f_J1_canEncode_9a6ad_J16 (0 : Int32)
noncomputable def f_J1_canEncode_9a6ad (p0 : Int32) (mem : mi_M) : Option (Int32) := if p0 < 0 then f_J1_canEncode_9a6ad_J15 else if (255 : Int32) < p0 then f_J1_canEncode_9a6ad_J15 else f_J1_canEncode_9a6ad_J16 (1 : Int32)
set_option maxRecDepth 100000 in
set_option maxHeartbeats 4000000 in
theorem w_J1_canEncode_9a6ad (p0 : Int32) (mem : mi_M) (a : Int32) (e : f_J1_canEncode_9a6ad p0 mem = some a) : mi_Ci (1) mJ1_canEncode_9a6ad [vi p0] mem (fun x m' => x = a ∧ m' = mem) := by
  unfold mi_Ci
  refine mi_C_intro (ls := [(0, vi p0)]) (by decide) rfl rfl ?_
  obtain ⟨Q0, hq0, h⟩ : ∃ Q0 : Int32 → Prop, (∀ b, Q0 b → b = a) ∧ wo (f_J1_canEncode_9a6ad p0 mem) Q0 := ⟨fun b => b = a, fun _ h => h, wo_eq e⟩
  obtain ⟨QX, hQX⟩ : ∃ QX : Option mi_V → mi_M → Prop, QX = (fun r m' => ∃ x, r = some (vi x) ∧ x = a ∧ m' = mem) := ⟨_, rfl⟩
  rw [← hQX]
  unfold f_J1_canEncode_9a6ad at h
  refine x_iload_n (pc := 0) dJ1_canEncode_9a6ad_0 rfl ?_
  have j16 : ∀ (u1 : Int32), wo (f_J1_canEncode_9a6ad_J16 u1) Q0 → mi_X mJ1_canEncode_9a6ad (1) 16 [] [vi u1] mem QX := by
    intro u1 h
    unfold f_J1_canEncode_9a6ad_J16 at h
    obtain ⟨hb2, h⟩ := wo_g h
    exact x_zretB (pc := 16) dJ1_canEncode_9a6ad_16 rfl hb2 (by rw [hQX]; exact ⟨_, rfl, hq0 _ (wo_some h), rfl⟩)
  have j15 : wo (f_J1_canEncode_9a6ad_J15) Q0 → mi_X mJ1_canEncode_9a6ad (1) 15 [] [] mem QX := by
    intro h
    unfold f_J1_canEncode_9a6ad_J15 at h
    refine x_iconst (pc := 15) dJ1_canEncode_9a6ad_15 (v := (0 : Int32)) (by decide) ?_
    refine x_sub [] trivial ?_
    exact j16 _ h
  refine x_if_lt (pc := 1) dJ1_canEncode_9a6ad_1 (tgt := 15) (by decide) (fun c4 => ?_) (fun c4 => ?_)
  · replace h := wo_pos c4 h
    refine x_sub [] trivial ?_
    exact j15 h
  · replace h := wo_neg c4 h
    refine x_iload_n (pc := 4) dJ1_canEncode_9a6ad_4 rfl ?_
    refine x_sipush (pc := 5) dJ1_canEncode_9a6ad_5 (v := (255 : Int32)) (by decide) ?_
    refine x_icmp_gt (pc := 8) dJ1_canEncode_9a6ad_8 (tgt := 15) (by decide) (fun c3 => ?_) (fun c3 => ?_)
    · replace h := wo_pos c3 h
      refine x_sub [] trivial ?_
      exact j15 h
    · replace h := wo_neg c3 h
      refine x_iconst (pc := 11) dJ1_canEncode_9a6ad_11 (v := (1 : Int32)) (by decide) ?_
      refine x_goto (pc := 12) dJ1_canEncode_9a6ad_12 (tgt := 16) (by decide) ?_
      refine x_sub [] trivial ?_
      exact j16 _ h
noncomputable def f_J1_indexOfChar_4cfef_B7 (p0 : Nat) (p3 : Int32) (v1 : Int32) : Int32 → Option ((Int32) ⊕ (Int32 ⊕ Unit)) := fun l3 => if p3 ≤ l3 then some (.inr (.inr ())) else mi_g (vp_in l3 (mi_sn p0)) (if (mi_sb p0 l3.toNatClampNeg) = v1 then some (.inr (.inl l3)) else some (.inl (l3 + (1 : Int32))))
noncomputable def f_J1_indexOfChar_4cfef_K7 : (Int32 ⊕ Unit) → Option (Int32) := fun e => match e with | (.inl e2) => some e2 | (.inr ()) => some (-1 : Int32)
noncomputable def f_J1_indexOfChar_4cfef (p0 : Nat) (p1 : Int32) (p2 : Int32) (p3 : Int32) (mem : mi_M) : Option (Int32) := mi_let ((p1).toInt8.toInt32) fun v1 => mi_bo (mi_lp (f_J1_indexOfChar_4cfef_B7 p0 p3 v1) mi_fu p2) (f_J1_indexOfChar_4cfef_K7)
set_option maxRecDepth 100000 in
set_option maxHeartbeats 4000000 in
theorem w_J1_indexOfChar_4cfef (p0 : Nat) (p1 : Int32) (p2 : Int32) (p3 : Int32) (hp0 : p0 < 12) (mem : mi_M) (a : Int32) (e : f_J1_indexOfChar_4cfef p0 p1 p2 p3 mem = some a) : mi_Ci (1) mJ1_indexOfChar_4cfef [vr 301 p0, vi p1, vi p2, vi p3] mem (fun x m' => x = a ∧ m' = mem) := by
  unfold mi_Ci
  refine mi_C_intro (ls := [(0, vr 301 p0), (1, vi p1), (2, vi p2), (3, vi p3)]) (by decide) rfl rfl ?_
  obtain ⟨Q0, hq0, h⟩ : ∃ Q0 : Int32 → Prop, (∀ b, Q0 b → b = a) ∧ wo (f_J1_indexOfChar_4cfef p0 p1 p2 p3 mem) Q0 := ⟨fun b => b = a, fun _ h => h, wo_eq e⟩
  obtain ⟨QX, hQX⟩ : ∃ QX : Option mi_V → mi_M → Prop, QX = (fun r m' => ∃ x, r = some (vi x) ∧ x = a ∧ m' = mem) := ⟨_, rfl⟩
  rw [← hQX]
  unfold f_J1_indexOfChar_4cfef at h
  refine x_iload_n (pc := 0) dJ1_indexOfChar_4cfef_0 rfl ?_
  refine x_i2b (pc := 1) dJ1_indexOfChar_4cfef_1 rfl ?_
  refine x_leti h (fun v1 h => ?_)
  refine x_istore (ls' := [(4, _), (0, _), (1, _), (2, _), (3, _)]) (pc := 2) dJ1_indexOfChar_4cfef_2 rfl rfl ?_
  refine x_iload_n (pc := 4) dJ1_indexOfChar_4cfef_4 rfl ?_
  refine x_istore (ls' := [(5, _), (4, _), (0, _), (1, _), (2, _), (3, _)]) (pc := 5) dJ1_indexOfChar_4cfef_5 rfl rfl ?_
  have k7_0 : ∀ (e2 : Int32), wo (f_J1_indexOfChar_4cfef_K7 (.inl e2)) Q0 → mi_X mJ1_indexOfChar_4cfef (1) 22 [(5, vi e2)] [] mem QX := by
    intro e2 h
    unfold f_J1_indexOfChar_4cfef_K7 at h
    try dsimp only at h
    refine x_iload (pc := 22) dJ1_indexOfChar_4cfef_22 rfl ?_
    exact x_iret (pc := 24) dJ1_indexOfChar_4cfef_24 rfl (by rw [hQX]; exact ⟨_, rfl, hq0 _ (wo_some h), rfl⟩)
  have k7_1 : ∀ (_ : Unit), wo (f_J1_indexOfChar_4cfef_K7 (.inr ())) Q0 → mi_X mJ1_indexOfChar_4cfef (1) 31 [] [] mem QX := by
    intro _ h
    unfold f_J1_indexOfChar_4cfef_K7 at h
    try dsimp only at h
    refine x_iconst (pc := 31) dJ1_indexOfChar_4cfef_31 (v := (-1 : Int32)) (by decide) ?_
    exact x_iret (pc := 32) dJ1_indexOfChar_4cfef_32 rfl (by rw [hQX]; exact ⟨_, rfl, hq0 _ (wo_some h), rfl⟩)
  refine x_sub [(0, _), (3, _), (4, _), (5, _)] ⟨rfl, rfl, rfl, rfl, trivial⟩ ?_
  obtain ⟨ea, eb, h⟩ := wo_bo h
  refine wo_lq (X := fun l3 => mi_X mJ1_indexOfChar_4cfef (1) 7 [(0, vr 301 p0), (3, vi p3), (4, vi v1), (5, vi l3)] [] mem QX) (E := fun e => wo (f_J1_indexOfChar_4cfef_K7 e) Q0) ?_ _ p2 ⟨_, eb, h⟩
  intro Q7 hb7 he7 s h
  obtain ⟨l3, rfl⟩ : ∃ z, z = s := ⟨_, rfl⟩
  show mi_X mJ1_indexOfChar_4cfef (1) 7 [(0, vr 301 p0), (3, vi p3), (4, vi v1), (5, vi l3)] [] mem QX
  unfold f_J1_indexOfChar_4cfef_B7 at h
  try dsimp only at h
  refine x_iload (pc := 7) dJ1_indexOfChar_4cfef_7 rfl ?_
  refine x_iload_n (pc := 9) dJ1_indexOfChar_4cfef_9 rfl ?_
  refine x_icmp_ge (pc := 10) dJ1_indexOfChar_4cfef_10 (tgt := 31) (by decide) (fun c6 => ?_) (fun c6 => ?_)
  · replace h := wo_pos c6 h
    refine x_sub [] trivial ?_
    exact k7_1 () (he7 (.inr ()) (wo_some h))
  · replace h := wo_neg c6 h
    refine x_aload_n (pc := 13) dJ1_indexOfChar_4cfef_13 rfl ?_
    refine x_iload (pc := 14) dJ1_indexOfChar_4cfef_14 rfl ?_
    obtain ⟨hx4, h⟩ := wo_g h
    refine x_tbJ (pc := 16) dJ1_indexOfChar_4cfef_16 hp0 hx4 ?_
    refine x_iload (pc := 17) dJ1_indexOfChar_4cfef_17 rfl ?_
    refine x_icmp_ne (pc := 19) dJ1_indexOfChar_4cfef_19 (tgt := 25) (by decide) (fun c5 => ?_) (fun c5 => ?_)
    · replace h := wo_neg c5 h
      refine x_iinc (ls' := [(5, _), (0, _), (3, _), (4, _)]) (pc := 25) dJ1_indexOfChar_4cfef_25 rfl (v := l3 + (1 : Int32)) rfl rfl rfl ?_
      refine x_goto (pc := 28) dJ1_indexOfChar_4cfef_28 (tgt := 7) (by decide) ?_
      refine x_sub [(0, _), (3, _), (4, _), (5, _)] ⟨rfl, rfl, rfl, rfl, trivial⟩ ?_
      exact hb7 (l3 + (1 : Int32)) (wo_some h)
    · replace h := wo_pos c5 h
      refine x_sub [(5, _)] ⟨rfl, trivial⟩ ?_
      exact k7_0 _ (he7 (.inl l3) (wo_some h))
noncomputable def f_J1_indexOf_4cfef (p0 : Nat) (p1 : Int32) (p2 : Int32) (p3 : Int32) (mem : mi_M) : Option (Int32) := mi_bo (f_J1_canEncode_9a6ad p1 mem) fun v1 => if v1 = 0 then some (-1 : Int32) else mi_let (if p2 < (0 : Int32) then (0 : Int32) else p2) fun v2 => mi_let (if (nI (mi_sn p0)) < p3 then (nI (mi_sn p0)) else p3) fun v3 => if v2 < v3 then mi_bo (f_J1_indexOfChar_4cfef p0 p1 v2 v3 mem) fun v4 => some v4 else some (-1 : Int32)
set_option maxRecDepth 100000 in
set_option maxHeartbeats 4000000 in
theorem w_J1_indexOf_4cfef (p0 : Nat) (p1 : Int32) (p2 : Int32) (p3 : Int32) (hp0 : p0 < 12) (mem : mi_M) (a : Int32) (e : f_J1_indexOf_4cfef p0 p1 p2 p3 mem = some a) : mi_Ci (2) mJ1_indexOf_4cfef [vr 301 p0, vi p1, vi p2, vi p3] mem (fun x m' => x = a ∧ m' = mem) := by
  unfold mi_Ci
  refine mi_C_intro (ls := [(0, vr 301 p0), (1, vi p1), (2, vi p2), (3, vi p3)]) (by decide) rfl rfl ?_
  obtain ⟨Q0, hq0, h⟩ : ∃ Q0 : Int32 → Prop, (∀ b, Q0 b → b = a) ∧ wo (f_J1_indexOf_4cfef p0 p1 p2 p3 mem) Q0 := ⟨fun b => b = a, fun _ h => h, wo_eq e⟩
  obtain ⟨QX, hQX⟩ : ∃ QX : Option mi_V → mi_M → Prop, QX = (fun r m' => ∃ x, r = some (vi x) ∧ x = a ∧ m' = mem) := ⟨_, rfl⟩
  rw [← hQX]
  unfold f_J1_indexOf_4cfef at h
  refine x_iload_n (pc := 0) dJ1_indexOf_4cfef_0 rfl ?_
  refine z_Si1 (pc := 1) h dJ1_indexOf_4cfef_1 lJ1_88 (by omega) rfl (fun a e => w_J1_canEncode_9a6ad _ _ a e) (fun v1 h => ?_)
  refine x_if_ne (pc := 4) dJ1_indexOf_4cfef_4 (tgt := 9) (by decide) (fun c6 => ?_) (fun c6 => ?_)
  · replace h := wo_neg c6 h
    refine x_iload_n (pc := 9) dJ1_indexOf_4cfef_9 rfl ?_
    refine x_iconst (pc := 10) dJ1_indexOf_4cfef_10 (v := (0 : Int32)) (by decide) ?_
    refine x_mmax (pc := 11) dJ1_indexOf_4cfef_11 lJ1_92 (by omega) rfl ?_
    refine x_leti h (fun v2 h => ?_)
    refine x_istore_n (ls' := [(2, _), (0, _), (1, _), (3, _)]) (pc := 14) dJ1_indexOf_4cfef_14 rfl rfl rfl ?_
    refine x_iload_n (pc := 15) dJ1_indexOf_4cfef_15 rfl ?_
    refine x_aload_n (pc := 16) dJ1_indexOf_4cfef_16 rfl ?_
    refine x_tln (pc := 17) dJ1_indexOf_4cfef_17 hp0 ?_
    refine x_mmin (pc := 18) dJ1_indexOf_4cfef_18 lJ1_38 (by omega) rfl ?_
    refine x_leti h (fun v3 h => ?_)
    refine x_istore_n (ls' := [(3, _), (2, _), (0, _), (1, _)]) (pc := 21) dJ1_indexOf_4cfef_21 rfl rfl rfl ?_
    refine x_iload_n (pc := 22) dJ1_indexOf_4cfef_22 rfl ?_
    refine x_iload_n (pc := 23) dJ1_indexOf_4cfef_23 rfl ?_
    refine x_icmp_lt (pc := 24) dJ1_indexOf_4cfef_24 (tgt := 29) (by decide) (fun c5 => ?_) (fun c5 => ?_)
    · replace h := wo_pos c5 h
      refine x_aload_n (pc := 29) dJ1_indexOf_4cfef_29 rfl ?_
      refine x_iload_n (pc := 30) dJ1_indexOf_4cfef_30 rfl ?_
      refine x_iload_n (pc := 31) dJ1_indexOf_4cfef_31 rfl ?_
      refine x_iload_n (pc := 32) dJ1_indexOf_4cfef_32 rfl ?_
      refine z_Si4 (pc := 33) h dJ1_indexOf_4cfef_33 lJ1_95 (by omega) rfl (fun a e => w_J1_indexOfChar_4cfef _ _ _ _ hp0 _ a e) (fun v4 h => ?_)
      exact x_iret (pc := 36) dJ1_indexOf_4cfef_36 rfl (by rw [hQX]; exact ⟨_, rfl, hq0 _ (wo_some h), rfl⟩)
    · replace h := wo_neg c5 h
      refine x_iconst (pc := 27) dJ1_indexOf_4cfef_27 (v := (-1 : Int32)) (by decide) ?_
      exact x_iret (pc := 28) dJ1_indexOf_4cfef_28 rfl (by rw [hQX]; exact ⟨_, rfl, hq0 _ (wo_some h), rfl⟩)
  · replace h := wo_pos c6 h
    refine x_iconst (pc := 7) dJ1_indexOf_4cfef_7 (v := (-1 : Int32)) (by decide) ?_
    exact x_iret (pc := 8) dJ1_indexOf_4cfef_8 rfl (by rw [hQX]; exact ⟨_, rfl, hq0 _ (wo_some h), rfl⟩)
noncomputable def f_J0_indexOf_7cf53_J36 (u2 : Int32) : Option (Int32) := some u2
noncomputable def f_J0_indexOf_7cf53 (i0 : Nat) (p0 : Int32) (p1 : Int32) (mem : mi_M) : Option (Int32) := mi_bo (f_J0_isLatin1_aae02 i0 mem) fun v1 => if v1 = 0 then mi_bo (f_J0_length_8abf5 i0 mem) fun v3 => none else mi_bo (f_J0_length_8abf5 i0 mem) fun v4 => mi_bo (f_J1_indexOf_4cfef i0 p0 p1 v4 mem) fun v5 => f_J0_indexOf_7cf53_J36 v5
set_option maxRecDepth 100000 in
set_option maxHeartbeats 4000000 in
theorem w_J0_indexOf_7cf53 (i0 : Nat) (p0 : Int32) (p1 : Int32) (hi0 : i0 < 12) (mem : mi_M) (a : Int32) (e : f_J0_indexOf_7cf53 i0 p0 p1 mem = some a) : mi_Ci (3) mJ0_indexOf_7cf53 [vr 300 i0, vi p0, vi p1] mem (fun x m' => x = a ∧ m' = mem) := by
  unfold mi_Ci
  refine mi_C_intro (ls := [(0, vr 300 i0), (1, vi p0), (2, vi p1)]) (by decide) rfl rfl ?_
  obtain ⟨Q0, hq0, h⟩ : ∃ Q0 : Int32 → Prop, (∀ b, Q0 b → b = a) ∧ wo (f_J0_indexOf_7cf53 i0 p0 p1 mem) Q0 := ⟨fun b => b = a, fun _ h => h, wo_eq e⟩
  obtain ⟨QX, hQX⟩ : ∃ QX : Option mi_V → mi_M → Prop, QX = (fun r m' => ∃ x, r = some (vi x) ∧ x = a ∧ m' = mem) := ⟨_, rfl⟩
  rw [← hQX]
  unfold f_J0_indexOf_7cf53 at h
  refine x_aload_n (pc := 0) dJ0_indexOf_7cf53_0 rfl ?_
  refine z_Ti0 (pc := 1) h dJ0_indexOf_7cf53_1 tJ0_492 hi0 (by omega) rfl (fun a e => w_J0_isLatin1_aae02 _ hi0 _ a e) (fun v1 h => ?_)
  have j36 : ∀ (u2 : Int32), wo (f_J0_indexOf_7cf53_J36 u2) Q0 → mi_X mJ0_indexOf_7cf53 (3) 36 [] [vi u2] mem QX := by
    intro u2 h
    unfold f_J0_indexOf_7cf53_J36 at h
    exact x_iret (pc := 36) dJ0_indexOf_7cf53_36 rfl (by rw [hQX]; exact ⟨_, rfl, hq0 _ (wo_some h), rfl⟩)
  refine x_if_eq (pc := 4) dJ0_indexOf_7cf53_4 (tgt := 23) (by decide) (fun c6 => ?_) (fun c6 => ?_)
  · replace h := wo_pos c6 h
    refine x_aload_n (pc := 23) dJ0_indexOf_7cf53_23 rfl ?_
    refine x_gsV (pc := 24) dJ0_indexOf_7cf53_24 fJ0_9 hi0 ?_
    refine x_iload_n (pc := 27) dJ0_indexOf_7cf53_27 rfl ?_
    refine x_iload_n (pc := 28) dJ0_indexOf_7cf53_28 rfl ?_
    refine x_aload_n (pc := 29) dJ0_indexOf_7cf53_29 rfl ?_
    refine z_Ti0 (pc := 30) h dJ0_indexOf_7cf53_30 tJ0_505 hi0 (by omega) rfl (fun a e => w_J0_length_8abf5 _ hi0 _ a e) (fun v3 h => ?_)
    obtain ⟨_, h, _⟩ := h
    cases h
  · replace h := wo_neg c6 h
    refine x_aload_n (pc := 7) dJ0_indexOf_7cf53_7 rfl ?_
    refine x_gsV (pc := 8) dJ0_indexOf_7cf53_8 fJ0_9 hi0 ?_
    refine x_iload_n (pc := 11) dJ0_indexOf_7cf53_11 rfl ?_
    refine x_iload_n (pc := 12) dJ0_indexOf_7cf53_12 rfl ?_
    refine x_aload_n (pc := 13) dJ0_indexOf_7cf53_13 rfl ?_
    refine z_Ti0 (pc := 14) h dJ0_indexOf_7cf53_14 tJ0_505 hi0 (by omega) rfl (fun a e => w_J0_length_8abf5 _ hi0 _ a e) (fun v4 h => ?_)
    refine z_Si4 (pc := 17) h dJ0_indexOf_7cf53_17 lJ0_637 (by omega) rfl (fun a e => w_J1_indexOf_4cfef _ _ _ _ hi0 _ a e) (fun v5 h => ?_)
    refine x_goto (pc := 20) dJ0_indexOf_7cf53_20 (tgt := 36) (by decide) ?_
    refine x_sub [] trivial ?_
    exact j36 _ h
noncomputable def f_J0_indexOf_0f7a4 (i0 : Nat) (p0 : Int32) (mem : mi_M) : Option (Int32) := mi_bo (f_J0_indexOf_7cf53 i0 p0 (0 : Int32) mem) fun v1 => some v1
set_option maxRecDepth 100000 in
set_option maxHeartbeats 4000000 in
theorem w_J0_indexOf_0f7a4 (i0 : Nat) (p0 : Int32) (hi0 : i0 < 12) (mem : mi_M) (a : Int32) (e : f_J0_indexOf_0f7a4 i0 p0 mem = some a) : mi_Ci (4) mJ0_indexOf_0f7a4 [vr 300 i0, vi p0] mem (fun x m' => x = a ∧ m' = mem) := by
  unfold mi_Ci
  refine mi_C_intro (ls := [(0, vr 300 i0), (1, vi p0)]) (by decide) rfl rfl ?_
  obtain ⟨Q0, hq0, h⟩ : ∃ Q0 : Int32 → Prop, (∀ b, Q0 b → b = a) ∧ wo (f_J0_indexOf_0f7a4 i0 p0 mem) Q0 := ⟨fun b => b = a, fun _ h => h, wo_eq e⟩
  obtain ⟨QX, hQX⟩ : ∃ QX : Option mi_V → mi_M → Prop, QX = (fun r m' => ∃ x, r = some (vi x) ∧ x = a ∧ m' = mem) := ⟨_, rfl⟩
  rw [← hQX]
  unfold f_J0_indexOf_0f7a4 at h
  refine x_aload_n (pc := 0) dJ0_indexOf_0f7a4_0 rfl ?_
  refine x_iload_n (pc := 1) dJ0_indexOf_0f7a4_1 rfl ?_
  refine x_iconst (pc := 2) dJ0_indexOf_0f7a4_2 (v := (0 : Int32)) (by decide) ?_
  refine z_Ti2 (pc := 3) h dJ0_indexOf_0f7a4_3 tJ0_633 hi0 (by omega) rfl (fun a e => w_J0_indexOf_7cf53 _ _ _ hi0 _ a e) (fun v1 h => ?_)
  exact x_iret (pc := 6) dJ0_indexOf_0f7a4_6 rfl (by rw [hQX]; exact ⟨_, rfl, hq0 _ (wo_some h), rfl⟩)
noncomputable def f_X6_advance_J162 (m7 : mi_M) : Option (mi_M) := some m7
noncomputable def f_X6_advance_J152 (e2 : Int32) (m13 : mi_M) (u15 : Int32) : Option (mi_M) := mi_let (mi_wI m13 6 0 1 u15) fun m16 => mi_let (mi_wI m16 6 0 6 (e2 + (1 : Int32))) fun m17 => f_X6_advance_J162 m17
noncomputable def f_X6_advance_J35 (l25 : Int32) : Option ((Int32) ⊕ (Int32)) := some (.inl (l25 + (1 : Int32)))
noncomputable def f_X6_advance_B5 (mem : mi_M) : Int32 → Option ((Int32) ⊕ (Int32)) := fun l25 => if (mem.1 6 0 0) ≤ l25 then some (.inr l25) else mi_g (vp_in l25 1000) (if (mem.1 37 0 l25.toNatClampNeg) = (10 : Int32) then f_X6_advance_J35 l25 else mi_g (vp_in l25 1000) (if (mem.1 37 0 l25.toNatClampNeg) = (32 : Int32) then f_X6_advance_J35 l25 else some (.inr l25)))
noncomputable def f_X6_advance_K5 (mem : mi_M) : Int32 → Option (mi_M) := fun e2 => mi_let (mi_wI mem 6 0 2 e2) fun m3 => mi_let (mi_wI m3 6 0 6 e2) fun m4 => mi_let (mi_wI m4 6 0 3 (0 : Int32)) fun m5 => mi_let (mi_wL m5 6 0 4 (0 : Int64)) fun m6 => if e2 < (m6.1 6 0 0) then mi_g (vp_in e2 1000) (mi_bo (f_X11_isWithin (m6.1 37 0 e2.toNatClampNeg) (97 : Int32) (122 : Int32) m6) fun v9 => if v9 = 0 then mi_g (vp_in e2 1000) (mi_bo (f_X11_isWithin (m6.1 37 0 e2.toNatClampNeg) (48 : Int32) (57 : Int32) m6) fun v11 => if v11 = 0 then mi_g (vp_in e2 1000) (mi_let (mi_wI m6 6 0 3 (m6.1 37 0 e2.toNatClampNeg)) fun m13 => mi_bo (f_J0_indexOf_0f7a4 0 ((((m13.1 6 0 3)).toUInt32 % 65536).toInt32) m13) fun v14 => if v14 < 0 then f_X6_advance_J152 e2 m13 (1 : Int32) else f_X6_advance_J152 e2 m13 (4 : Int32)) else mi_bo (f_X6_takeNumber m6) fun m19 => f_X6_advance_J162 m19) else mi_bo (f_X6_takeWord m6) fun m21 => f_X6_advance_J162 m21) else mi_let (mi_wI m6 6 0 1 (0 : Int32)) fun m23 => f_X6_advance_J162 m23
noncomputable def f_X6_advance (mem : mi_M) : Option (mi_M) := mi_let (mem.1 6 0 6) fun v1 => mi_bo (mi_lp (f_X6_advance_B5 mem) mi_fu v1) (f_X6_advance_K5 mem)
set_option maxRecDepth 100000 in
set_option maxHeartbeats 4000000 in
theorem w_X6_advance (mem : mi_M) (a : mi_M) (e : f_X6_advance  mem = some a) : mi_Cv (5) mX6_advance [vr 6 0] mem (fun m' => m' = a) := by
  unfold mi_Cv
  refine mi_C_intro (ls := [(0, vr 6 0)]) (by decide) rfl rfl ?_
  obtain ⟨Q0, hq0, h⟩ : ∃ Q0 : mi_M → Prop, (∀ b, Q0 b → b = a) ∧ wo (f_X6_advance  mem) Q0 := ⟨fun b => b = a, fun _ h => h, wo_eq e⟩
  obtain ⟨QX, hQX⟩ : ∃ QX : Option mi_V → mi_M → Prop, QX = (fun r m' => r = none ∧ m' = a) := ⟨_, rfl⟩
  rw [← hQX]
  unfold f_X6_advance at h
  refine x_aload_n (pc := 0) dX6_advance_0 rfl ?_
  refine x_getI (pc := 1) dX6_advance_1 fX6_25 rfl (by decide) ?_
  refine x_leti h (fun v1 h => ?_)
  refine x_istore_n (ls' := [(1, _), (0, _)]) (pc := 4) dX6_advance_4 rfl rfl rfl ?_
  have k5_0 : ∀ (e2 : Int32), wo (f_X6_advance_K5 mem e2) Q0 → mi_X mX6_advance (5) 41 [(0, vr 6 0), (1, vi e2)] [] mem QX := by
    intro e2 h
    unfold f_X6_advance_K5 at h
    try dsimp only at h
    refine x_aload_n (pc := 41) dX6_advance_41 rfl ?_
    refine x_iload_n (pc := 42) dX6_advance_42 rfl ?_
    refine x_putI (pc := 43) dX6_advance_43 fX6_31 rfl (by decide) rfl rfl ?_
    refine x_letm h (fun m3 h => ?_)
    refine x_aload_n (pc := 46) dX6_advance_46 rfl ?_
    refine x_iload_n (pc := 47) dX6_advance_47 rfl ?_
    refine x_putI (pc := 48) dX6_advance_48 fX6_25 rfl (by decide) rfl rfl ?_
    refine x_letm h (fun m4 h => ?_)
    refine x_aload_n (pc := 51) dX6_advance_51 rfl ?_
    refine x_iconst (pc := 52) dX6_advance_52 (v := (0 : Int32)) (by decide) ?_
    refine x_putI (pc := 53) dX6_advance_53 fX6_34 rfl (by decide) rfl rfl ?_
    refine x_letm h (fun m5 h => ?_)
    refine x_aload_n (pc := 56) dX6_advance_56 rfl ?_
    refine x_lconst (pc := 57) dX6_advance_57 (v := (0 : Int64)) (by decide) ?_
    refine x_putL (pc := 58) dX6_advance_58 fX6_37 rfl (by decide) rfl rfl ?_
    refine x_letm h (fun m6 h => ?_)
    refine x_iload_n (pc := 61) dX6_advance_61 rfl ?_
    refine x_aload_n (pc := 62) dX6_advance_62 rfl ?_
    refine x_getI (pc := 63) dX6_advance_63 fX6_21 rfl (by decide) ?_
    have j162 : ∀ (m7 : mi_M), wo (f_X6_advance_J162 m7) Q0 → mi_X mX6_advance (5) 162 [] [] m7 QX := by
      intro m7 h
      unfold f_X6_advance_J162 at h
      exact x_ret (pc := 162) dX6_advance_162 rfl (by rw [hQX]; exact ⟨rfl, hq0 _ (wo_some h)⟩)
    refine x_icmp_lt (pc := 66) dX6_advance_66 (tgt := 77) (by decide) (fun c24 => ?_) (fun c24 => ?_)
    · replace h := wo_pos c24 h
      refine x_aload_n (pc := 77) dX6_advance_77 rfl ?_
      refine x_getS (pc := 78) dX6_advance_78 fX6_11 rfl (by decide) ?_
      refine x_iload_n (pc := 81) dX6_advance_81 rfl ?_
      obtain ⟨hx8, h⟩ := wo_g h
      refine x_baldJ (pc := 82) dX6_advance_82 rfl rfl (by decide) hx8 ?_
      refine x_bipush (pc := 83) dX6_advance_83 (v := (97 : Int32)) (by decide) ?_
      refine x_bipush (pc := 85) dX6_advance_85 (v := (122 : Int32)) (by decide) ?_
      refine z_Ni3 (pc := 87) h dX6_advance_87 nX6_17 (by omega) rfl (fun a e => w_X11_isWithin _ _ _ _ a e) (fun v9 h => ?_)
      refine x_if_eq (pc := 90) dX6_advance_90 (tgt := 100) (by decide) (fun c22 => ?_) (fun c22 => ?_)
      · replace h := wo_pos c22 h
        refine x_aload_n (pc := 100) dX6_advance_100 rfl ?_
        refine x_getS (pc := 101) dX6_advance_101 fX6_11 rfl (by decide) ?_
        refine x_iload_n (pc := 104) dX6_advance_104 rfl ?_
        obtain ⟨hx10, h⟩ := wo_g h
        refine x_baldJ (pc := 105) dX6_advance_105 rfl rfl (by decide) hx10 ?_
        refine x_bipush (pc := 106) dX6_advance_106 (v := (48 : Int32)) (by decide) ?_
        refine x_bipush (pc := 108) dX6_advance_108 (v := (57 : Int32)) (by decide) ?_
        refine z_Ni3 (pc := 110) h dX6_advance_110 nX6_17 (by omega) rfl (fun a e => w_X11_isWithin _ _ _ _ a e) (fun v11 h => ?_)
        refine x_if_eq (pc := 113) dX6_advance_113 (tgt := 123) (by decide) (fun c20 => ?_) (fun c20 => ?_)
        · replace h := wo_pos c20 h
          refine x_aload_n (pc := 123) dX6_advance_123 rfl ?_
          refine x_aload_n (pc := 124) dX6_advance_124 rfl ?_
          refine x_getS (pc := 125) dX6_advance_125 fX6_11 rfl (by decide) ?_
          refine x_iload_n (pc := 128) dX6_advance_128 rfl ?_
          obtain ⟨hx12, h⟩ := wo_g h
          refine x_baldJ (pc := 129) dX6_advance_129 rfl rfl (by decide) hx12 ?_
          refine x_putI (pc := 130) dX6_advance_130 fX6_34 rfl (by decide) rfl rfl ?_
          refine x_letm h (fun m13 h => ?_)
          refine x_aload_n (pc := 133) dX6_advance_133 rfl ?_
          refine x_ldcS (pc := 134) dX6_advance_134 (n := 0) (tx := "()<=+-*;") (by decide) ?_
          refine x_aload_n (pc := 136) dX6_advance_136 rfl ?_
          refine x_getI (pc := 137) dX6_advance_137 fX6_34 rfl (by decide) ?_
          refine x_i2c (pc := 140) dX6_advance_140 rfl ?_
          refine z_Ti1 (pc := 141) h dX6_advance_141 tX6_52 (by decide) (by omega) rfl (fun a e => w_J0_indexOf_0f7a4 _ _ (by decide) _ a e) (fun v14 h => ?_)
          have j152 : ∀ (u15 : Int32), wo (f_X6_advance_J152 e2 m13 u15) Q0 → mi_X mX6_advance (5) 152 [(0, vr 6 0), (1, vi e2)] [vi u15, vr 6 0] m13 QX := by
            intro u15 h
            unfold f_X6_advance_J152 at h
            refine x_putI (pc := 152) dX6_advance_152 fX6_41 rfl (by decide) rfl rfl ?_
            refine x_letm h (fun m16 h => ?_)
            refine x_aload_n (pc := 155) dX6_advance_155 rfl ?_
            refine x_iload_n (pc := 156) dX6_advance_156 rfl ?_
            refine x_iconst (pc := 157) dX6_advance_157 (v := (1 : Int32)) (by decide) ?_
            refine x_iadd (pc := 158) dX6_advance_158 ?_
            refine x_putI (pc := 159) dX6_advance_159 fX6_25 rfl (by decide) rfl rfl ?_
            refine x_letm h (fun m17 h => ?_)
            refine x_sub [] trivial ?_
            exact j162 _ h
          refine x_if_lt (pc := 144) dX6_advance_144 (tgt := 151) (by decide) (fun c18 => ?_) (fun c18 => ?_)
          · replace h := wo_pos c18 h
            refine x_iconst (pc := 151) dX6_advance_151 (v := (1 : Int32)) (by decide) ?_
            refine x_sub [(0, _), (1, _)] ⟨rfl, rfl, trivial⟩ ?_
            exact j152 _ h
          · replace h := wo_neg c18 h
            refine x_iconst (pc := 147) dX6_advance_147 (v := (4 : Int32)) (by decide) ?_
            refine x_goto (pc := 148) dX6_advance_148 (tgt := 152) (by decide) ?_
            refine x_sub [(0, _), (1, _)] ⟨rfl, rfl, trivial⟩ ?_
            exact j152 _ h
        · replace h := wo_neg c20 h
          refine x_aload_n (pc := 116) dX6_advance_116 rfl ?_
          refine y_Vv0 (pc := 117) h dX6_advance_117 lX6_47 (by decide) (by omega) rfl (fun a e => w_X6_takeNumber _ a e) (fun m19 h => ?_)
          refine x_goto (pc := 120) dX6_advance_120 (tgt := 162) (by decide) ?_
          refine x_sub [] trivial ?_
          exact j162 _ h
      · replace h := wo_neg c22 h
        refine x_aload_n (pc := 93) dX6_advance_93 rfl ?_
        refine y_Vv0 (pc := 94) h dX6_advance_94 lX6_44 (by decide) (by omega) rfl (fun a e => w_X6_takeWord _ a e) (fun m21 h => ?_)
        refine x_goto (pc := 97) dX6_advance_97 (tgt := 162) (by decide) ?_
        refine x_sub [] trivial ?_
        exact j162 _ h
    · replace h := wo_neg c24 h
      refine x_aload_n (pc := 69) dX6_advance_69 rfl ?_
      refine x_iconst (pc := 70) dX6_advance_70 (v := (0 : Int32)) (by decide) ?_
      refine x_putI (pc := 71) dX6_advance_71 fX6_41 rfl (by decide) rfl rfl ?_
      refine x_letm h (fun m23 h => ?_)
      refine x_goto (pc := 74) dX6_advance_74 (tgt := 162) (by decide) ?_
      refine x_sub [] trivial ?_
      exact j162 _ h
  refine x_sub [(0, _), (1, _)] ⟨rfl, rfl, trivial⟩ ?_
  obtain ⟨ea, eb, h⟩ := wo_bo h
  refine wo_lq (X := fun l25 => mi_X mX6_advance (5) 5 [(0, vr 6 0), (1, vi l25)] [] mem QX) (E := fun e => wo (f_X6_advance_K5 mem e) Q0) ?_ _ v1 ⟨_, eb, h⟩
  intro Q5 hb5 he5 s h
  obtain ⟨l25, rfl⟩ : ∃ z, z = s := ⟨_, rfl⟩
  show mi_X mX6_advance (5) 5 [(0, vr 6 0), (1, vi l25)] [] mem QX
  unfold f_X6_advance_B5 at h
  try dsimp only at h
  refine x_iload_n (pc := 5) dX6_advance_5 rfl ?_
  refine x_aload_n (pc := 6) dX6_advance_6 rfl ?_
  refine x_getI (pc := 7) dX6_advance_7 fX6_21 rfl (by decide) ?_
  refine x_icmp_ge (pc := 10) dX6_advance_10 (tgt := 41) (by decide) (fun c30 => ?_) (fun c30 => ?_)
  · replace h := wo_pos c30 h
    refine x_sub [(0, _), (1, _)] ⟨rfl, rfl, trivial⟩ ?_
    exact k5_0 _ (he5 l25 (wo_some h))
  · replace h := wo_neg c30 h
    refine x_aload_n (pc := 13) dX6_advance_13 rfl ?_
    refine x_getS (pc := 14) dX6_advance_14 fX6_11 rfl (by decide) ?_
    refine x_iload_n (pc := 17) dX6_advance_17 rfl ?_
    obtain ⟨hx26, h⟩ := wo_g h
    refine x_baldJ (pc := 18) dX6_advance_18 rfl rfl (by decide) hx26 ?_
    refine x_bipush (pc := 19) dX6_advance_19 (v := (10 : Int32)) (by decide) ?_
    have j35 : wo (f_X6_advance_J35 l25) Q5 → mi_X mX6_advance (5) 35 [(0, vr 6 0), (1, vi l25)] [] mem QX := by
      intro h
      unfold f_X6_advance_J35 at h
      refine x_iinc (ls' := [(1, _), (0, _)]) (pc := 35) dX6_advance_35 rfl (v := l25 + (1 : Int32)) rfl rfl rfl ?_
      refine x_goto (pc := 38) dX6_advance_38 (tgt := 5) (by decide) ?_
      refine x_sub [(0, _), (1, _)] ⟨rfl, rfl, trivial⟩ ?_
      exact hb5 (l25 + (1 : Int32)) (wo_some h)
    refine x_icmp_eq (pc := 21) dX6_advance_21 (tgt := 35) (by decide) (fun c29 => ?_) (fun c29 => ?_)
    · replace h := wo_pos c29 h
      refine x_sub [(0, _), (1, _)] ⟨rfl, rfl, trivial⟩ ?_
      exact j35 h
    · replace h := wo_neg c29 h
      refine x_aload_n (pc := 24) dX6_advance_24 rfl ?_
      refine x_getS (pc := 25) dX6_advance_25 fX6_11 rfl (by decide) ?_
      refine x_iload_n (pc := 28) dX6_advance_28 rfl ?_
      obtain ⟨hx27, h⟩ := wo_g h
      refine x_baldJ (pc := 29) dX6_advance_29 rfl rfl (by decide) hx27 ?_
      refine x_bipush (pc := 30) dX6_advance_30 (v := (32 : Int32)) (by decide) ?_
      refine x_icmp_ne (pc := 32) dX6_advance_32 (tgt := 41) (by decide) (fun c28 => ?_) (fun c28 => ?_)
      · replace h := wo_neg c28 h
        refine x_sub [(0, _), (1, _)] ⟨rfl, rfl, trivial⟩ ?_
        exact k5_0 _ (he5 l25 (wo_some h))
      · replace h := wo_pos c28 h
        refine x_sub [(0, _), (1, _)] ⟨rfl, rfl, trivial⟩ ?_
        exact j35 h
noncomputable def f_X6_rewind (mem : mi_M) : Option (mi_M) := mi_let (mi_wI mem 6 0 6 (0 : Int32)) fun m1 => mi_bo (f_X6_advance m1) fun m2 => some m2
set_option maxRecDepth 100000 in
set_option maxHeartbeats 4000000 in
theorem w_X6_rewind (mem : mi_M) (a : mi_M) (e : f_X6_rewind  mem = some a) : mi_Cv (6) mX6_rewind [vr 6 0] mem (fun m' => m' = a) := by
  unfold mi_Cv
  refine mi_C_intro (ls := [(0, vr 6 0)]) (by decide) rfl rfl ?_
  obtain ⟨Q0, hq0, h⟩ : ∃ Q0 : mi_M → Prop, (∀ b, Q0 b → b = a) ∧ wo (f_X6_rewind  mem) Q0 := ⟨fun b => b = a, fun _ h => h, wo_eq e⟩
  obtain ⟨QX, hQX⟩ : ∃ QX : Option mi_V → mi_M → Prop, QX = (fun r m' => r = none ∧ m' = a) := ⟨_, rfl⟩
  rw [← hQX]
  unfold f_X6_rewind at h
  refine x_aload_n (pc := 0) dX6_rewind_0 rfl ?_
  refine x_iconst (pc := 1) dX6_rewind_1 (v := (0 : Int32)) (by decide) ?_
  refine x_putI (pc := 2) dX6_rewind_2 fX6_25 rfl (by decide) rfl rfl ?_
  refine x_letm h (fun m1 h => ?_)
  refine x_aload_n (pc := 5) dX6_rewind_5 rfl ?_
  refine y_Vv0 (pc := 6) h dX6_rewind_6 lX6_28 (by decide) (by omega) rfl (fun a e => w_X6_advance _ a e) (fun m2 h => ?_)
  exact x_ret (pc := 9) dX6_rewind_9 rfl (by rw [hQX]; exact ⟨rfl, hq0 _ (wo_some h)⟩)
noncomputable def f_X7_fail (p0 : Int32) (mem : mi_M) : Option (Int32 × mi_M) := mi_let (mi_wI mem 7 0 1 (p0 + ((16 : Int32) * (mem.1 6 0 2)))) fun m1 => mi_g ((0 : Int32) = 0 ∨ (0 : Int32) = 1) (some ((0 : Int32), m1))
set_option maxRecDepth 100000 in
set_option maxHeartbeats 4000000 in
theorem w_X7_fail (p0 : Int32) (mem : mi_M) (a : Int32 × mi_M) (e : f_X7_fail p0 mem = some a) : mi_Ci (1) mX7_fail [vr 7 0, vi p0] mem (fun x m' => x = a.1 ∧ m' = a.2) := by
  unfold mi_Ci
  refine mi_C_intro (ls := [(0, vr 7 0), (1, vi p0)]) (by decide) rfl rfl ?_
  obtain ⟨Q0, hq0, h⟩ : ∃ Q0 : (Int32 × mi_M) → Prop, (∀ b, Q0 b → b = a) ∧ wo (f_X7_fail p0 mem) Q0 := ⟨fun b => b = a, fun _ h => h, wo_eq e⟩
  obtain ⟨QX, hQX⟩ : ∃ QX : Option mi_V → mi_M → Prop, QX = (fun r m' => ∃ x, r = some (vi x) ∧ x = a.1 ∧ m' = a.2) := ⟨_, rfl⟩
  rw [← hQX]
  unfold f_X7_fail at h
  refine x_aload_n (pc := 0) dX7_fail_0 rfl ?_
  refine x_iload_n (pc := 1) dX7_fail_1 rfl ?_
  refine x_bipush (pc := 2) dX7_fail_2 (v := (16 : Int32)) (by decide) ?_
  refine x_aload_n (pc := 4) dX7_fail_4 rfl ?_
  refine x_getC (pc := 5) dX7_fail_5 fX7_12 rfl (by decide) ?_
  refine x_getI (pc := 8) dX7_fail_8 fX7_208 rfl (by decide) ?_
  refine x_imul (pc := 11) dX7_fail_11 ?_
  refine x_iadd (pc := 12) dX7_fail_12 ?_
  refine x_putI (pc := 13) dX7_fail_13 fX7_23 rfl (by decide) rfl rfl ?_
  refine x_letm h (fun m1 h => ?_)
  refine x_iconst (pc := 16) dX7_fail_16 (v := (0 : Int32)) (by decide) ?_
  obtain ⟨hb2, h⟩ := wo_g h
  exact x_zretB (pc := 17) dX7_fail_17 rfl hb2 (by rw [hQX]; exact ⟨_, rfl, congrArg Prod.fst (hq0 _ (wo_some h)), congrArg Prod.snd (hq0 _ (wo_some h))⟩)
noncomputable def f_X7_isName_J81 (u1 : Int32) : Option (Int32) := mi_g (u1 = 0 ∨ u1 = 1) (some u1)
noncomputable def f_X7_isName_J80 : Option (Int32) := f_X7_isName_J81 (0 : Int32)
noncomputable def f_X7_isName (mem : mi_M) : Option (Int32) := if (mem.1 6 0 1) = (2 : Int32) then mi_bo (f_X6_among 1 mem) fun v3 => if v3 = (-1 : Int32) then mi_bo (f_X6_among 2 mem) fun v4 => if v4 = (-1 : Int32) then mi_bo (f_X6_among 3 mem) fun v5 => if v5 = (-1 : Int32) then mi_bo (f_X6_among 4 mem) fun v6 => if v6 = (-1 : Int32) then mi_bo (f_X6_among 5 mem) fun v7 => if v7 = (-1 : Int32) then f_X7_isName_J81 (1 : Int32) else f_X7_isName_J80 else f_X7_isName_J80 else f_X7_isName_J80 else f_X7_isName_J80 else f_X7_isName_J80 else f_X7_isName_J80
set_option maxRecDepth 100000 in
set_option maxHeartbeats 4000000 in
theorem w_X7_isName (mem : mi_M) (a : Int32) (e : f_X7_isName  mem = some a) : mi_Ci (6) mX7_isName [vr 7 0] mem (fun x m' => x = a ∧ m' = mem) := by
  unfold mi_Ci
  refine mi_C_intro (ls := [(0, vr 7 0)]) (by decide) rfl rfl ?_
  obtain ⟨Q0, hq0, h⟩ : ∃ Q0 : Int32 → Prop, (∀ b, Q0 b → b = a) ∧ wo (f_X7_isName  mem) Q0 := ⟨fun b => b = a, fun _ h => h, wo_eq e⟩
  obtain ⟨QX, hQX⟩ : ∃ QX : Option mi_V → mi_M → Prop, QX = (fun r m' => ∃ x, r = some (vi x) ∧ x = a ∧ m' = mem) := ⟨_, rfl⟩
  rw [← hQX]
  unfold f_X7_isName at h
  refine x_aload_n (pc := 0) dX7_isName_0 rfl ?_
  refine x_getC (pc := 1) dX7_isName_1 fX7_12 rfl (by decide) ?_
  refine x_getI (pc := 4) dX7_isName_4 fX7_30 rfl (by decide) ?_
  refine x_iconst (pc := 7) dX7_isName_7 (v := (2 : Int32)) (by decide) ?_
  have j81 : ∀ (u1 : Int32), wo (f_X7_isName_J81 u1) Q0 → mi_X mX7_isName (6) 81 [] [vi u1] mem QX := by
    intro u1 h
    unfold f_X7_isName_J81 at h
    obtain ⟨hb2, h⟩ := wo_g h
    exact x_zretB (pc := 81) dX7_isName_81 rfl hb2 (by rw [hQX]; exact ⟨_, rfl, hq0 _ (wo_some h), rfl⟩)
  have j80 : wo (f_X7_isName_J80) Q0 → mi_X mX7_isName (6) 80 [] [] mem QX := by
    intro h
    unfold f_X7_isName_J80 at h
    refine x_iconst (pc := 80) dX7_isName_80 (v := (0 : Int32)) (by decide) ?_
    refine x_sub [] trivial ?_
    exact j81 _ h
  refine x_icmp_ne (pc := 8) dX7_isName_8 (tgt := 80) (by decide) (fun c13 => ?_) (fun c13 => ?_)
  · replace h := wo_neg c13 h
    refine x_sub [] trivial ?_
    exact j80 h
  · replace h := wo_pos c13 h
    refine x_aload_n (pc := 11) dX7_isName_11 rfl ?_
    refine x_getC (pc := 12) dX7_isName_12 fX7_12 rfl (by decide) ?_
    refine x_ldcS (pc := 15) dX7_isName_15 (n := 1) (tx := "person lane wrong walk bar wind words heals burns") (by decide) ?_
    refine z_Vi1 (pc := 17) h dX7_isName_17 lX7_35 (by decide) (by omega) rfl (fun a e => w_X6_among _ (by decide) _ a e) (fun v3 h => ?_)
    refine x_iconst (pc := 20) dX7_isName_20 (v := (-1 : Int32)) (by decide) ?_
    refine x_icmp_ne (pc := 21) dX7_isName_21 (tgt := 80) (by decide) (fun c12 => ?_) (fun c12 => ?_)
    · replace h := wo_neg c12 h
      refine x_sub [] trivial ?_
      exact j80 h
    · replace h := wo_pos c12 h
      refine x_aload_n (pc := 24) dX7_isName_24 rfl ?_
      refine x_getC (pc := 25) dX7_isName_25 fX7_12 rfl (by decide) ?_
      refine x_ldcS (pc := 28) dX7_isName_28 (n := 2) (tx := "say give ask night") (by decide) ?_
      refine z_Vi1 (pc := 30) h dX7_isName_30 lX7_35 (by decide) (by omega) rfl (fun a e => w_X6_among _ (by decide) _ a e) (fun v4 h => ?_)
      refine x_iconst (pc := 33) dX7_isName_33 (v := (-1 : Int32)) (by decide) ?_
      refine x_icmp_ne (pc := 34) dX7_isName_34 (tgt := 80) (by decide) (fun c11 => ?_) (fun c11 => ?_)
      · replace h := wo_neg c11 h
        refine x_sub [] trivial ?_
        exact j80 h
      · replace h := wo_pos c11 h
        refine x_aload_n (pc := 37) dX7_isName_37 rfl ?_
        refine x_getC (pc := 38) dX7_isName_38 fX7_12 rfl (by decide) ?_
        refine x_ldcS (pc := 41) dX7_isName_41 (n := 3) (tx := "plain sulky saint priest") (by decide) ?_
        refine z_Vi1 (pc := 43) h dX7_isName_43 lX7_35 (by decide) (by omega) rfl (fun a e => w_X6_among _ (by decide) _ a e) (fun v5 h => ?_)
        refine x_iconst (pc := 46) dX7_isName_46 (v := (-1 : Int32)) (by decide) ?_
        refine x_icmp_ne (pc := 47) dX7_isName_47 (tgt := 80) (by decide) (fun c10 => ?_) (fun c10 => ?_)
        · replace h := wo_neg c10 h
          refine x_sub [] trivial ?_
          exact j80 h
        · replace h := wo_pos c10 h
          refine x_aload_n (pc := 50) dX7_isName_50 rfl ?_
          refine x_getC (pc := 51) dX7_isName_51 fX7_12 rfl (by decide) ?_
          refine x_ldcS (pc := 54) dX7_isName_54 (n := 4) (tx := "coins to size") (by decide) ?_
          refine z_Vi1 (pc := 56) h dX7_isName_56 lX7_35 (by decide) (by omega) rfl (fun a e => w_X6_among _ (by decide) _ a e) (fun v6 h => ?_)
          refine x_iconst (pc := 59) dX7_isName_59 (v := (-1 : Int32)) (by decide) ?_
          refine x_icmp_ne (pc := 60) dX7_isName_60 (tgt := 80) (by decide) (fun c9 => ?_) (fun c9 => ?_)
          · replace h := wo_neg c9 h
            refine x_sub [] trivial ?_
            exact j80 h
          · replace h := wo_pos c9 h
            refine x_aload_n (pc := 63) dX7_isName_63 rfl ?_
            refine x_getC (pc := 64) dX7_isName_64 fX7_12 rfl (by decide) ?_
            refine x_ldcS (pc := 67) dX7_isName_67 (n := 5) (tx := "not and or") (by decide) ?_
            refine z_Vi1 (pc := 69) h dX7_isName_69 lX7_35 (by decide) (by omega) rfl (fun a e => w_X6_among _ (by decide) _ a e) (fun v7 h => ?_)
            refine x_iconst (pc := 72) dX7_isName_72 (v := (-1 : Int32)) (by decide) ?_
            refine x_icmp_ne (pc := 73) dX7_isName_73 (tgt := 80) (by decide) (fun c8 => ?_) (fun c8 => ?_)
            · replace h := wo_neg c8 h
              refine x_sub [] trivial ?_
              exact j80 h
            · replace h := wo_pos c8 h
              refine x_iconst (pc := 76) dX7_isName_76 (v := (1 : Int32)) (by decide) ?_
              refine x_goto (pc := 77) dX7_isName_77 (tgt := 81) (by decide) ?_
              refine x_sub [] trivial ?_
              exact j81 _ h
noncomputable def f_X8_personNamed_B2 (i0 : Nat) (p0 : Int64) (mem : mi_M) : Int32 → Option ((Int32) ⊕ (Int32 ⊕ Unit)) := fun l2 => if (mem.1 8 i0 0) ≤ l2 then some (.inr (.inr ())) else mi_g (vp_in l2 6) (if (lg_cmp (mem.2.1 38 i0 l2.toNatClampNeg) p0) = 0 then some (.inr (.inl l2)) else some (.inl (l2 + (1 : Int32))))
noncomputable def f_X8_personNamed_K2 : (Int32 ⊕ Unit) → Option (Int32) := fun e => match e with | (.inl e1) => some e1 | (.inr ()) => some (-1 : Int32)
noncomputable def f_X8_personNamed (i0 : Nat) (p0 : Int64) (mem : mi_M) : Option (Int32) := mi_bo (mi_lp (f_X8_personNamed_B2 i0 p0 mem) mi_fu (0 : Int32)) (f_X8_personNamed_K2)
set_option maxRecDepth 100000 in
set_option maxHeartbeats 4000000 in
theorem w_X8_personNamed (i0 : Nat) (p0 : Int64) (hi0 : i0 < mi_n 8) (mem : mi_M) (a : Int32) (e : f_X8_personNamed i0 p0 mem = some a) : mi_Ci (1) mX8_personNamed [vr 8 i0, vl p0] mem (fun x m' => x = a ∧ m' = mem) := by
  unfold mi_Ci
  refine mi_C_intro (ls := [(0, vr 8 i0), (1, vl p0)]) (by decide) rfl rfl ?_
  obtain ⟨Q0, hq0, h⟩ : ∃ Q0 : Int32 → Prop, (∀ b, Q0 b → b = a) ∧ wo (f_X8_personNamed i0 p0 mem) Q0 := ⟨fun b => b = a, fun _ h => h, wo_eq e⟩
  obtain ⟨QX, hQX⟩ : ∃ QX : Option mi_V → mi_M → Prop, QX = (fun r m' => ∃ x, r = some (vi x) ∧ x = a ∧ m' = mem) := ⟨_, rfl⟩
  rw [← hQX]
  unfold f_X8_personNamed at h
  refine x_iconst (pc := 0) dX8_personNamed_0 (v := (0 : Int32)) (by decide) ?_
  refine x_istore_n (ls' := [(3, _), (0, _), (1, _)]) (pc := 1) dX8_personNamed_1 rfl rfl rfl ?_
  have k2_0 : ∀ (e1 : Int32), wo (f_X8_personNamed_K2 (.inl e1)) Q0 → mi_X mX8_personNamed (1) 21 [(3, vi e1)] [] mem QX := by
    intro e1 h
    unfold f_X8_personNamed_K2 at h
    try dsimp only at h
    refine x_iload_n (pc := 21) dX8_personNamed_21 rfl ?_
    exact x_iret (pc := 22) dX8_personNamed_22 rfl (by rw [hQX]; exact ⟨_, rfl, hq0 _ (wo_some h), rfl⟩)
  have k2_1 : ∀ (_ : Unit), wo (f_X8_personNamed_K2 (.inr ())) Q0 → mi_X mX8_personNamed (1) 29 [] [] mem QX := by
    intro _ h
    unfold f_X8_personNamed_K2 at h
    try dsimp only at h
    refine x_iconst (pc := 29) dX8_personNamed_29 (v := (-1 : Int32)) (by decide) ?_
    exact x_iret (pc := 30) dX8_personNamed_30 rfl (by rw [hQX]; exact ⟨_, rfl, hq0 _ (wo_some h), rfl⟩)
  refine x_sub [(0, _), (1, _), (3, _)] ⟨rfl, rfl, rfl, trivial⟩ ?_
  obtain ⟨ea, eb, h⟩ := wo_bo h
  refine wo_lq (X := fun l2 => mi_X mX8_personNamed (1) 2 [(0, vr 8 i0), (1, vl p0), (3, vi l2)] [] mem QX) (E := fun e => wo (f_X8_personNamed_K2 e) Q0) ?_ _ (0 : Int32) ⟨_, eb, h⟩
  intro Q2 hb2 he2 s h
  obtain ⟨l2, rfl⟩ : ∃ z, z = s := ⟨_, rfl⟩
  show mi_X mX8_personNamed (1) 2 [(0, vr 8 i0), (1, vl p0), (3, vi l2)] [] mem QX
  unfold f_X8_personNamed_B2 at h
  try dsimp only at h
  refine x_iload_n (pc := 2) dX8_personNamed_2 rfl ?_
  refine x_aload_n (pc := 3) dX8_personNamed_3 rfl ?_
  refine x_getI (pc := 4) dX8_personNamed_4 fX8_45 rfl hi0 ?_
  refine x_icmp_ge (pc := 7) dX8_personNamed_7 (tgt := 29) (by decide) (fun c5 => ?_) (fun c5 => ?_)
  · replace h := wo_pos c5 h
    refine x_sub [] trivial ?_
    exact k2_1 () (he2 (.inr ()) (wo_some h))
  · replace h := wo_neg c5 h
    refine x_aload_n (pc := 10) dX8_personNamed_10 rfl ?_
    refine x_getS (pc := 11) dX8_personNamed_11 fX8_9 rfl hi0 ?_
    refine x_iload_n (pc := 14) dX8_personNamed_14 rfl ?_
    obtain ⟨hx3, h⟩ := wo_g h
    refine x_laldJ (pc := 15) dX8_personNamed_15 rfl rfl hi0 hx3 ?_
    refine x_lload_n (pc := 16) dX8_personNamed_16 rfl ?_
    refine x_lcmp (pc := 17) dX8_personNamed_17 ?_
    refine x_if_ne (pc := 18) dX8_personNamed_18 (tgt := 23) (by decide) (fun c4 => ?_) (fun c4 => ?_)
    · replace h := wo_neg c4 h
      refine x_iinc (ls' := [(3, _), (0, _), (1, _)]) (pc := 23) dX8_personNamed_23 rfl (v := l2 + (1 : Int32)) rfl rfl rfl ?_
      refine x_goto (pc := 26) dX8_personNamed_26 (tgt := 2) (by decide) ?_
      refine x_sub [(0, _), (1, _), (3, _)] ⟨rfl, rfl, rfl, trivial⟩ ?_
      exact hb2 (l2 + (1 : Int32)) (wo_some h)
    · replace h := wo_pos c4 h
      refine x_sub [(3, _)] ⟨rfl, trivial⟩ ?_
      exact k2_0 _ (he2 (.inl l2) (wo_some h))
noncomputable def f_X7_passDoor (p0 : Nat) (p1 : Int32) (mem : mi_M) : Option (Int32 × mi_M) := mi_bo (f_X7_isName mem) fun v1 => if v1 = 0 then mi_b (f_X7_fail (1 : Int32) mem) fun v13 m14 => mi_g (v13 = 0 ∨ v13 = 1) (some (v13, m14)) else mi_bo (f_X8_personNamed p0 (mem.2.1 6 0 4) mem) fun v2 => if v2 = (-1 : Int32) then mi_b (f_X7_fail (2 : Int32) mem) fun v9 m10 => mi_g (v9 = 0 ∨ v9 = 1) (some (v9, m10)) else if v2 = p1 then mi_b (f_X7_fail (3 : Int32) mem) fun v5 m6 => mi_g (v5 = 0 ∨ v5 = 1) (some (v5, m6)) else mi_bo (f_X6_advance mem) fun m3 => mi_g ((1 : Int32) = 0 ∨ (1 : Int32) = 1) (some ((1 : Int32), m3))
set_option maxRecDepth 100000 in
set_option maxHeartbeats 4000000 in
theorem w_X7_passDoor (p0 : Nat) (p1 : Int32) (hp0 : p0 < mi_n 8) (mem : mi_M) (a : Int32 × mi_M) (e : f_X7_passDoor p0 p1 mem = some a) : mi_Ci (7) mX7_passDoor [vr 7 0, vr 8 p0, vi p1] mem (fun x m' => x = a.1 ∧ m' = a.2) := by
  unfold mi_Ci
  refine mi_C_intro (ls := [(0, vr 7 0), (1, vr 8 p0), (2, vi p1)]) (by decide) rfl rfl ?_
  obtain ⟨Q0, hq0, h⟩ : ∃ Q0 : (Int32 × mi_M) → Prop, (∀ b, Q0 b → b = a) ∧ wo (f_X7_passDoor p0 p1 mem) Q0 := ⟨fun b => b = a, fun _ h => h, wo_eq e⟩
  obtain ⟨QX, hQX⟩ : ∃ QX : Option mi_V → mi_M → Prop, QX = (fun r m' => ∃ x, r = some (vi x) ∧ x = a.1 ∧ m' = a.2) := ⟨_, rfl⟩
  rw [← hQX]
  unfold f_X7_passDoor at h
  refine x_aload_n (pc := 0) dX7_passDoor_0 rfl ?_
  refine z_Vi0 (pc := 1) h dX7_passDoor_1 lX7_78 (by decide) (by omega) rfl (fun a e => w_X7_isName _ a e) (fun v1 h => ?_)
  refine x_if_ne (pc := 4) dX7_passDoor_4 (tgt := 13) (by decide) (fun c16 => ?_) (fun c16 => ?_)
  · replace h := wo_neg c16 h
    refine x_aload_n (pc := 13) dX7_passDoor_13 rfl ?_
    refine x_aload_n (pc := 14) dX7_passDoor_14 rfl ?_
    refine x_getC (pc := 15) dX7_passDoor_15 fX7_12 rfl (by decide) ?_
    refine x_getL (pc := 18) dX7_passDoor_18 fX7_82 rfl (by decide) ?_
    refine z_Vi1 (pc := 21) h dX7_passDoor_21 lX7_86 hp0 (by omega) rfl (fun a e => w_X8_personNamed _ _ hp0 _ a e) (fun v2 h => ?_)
    refine x_istore_n (ls' := [(3, _), (0, _), (1, _), (2, _)]) (pc := 24) dX7_passDoor_24 rfl rfl rfl ?_
    refine x_iload_n (pc := 25) dX7_passDoor_25 rfl ?_
    refine x_iconst (pc := 26) dX7_passDoor_26 (v := (-1 : Int32)) (by decide) ?_
    refine x_icmp_ne (pc := 27) dX7_passDoor_27 (tgt := 36) (by decide) (fun c12 => ?_) (fun c12 => ?_)
    · replace h := wo_neg c12 h
      refine x_iload_n (pc := 36) dX7_passDoor_36 rfl ?_
      refine x_iload_n (pc := 37) dX7_passDoor_37 rfl ?_
      refine x_icmp_ne (pc := 38) dX7_passDoor_38 (tgt := 47) (by decide) (fun c8 => ?_) (fun c8 => ?_)
      · replace h := wo_neg c8 h
        refine x_aload_n (pc := 47) dX7_passDoor_47 rfl ?_
        refine x_getC (pc := 48) dX7_passDoor_48 fX7_12 rfl (by decide) ?_
        refine y_Vv0 (pc := 51) h dX7_passDoor_51 lX7_75 (by decide) (by omega) rfl (fun a e => w_X6_advance _ a e) (fun m3 h => ?_)
        refine x_iconst (pc := 54) dX7_passDoor_54 (v := (1 : Int32)) (by decide) ?_
        obtain ⟨hb4, h⟩ := wo_g h
        exact x_zretB (pc := 55) dX7_passDoor_55 rfl hb4 (by rw [hQX]; exact ⟨_, rfl, congrArg Prod.fst (hq0 _ (wo_some h)), congrArg Prod.snd (hq0 _ (wo_some h))⟩)
      · replace h := wo_pos c8 h
        refine x_aload_n (pc := 41) dX7_passDoor_41 rfl ?_
        refine x_iconst (pc := 42) dX7_passDoor_42 (v := (3 : Int32)) (by decide) ?_
        refine y_Vi1 (pc := 43) h dX7_passDoor_43 lX7_39 (by decide) (by omega) rfl (fun a e => w_X7_fail _ _ a e) (fun v5 m6 h => ?_)
        obtain ⟨hb7, h⟩ := wo_g h
        exact x_zretB (pc := 46) dX7_passDoor_46 rfl hb7 (by rw [hQX]; exact ⟨_, rfl, congrArg Prod.fst (hq0 _ (wo_some h)), congrArg Prod.snd (hq0 _ (wo_some h))⟩)
    · replace h := wo_pos c12 h
      refine x_aload_n (pc := 30) dX7_passDoor_30 rfl ?_
      refine x_iconst (pc := 31) dX7_passDoor_31 (v := (2 : Int32)) (by decide) ?_
      refine y_Vi1 (pc := 32) h dX7_passDoor_32 lX7_39 (by decide) (by omega) rfl (fun a e => w_X7_fail _ _ a e) (fun v9 m10 h => ?_)
      obtain ⟨hb11, h⟩ := wo_g h
      exact x_zretB (pc := 35) dX7_passDoor_35 rfl hb11 (by rw [hQX]; exact ⟨_, rfl, congrArg Prod.fst (hq0 _ (wo_some h)), congrArg Prod.snd (hq0 _ (wo_some h))⟩)
  · replace h := wo_pos c16 h
    refine x_aload_n (pc := 7) dX7_passDoor_7 rfl ?_
    refine x_iconst (pc := 8) dX7_passDoor_8 (v := (1 : Int32)) (by decide) ?_
    refine y_Vi1 (pc := 9) h dX7_passDoor_9 lX7_39 (by decide) (by omega) rfl (fun a e => w_X7_fail _ _ a e) (fun v13 m14 h => ?_)
    obtain ⟨hb15, h⟩ := wo_g h
    exact x_zretB (pc := 12) dX7_passDoor_12 rfl hb15 (by rw [hQX]; exact ⟨_, rfl, congrArg Prod.fst (hq0 _ (wo_some h)), congrArg Prod.snd (hq0 _ (wo_some h))⟩)
