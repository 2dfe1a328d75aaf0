noncomputable def f_X12_readPerson_J57 (v2 : Int32) (m5 : mi_M) : Option (mi_M) := if (m5.1 12 0 8) ≤ 0 then mi_g (vp_in (m5.1 12 0 7) 1002) (mi_g (vp_in (m5.1 12 0 16) 6) (mi_let (mi_wL m5 60 0 (m5.1 12 0 16).toNatClampNeg (m5.2.1 54 0 (m5.1 12 0 7).toNatClampNeg)) fun m8 => mi_let (mi_wI m8 12 0 16 ((m8.1 12 0 16) + (1 : Int32))) fun m9 => mi_let (mi_wI m9 12 0 7 ((m9.1 12 0 7) + (1 : Int32))) fun m10 => mi_b (f_X12_takeOne (16 : Int32) (4 : Int32) m10) fun v11 m12 => mi_g (vp_in ((109 : Int32) + ((2 : Int32) * v2)) 200) (mi_let (mi_wI m12 56 0 ((109 : Int32) + ((2 : Int32) * v2)).toNatClampNeg v11) fun m14 => mi_b (f_X12_takeAfter (1 : Int32) (0 : Int32) (999 : Int32) m14) fun v15 m16 => mi_g (vp_in (((109 : Int32) + ((2 : Int32) * v2)) + (1 : Int32)) 200) (mi_let (mi_wI m16 56 0 (((109 : Int32) + ((2 : Int32) * v2)) + (1 : Int32)).toNatClampNeg v15) fun m18 => mi_g (vp_in (100 : Int32) 200) (mi_g (vp_in (100 : Int32) 200) (mi_let (mi_wI m18 56 0 (100 : Int32).toNatClampNeg ((m18.1 56 0 (100 : Int32).toNatClampNeg) + (1 : Int32))) fun m21 => some m21)))))) else some m5
noncomputable def f_X12_readPerson (mem : mi_M) : Option (mi_M) := mi_g (vp_in (100 : Int32) 200) (mi_let (mem.1 56 0 (100 : Int32).toNatClampNeg) fun v2 => if v2 = (6 : Int32) then mi_bo (f_X12_wrong (5 : Int32) mem) fun m28 => some m28 else mi_let (mi_wI mem 12 0 7 ((mem.1 12 0 7) + (1 : Int32))) fun m3 => mi_bo (f_X12_isName m3) fun v4 => if v4 = 0 then mi_bo (f_X12_wrong (1 : Int32) m3) fun m26 => f_X12_readPerson_J57 v2 m26 else mi_bo (f_X12_find m3) fun v23 => if v23 < 0 then f_X12_readPerson_J57 v2 m3 else mi_bo (f_X12_wrong (3 : Int32) m3) fun m24 => f_X12_readPerson_J57 v2 m24)
set_option maxRecDepth 100000 in
set_option maxHeartbeats 4000000 in
theorem w_X12_readPerson (mem : mi_M) (a : mi_M) (e : f_X12_readPerson  mem = some a) : mi_Cv (5) mX12_readPerson [vr 12 0] mem (fun m' => m' = a) := by
  unfold mi_Cv
  refine mi_C_intro (ls := [(0, vr 12 0)]) (by decide) rfl rfl ?_
  obtain ⟨Q0, hq0, h⟩ : ∃ Q0 : mi_M → Prop, (∀ b, Q0 b → b = a) ∧ wo (f_X12_readPerson  mem) Q0 := ⟨fun b => b = a, fun _ h => h, wo_eq e⟩
  obtain ⟨QX, hQX⟩ : ∃ QX : Option mi_V → mi_M → Prop, QX = (fun r m' => r = none ∧ m' = a) := ⟨_, rfl⟩
  rw [← hQX]
  unfold f_X12_readPerson at h
  refine x_aload_n (pc := 0) dX12_readPerson_0 rfl ?_
  refine x_getS (pc := 1) dX12_readPerson_1 fX12_89 rfl (by decide) ?_
  refine x_bipush (pc := 4) dX12_readPerson_4 (v := (100 : Int32)) (by decide) ?_
  obtain ⟨hx1, h⟩ := wo_g h
  refine x_ialdJ (pc := 6) dX12_readPerson_6 rfl rfl (by decide) hx1 ?_
  refine x_leti h (fun v2 h => ?_)
  refine x_istore_n (ls' := [(1, _), (0, _)]) (pc := 7) dX12_readPerson_7 rfl rfl rfl ?_
  refine x_iload_n (pc := 8) dX12_readPerson_8 rfl ?_
  refine x_bipush (pc := 9) dX12_readPerson_9 (v := (6 : Int32)) (by decide) ?_
  refine x_icmp_ne (pc := 11) dX12_readPerson_11 (tgt := 20) (by decide) (fun c29 => ?_) (fun c29 => ?_)
  · replace h := wo_neg c29 h
    refine x_aload_n (pc := 20) dX12_readPerson_20 rfl ?_
    refine x_dup (pc := 21) dX12_readPerson_21 rfl ?_
    refine x_getI (pc := 22) dX12_readPerson_22 fX12_180 rfl (by decide) ?_
    refine x_iconst (pc := 25) dX12_readPerson_25 (v := (1 : Int32)) (by decide) ?_
    refine x_iadd (pc := 26) dX12_readPerson_26 ?_
    refine x_putI (pc := 27) dX12_readPerson_27 fX12_180 rfl (by decide) rfl rfl ?_
    refine x_letm h (fun m3 h => ?_)
    refine x_aload_n (pc := 30) dX12_readPerson_30 rfl ?_
    refine z_Vi0 (pc := 31) h dX12_readPerson_31 lX12_211 (by decide) (by omega) rfl (fun a e => w_X12_isName _ a e) (fun v4 h => ?_)
    have j57 : ∀ (m5 : mi_M), wo (f_X12_readPerson_J57 v2 m5) Q0 → mi_X mX12_readPerson (5) 57 [(0, vr 12 0), (1, vi v2)] [] m5 QX := by
      intro m5 h
      unfold f_X12_readPerson_J57 at h
      refine x_aload_n (pc := 57) dX12_readPerson_57 rfl ?_
      refine x_getI (pc := 58) dX12_readPerson_58 fX12_183 rfl (by decide) ?_
      refine x_if_le (pc := 61) dX12_readPerson_61 (tgt := 65) (by decide) (fun c22 => ?_) (fun c22 => ?_)
      · replace h := wo_pos c22 h
        refine x_aload_n (pc := 65) dX12_readPerson_65 rfl ?_
        refine x_getS (pc := 66) dX12_readPerson_66 fX12_101 rfl (by decide) ?_
        refine x_aload_n (pc := 69) dX12_readPerson_69 rfl ?_
        refine x_getI (pc := 70) dX12_readPerson_70 fX12_208 rfl (by decide) ?_
        refine x_aload_n (pc := 73) dX12_readPerson_73 rfl ?_
        refine x_getS (pc := 74) dX12_readPerson_74 fX12_30 rfl (by decide) ?_
        refine x_aload_n (pc := 77) dX12_readPerson_77 rfl ?_
        refine x_getI (pc := 78) dX12_readPerson_78 fX12_180 rfl (by decide) ?_
        obtain ⟨hx6, h⟩ := wo_g h
        refine x_laldJ (pc := 81) dX12_readPerson_81 rfl rfl (by decide) hx6 ?_
        obtain ⟨hx7, h⟩ := wo_g h
        refine x_lastJ (pc := 82) dX12_readPerson_82 rfl rfl (by decide) rfl hx7 ?_
        refine x_letm h (fun m8 h => ?_)
        refine x_aload_n (pc := 83) dX12_readPerson_83 rfl ?_
        refine x_dup (pc := 84) dX12_readPerson_84 rfl ?_
        refine x_getI (pc := 85) dX12_readPerson_85 fX12_208 rfl (by decide) ?_
        refine x_iconst (pc := 88) dX12_readPerson_88 (v := (1 : Int32)) (by decide) ?_
        refine x_iadd (pc := 89) dX12_readPerson_89 ?_
        refine x_putI (pc := 90) dX12_readPerson_90 fX12_208 rfl (by decide) rfl rfl ?_
        refine x_letm h (fun m9 h => ?_)
        refine x_aload_n (pc := 93) dX12_readPerson_93 rfl ?_
        refine x_dup (pc := 94) dX12_readPerson_94 rfl ?_
        refine x_getI (pc := 95) dX12_readPerson_95 fX12_180 rfl (by decide) ?_
        refine x_iconst (pc := 98) dX12_readPerson_98 (v := (1 : Int32)) (by decide) ?_
        refine x_iadd (pc := 99) dX12_readPerson_99 ?_
        refine x_putI (pc := 100) dX12_readPerson_100 fX12_180 rfl (by decide) rfl rfl ?_
        refine x_letm h (fun m10 h => ?_)
        refine x_aload_n (pc := 103) dX12_readPerson_103 rfl ?_
        refine x_getS (pc := 104) dX12_readPerson_104 fX12_89 rfl (by decide) ?_
        refine x_bipush (pc := 107) dX12_readPerson_107 (v := (109 : Int32)) (by decide) ?_
        refine x_iconst (pc := 109) dX12_readPerson_109 (v := (2 : Int32)) (by decide) ?_
        refine x_iload_n (pc := 110) dX12_readPerson_110 rfl ?_
        refine x_imul (pc := 111) dX12_readPerson_111 ?_
        refine x_iadd (pc := 112) dX12_readPerson_112 ?_
        refine x_aload_n (pc := 113) dX12_readPerson_113 rfl ?_
        refine x_bipush (pc := 114) dX12_readPerson_114 (v := (16 : Int32)) (by decide) ?_
        refine x_iconst (pc := 116) dX12_readPerson_116 (v := (4 : Int32)) (by decide) ?_
        refine y_Vi2 (pc := 117) h dX12_readPerson_117 lX12_252 (by decide) (by omega) rfl (fun a e => w_X12_takeOne _ _ _ a e) (fun v11 m12 h => ?_)
        obtain ⟨hx13, h⟩ := wo_g h
        refine x_iastJ (pc := 120) dX12_readPerson_120 rfl rfl (by decide) rfl hx13 ?_
        refine x_letm h (fun m14 h => ?_)
        refine x_aload_n (pc := 121) dX12_readPerson_121 rfl ?_
        refine x_getS (pc := 122) dX12_readPerson_122 fX12_89 rfl (by decide) ?_
        refine x_bipush (pc := 125) dX12_readPerson_125 (v := (109 : Int32)) (by decide) ?_
        refine x_iconst (pc := 127) dX12_readPerson_127 (v := (2 : Int32)) (by decide) ?_
        refine x_iload_n (pc := 128) dX12_readPerson_128 rfl ?_
        refine x_imul (pc := 129) dX12_readPerson_129 ?_
        refine x_iadd (pc := 130) dX12_readPerson_130 ?_
        refine x_iconst (pc := 131) dX12_readPerson_131 (v := (1 : Int32)) (by decide) ?_
        refine x_iadd (pc := 132) dX12_readPerson_132 ?_
        refine x_aload_n (pc := 133) dX12_readPerson_133 rfl ?_
        refine x_iconst (pc := 134) dX12_readPerson_134 (v := (1 : Int32)) (by decide) ?_
        refine x_iconst (pc := 135) dX12_readPerson_135 (v := (0 : Int32)) (by decide) ?_
        refine x_sipush (pc := 136) dX12_readPerson_136 (v := (999 : Int32)) (by decide) ?_
        refine y_Vi3 (pc := 139) h dX12_readPerson_139 lX12_255 (by decide) (by omega) rfl (fun a e => w_X12_takeAfter _ _ _ _ a e) (fun v15 m16 h => ?_)
        obtain ⟨hx17, h⟩ := wo_g h
        refine x_iastJ (pc := 142) dX12_readPerson_142 rfl rfl (by decide) rfl hx17 ?_
        refine x_letm h (fun m18 h => ?_)
        refine x_aload_n (pc := 143) dX12_readPerson_143 rfl ?_
        refine x_getS (pc := 144) dX12_readPerson_144 fX12_89 rfl (by decide) ?_
        refine x_bipush (pc := 147) dX12_readPerson_147 (v := (100 : Int32)) (by decide) ?_
        refine x_dup2 (pc := 149) dX12_readPerson_149 rfl rfl ?_
        obtain ⟨hx19, h⟩ := wo_g h
        refine x_ialdJ (pc := 150) dX12_readPerson_150 rfl rfl (by decide) hx19 ?_
        refine x_iconst (pc := 151) dX12_readPerson_151 (v := (1 : Int32)) (by decide) ?_
        refine x_iadd (pc := 152) dX12_readPerson_152 ?_
        obtain ⟨hx20, h⟩ := wo_g h
        refine x_iastJ (pc := 153) dX12_readPerson_153 rfl rfl (by decide) rfl hx20 ?_
        refine x_letm h (fun m21 h => ?_)
        exact x_ret (pc := 154) dX12_readPerson_154 rfl (by rw [hQX]; exact ⟨rfl, hq0 _ (wo_some h)⟩)
      · replace h := wo_neg c22 h
        exact x_ret (pc := 64) dX12_readPerson_64 rfl (by rw [hQX]; exact ⟨rfl, hq0 _ (wo_some h)⟩)
    refine x_if_ne (pc := 34) dX12_readPerson_34 (tgt := 45) (by decide) (fun c27 => ?_) (fun c27 => ?_)
    · replace h := wo_neg c27 h
      refine x_aload_n (pc := 45) dX12_readPerson_45 rfl ?_
      refine z_Vi0 (pc := 46) h dX12_readPerson_46 lX12_215 (by decide) (by omega) rfl (fun a e => w_X12_find _ a e) (fun v23 h => ?_)
      refine x_if_lt (pc := 49) dX12_readPerson_49 (tgt := 57) (by decide) (fun c25 => ?_) (fun c25 => ?_)
      · replace h := wo_pos c25 h
        refine x_sub [(0, _), (1, _)] ⟨rfl, rfl, trivial⟩ ?_
        exact j57 _ h
      · replace h := wo_neg c25 h
        refine x_aload_n (pc := 52) dX12_readPerson_52 rfl ?_
        refine x_iconst (pc := 53) dX12_readPerson_53 (v := (3 : Int32)) (by decide) ?_
        refine y_Vv1 (pc := 54) h dX12_readPerson_54 lX12_189 (by decide) (by omega) rfl (fun a e => w_X12_wrong _ _ a e) (fun m24 h => ?_)
        refine x_sub [(0, _), (1, _)] ⟨rfl, rfl, trivial⟩ ?_
        exact j57 _ h
    · replace h := wo_pos c27 h
      refine x_aload_n (pc := 37) dX12_readPerson_37 rfl ?_
      refine x_iconst (pc := 38) dX12_readPerson_38 (v := (1 : Int32)) (by decide) ?_
      refine y_Vv1 (pc := 39) h dX12_readPerson_39 lX12_189 (by decide) (by omega) rfl (fun a e => w_X12_wrong _ _ a e) (fun m26 h => ?_)
      refine x_goto (pc := 42) dX12_readPerson_42 (tgt := 57) (by decide) ?_
      refine x_sub [(0, _), (1, _)] ⟨rfl, rfl, trivial⟩ ?_
      exact j57 _ h
  · replace h := wo_pos c29 h
    refine x_aload_n (pc := 14) dX12_readPerson_14 rfl ?_
    refine x_iconst (pc := 15) dX12_readPerson_15 (v := (5 : Int32)) (by decide) ?_
    refine y_Vv1 (pc := 16) h dX12_readPerson_16 lX12_189 (by decide) (by omega) rfl (fun a e => w_X12_wrong _ _ a e) (fun m28 h => ?_)
    exact x_ret (pc := 19) dX12_readPerson_19 rfl (by rw [hQX]; exact ⟨rfl, hq0 _ (wo_some h)⟩)
noncomputable def f_X12_readWalk (mem : mi_M) : Option (mi_M) := mi_g (vp_in (103 : Int32) 200) (mi_let (mem.1 56 0 (103 : Int32).toNatClampNeg) fun v2 => if v2 = (4 : Int32) then mi_bo (f_X12_wrong (5 : Int32) mem) fun m18 => some m18 else mi_let (mi_wI mem 12 0 7 ((mem.1 12 0 7) + (1 : Int32))) fun m3 => mi_let ((181 : Int32) + ((2 : Int32) * v2)) fun v4 => mi_b (f_X12_takeTold m3) fun v5 m6 => mi_g (vp_in v4 200) (mi_let (mi_wI m6 56 0 v4.toNatClampNeg v5) fun m8 => mi_bo (f_X12_takeWord (4 : Int32) m8) fun m9 => mi_g (vp_in v4 200) (mi_b (f_X12_takeOther (m9.1 56 0 v4.toNatClampNeg) (0 : Int32) m9) fun v11 m12 => mi_g (vp_in (v4 + (1 : Int32)) 200) (mi_let (mi_wI m12 56 0 (v4 + (1 : Int32)).toNatClampNeg v11) fun m14 => mi_g (vp_in (103 : Int32) 200) (mi_g (vp_in (103 : Int32) 200) (mi_let (mi_wI m14 56 0 (103 : Int32).toNatClampNeg ((m14.1 56 0 (103 : Int32).toNatClampNeg) + (1 : Int32))) fun m17 => some m17))))))
set_option maxRecDepth 100000 in
set_option maxHeartbeats 4000000 in
theorem w_X12_readWalk (mem : mi_M) (a : mi_M) (e : f_X12_readWalk  mem = some a) : mi_Cv (6) mX12_readWalk [vr 12 0] mem (fun m' => m' = a) := by
  unfold mi_Cv
  refine mi_C_intro (ls := [(0, vr 12 0)]) (by decide) rfl rfl ?_
  obtain ⟨Q0, hq0, h⟩ : ∃ Q0 : mi_M → Prop, (∀ b, Q0 b → b = a) ∧ wo (f_X12_readWalk  mem) Q0 := ⟨fun b => b = a, fun _ h => h, wo_eq e⟩
  obtain ⟨QX, hQX⟩ : ∃ QX : Option mi_V → mi_M → Prop, QX = (fun r m' => r = none ∧ m' = a) := ⟨_, rfl⟩
  rw [← hQX]
  unfold f_X12_readWalk at h
  refine x_aload_n (pc := 0) dX12_readWalk_0 rfl ?_
  refine x_getS (pc := 1) dX12_readWalk_1 fX12_89 rfl (by decide) ?_
  refine x_bipush (pc := 4) dX12_readWalk_4 (v := (103 : Int32)) (by decide) ?_
  obtain ⟨hx1, h⟩ := wo_g h
  refine x_ialdJ (pc := 6) dX12_readWalk_6 rfl rfl (by decide) hx1 ?_
  refine x_leti h (fun v2 h => ?_)
  refine x_istore_n (ls' := [(1, _), (0, _)]) (pc := 7) dX12_readWalk_7 rfl rfl rfl ?_
  refine x_iload_n (pc := 8) dX12_readWalk_8 rfl ?_
  refine x_iconst (pc := 9) dX12_readWalk_9 (v := (4 : Int32)) (by decide) ?_
  refine x_icmp_ne (pc := 10) dX12_readWalk_10 (tgt := 19) (by decide) (fun c19 => ?_) (fun c19 => ?_)
  · replace h := wo_neg c19 h
    refine x_aload_n (pc := 19) dX12_readWalk_19 rfl ?_
    refine x_dup (pc := 20) dX12_readWalk_20 rfl ?_
    refine x_getI (pc := 21) dX12_readWalk_21 fX12_180 rfl (by decide) ?_
    refine x_iconst (pc := 24) dX12_readWalk_24 (v := (1 : Int32)) (by decide) ?_
    refine x_iadd (pc := 25) dX12_readWalk_25 ?_
    refine x_putI (pc := 26) dX12_readWalk_26 fX12_180 rfl (by decide) rfl rfl ?_
    refine x_letm h (fun m3 h => ?_)
    refine x_sipush (pc := 29) dX12_readWalk_29 (v := (181 : Int32)) (by decide) ?_
    refine x_iconst (pc := 32) dX12_readWalk_32 (v := (2 : Int32)) (by decide) ?_
    refine x_iload_n (pc := 33) dX12_readWalk_33 rfl ?_
    refine x_imul (pc := 34) dX12_readWalk_34 ?_
    refine x_iadd (pc := 35) dX12_readWalk_35 ?_
    refine x_leti h (fun v4 h => ?_)
    refine x_istore_n (ls' := [(2, _), (1, _), (0, _)]) (pc := 36) dX12_readWalk_36 rfl rfl rfl ?_
    refine x_aload_n (pc := 37) dX12_readWalk_37 rfl ?_
    refine x_getS (pc := 38) dX12_readWalk_38 fX12_89 rfl (by decide) ?_
    refine x_iload_n (pc := 41) dX12_readWalk_41 rfl ?_
    refine x_aload_n (pc := 42) dX12_readWalk_42 rfl ?_
    refine y_Vi0 (pc := 43) h dX12_readWalk_43 lX12_259 (by decide) (by omega) rfl (fun a e => w_X12_takeTold _ a e) (fun v5 m6 h => ?_)
    obtain ⟨hx7, h⟩ := wo_g h
    refine x_iastJ (pc := 46) dX12_readWalk_46 rfl rfl (by decide) rfl hx7 ?_
    refine x_letm h (fun m8 h => ?_)
    refine x_aload_n (pc := 47) dX12_readWalk_47 rfl ?_
    refine x_iconst (pc := 48) dX12_readWalk_48 (v := (4 : Int32)) (by decide) ?_
    refine y_Vv1 (pc := 49) h dX12_readWalk_49 lX12_198 (by decide) (by omega) rfl (fun a e => w_X12_takeWord _ _ a e) (fun m9 h => ?_)
    refine x_aload_n (pc := 52) dX12_readWalk_52 rfl ?_
    refine x_getS (pc := 53) dX12_readWalk_53 fX12_89 rfl (by decide) ?_
    refine x_iload_n (pc := 56) dX12_readWalk_56 rfl ?_
    refine x_iconst (pc := 57) dX12_readWalk_57 (v := (1 : Int32)) (by decide) ?_
    refine x_iadd (pc := 58) dX12_readWalk_58 ?_
    refine x_aload_n (pc := 59) dX12_readWalk_59 rfl ?_
    refine x_aload_n (pc := 60) dX12_readWalk_60 rfl ?_
    refine x_getS (pc := 61) dX12_readWalk_61 fX12_89 rfl (by decide) ?_
    refine x_iload_n (pc := 64) dX12_readWalk_64 rfl ?_
    obtain ⟨hx10, h⟩ := wo_g h
    refine x_ialdJ (pc := 65) dX12_readWalk_65 rfl rfl (by decide) hx10 ?_
    refine x_iconst (pc := 66) dX12_readWalk_66 (v := (0 : Int32)) (by decide) ?_
    refine y_Vi2 (pc := 67) h dX12_readWalk_67 lX12_262 (by decide) (by omega) rfl (fun a e => w_X12_takeOther _ _ _ a e) (fun v11 m12 h => ?_)
    obtain ⟨hx13, h⟩ := wo_g h
    refine x_iastJ (pc := 70) dX12_readWalk_70 rfl rfl (by decide) rfl hx13 ?_
    refine x_letm h (fun m14 h => ?_)
    refine x_aload_n (pc := 71) dX12_readWalk_71 rfl ?_
    refine x_getS (pc := 72) dX12_readWalk_72 fX12_89 rfl (by decide) ?_
    refine x_bipush (pc := 75) dX12_readWalk_75 (v := (103 : Int32)) (by decide) ?_
    refine x_dup2 (pc := 77) dX12_readWalk_77 rfl rfl ?_
    obtain ⟨hx15, h⟩ := wo_g h
    refine x_ialdJ (pc := 78) dX12_readWalk_78 rfl rfl (by decide) hx15 ?_
    refine x_iconst (pc := 79) dX12_readWalk_79 (v := (1 : Int32)) (by decide) ?_
    refine x_iadd (pc := 80) dX12_readWalk_80 ?_
    obtain ⟨hx16, h⟩ := wo_g h
    refine x_iastJ (pc := 81) dX12_readWalk_81 rfl rfl (by decide) rfl hx16 ?_
    refine x_letm h (fun m17 h => ?_)
    exact x_ret (pc := 82) dX12_readWalk_82 rfl (by rw [hQX]; exact ⟨rfl, hq0 _ (wo_some h)⟩)
  · replace h := wo_pos c19 h
    refine x_aload_n (pc := 13) dX12_readWalk_13 rfl ?_
    refine x_iconst (pc := 14) dX12_readWalk_14 (v := (5 : Int32)) (by decide) ?_
    refine y_Vv1 (pc := 15) h dX12_readWalk_15 lX12_189 (by decide) (by omega) rfl (fun a e => w_X12_wrong _ _ a e) (fun m18 h => ?_)
    exact x_ret (pc := 18) dX12_readWalk_18 rfl (by rw [hQX]; exact ⟨rfl, hq0 _ (wo_some h)⟩)
noncomputable def f_X12_readWrong (mem : mi_M) : Option (mi_M) := mi_g (vp_in (102 : Int32) 200) (mi_let (mem.1 56 0 (102 : Int32).toNatClampNeg) fun v2 => if v2 = (8 : Int32) then mi_bo (f_X12_wrong (5 : Int32) mem) fun m22 => some m22 else mi_let (mi_wI mem 12 0 7 ((mem.1 12 0 7) + (1 : Int32))) fun m3 => mi_let ((157 : Int32) + ((3 : Int32) * v2)) fun v4 => mi_b (f_X12_takeTold m3) fun v5 m6 => mi_g (vp_in v4 200) (mi_let (mi_wI m6 56 0 v4.toNatClampNeg v5) fun m8 => mi_bo (f_X12_takeWord (4 : Int32) m8) fun m9 => mi_g (vp_in v4 200) (mi_b (f_X12_takeOther (m9.1 56 0 v4.toNatClampNeg) (0 : Int32) m9) fun v11 m12 => mi_g (vp_in (v4 + (1 : Int32)) 200) (mi_let (mi_wI m12 56 0 (v4 + (1 : Int32)).toNatClampNeg v11) fun m14 => mi_b (f_X12_takeAfter (5 : Int32) (1 : Int32) (9 : Int32) m14) fun v15 m16 => mi_g (vp_in (v4 + (2 : Int32)) 200) (mi_let (mi_wI m16 56 0 (v4 + (2 : Int32)).toNatClampNeg v15) fun m18 => mi_g (vp_in (102 : Int32) 200) (mi_g (vp_in (102 : Int32) 200) (mi_let (mi_wI m18 56 0 (102 : Int32).toNatClampNeg ((m18.1 56 0 (102 : Int32).toNatClampNeg) + (1 : Int32))) fun m21 => some m21)))))))
set_option maxRecDepth 100000 in
set_option maxHeartbeats 4000000 in
theorem w_X12_readWrong (mem : mi_M) (a : mi_M) (e : f_X12_readWrong  mem = some a) : mi_Cv (6) mX12_readWrong [vr 12 0] mem (fun m' => m' = a) := by
  unfold mi_Cv
  refine mi_C_intro (ls := [(0, vr 12 0)]) (by decide) rfl rfl ?_
  obtain ⟨Q0, hq0, h⟩ : ∃ Q0 : mi_M → Prop, (∀ b, Q0 b → b = a) ∧ wo (f_X12_readWrong  mem) Q0 := ⟨fun b => b = a, fun _ h => h, wo_eq e⟩
  obtain ⟨QX, hQX⟩ : ∃ QX : Option mi_V → mi_M → Prop, QX = (fun r m' => r = none ∧ m' = a) := ⟨_, rfl⟩
  rw [← hQX]
  unfold f_X12_readWrong at h
  refine x_aload_n (pc := 0) dX12_readWrong_0 rfl ?_
  refine x_getS (pc := 1) dX12_readWrong_1 fX12_89 rfl (by decide) ?_
  refine x_bipush (pc := 4) dX12_readWrong_4 (v := (102 : Int32)) (by decide) ?_
  obtain ⟨hx1, h⟩ := wo_g h
  refine x_ialdJ (pc := 6) dX12_readWrong_6 rfl rfl (by decide) hx1 ?_
  refine x_leti h (fun v2 h => ?_)
  refine x_istore_n (ls' := [(1, _), (0, _)]) (pc := 7) dX12_readWrong_7 rfl rfl rfl ?_
  refine x_iload_n (pc := 8) dX12_readWrong_8 rfl ?_
  refine x_bipush (pc := 9) dX12_readWrong_9 (v := (8 : Int32)) (by decide) ?_
  refine x_icmp_ne (pc := 11) dX12_readWrong_11 (tgt := 20) (by decide) (fun c23 => ?_) (fun c23 => ?_)
  · replace h := wo_neg c23 h
    refine x_aload_n (pc := 20) dX12_readWrong_20 rfl ?_
    refine x_dup (pc := 21) dX12_readWrong_21 rfl ?_
    refine x_getI (pc := 22) dX12_readWrong_22 fX12_180 rfl (by decide) ?_
    refine x_iconst (pc := 25) dX12_readWrong_25 (v := (1 : Int32)) (by decide) ?_
    refine x_iadd (pc := 26) dX12_readWrong_26 ?_
    refine x_putI (pc := 27) dX12_readWrong_27 fX12_180 rfl (by decide) rfl rfl ?_
    refine x_letm h (fun m3 h => ?_)
    refine x_sipush (pc := 30) dX12_readWrong_30 (v := (157 : Int32)) (by decide) ?_
    refine x_iconst (pc := 33) dX12_readWrong_33 (v := (3 : Int32)) (by decide) ?_
    refine x_iload_n (pc := 34) dX12_readWrong_34 rfl ?_
    refine x_imul (pc := 35) dX12_readWrong_35 ?_
    refine x_iadd (pc := 36) dX12_readWrong_36 ?_
    refine x_leti h (fun v4 h => ?_)
    refine x_istore_n (ls' := [(2, _), (1, _), (0, _)]) (pc := 37) dX12_readWrong_37 rfl rfl rfl ?_
    refine x_aload_n (pc := 38) dX12_readWrong_38 rfl ?_
    refine x_getS (pc := 39) dX12_readWrong_39 fX12_89 rfl (by decide) ?_
    refine x_iload_n (pc := 42) dX12_readWrong_42 rfl ?_
    refine x_aload_n (pc := 43) dX12_readWrong_43 rfl ?_
    refine y_Vi0 (pc := 44) h dX12_readWrong_44 lX12_259 (by decide) (by omega) rfl (fun a e => w_X12_takeTold _ a e) (fun v5 m6 h => ?_)
    obtain ⟨hx7, h⟩ := wo_g h
    refine x_iastJ (pc := 47) dX12_readWrong_47 rfl rfl (by decide) rfl hx7 ?_
    refine x_letm h (fun m8 h => ?_)
    refine x_aload_n (pc := 48) dX12_readWrong_48 rfl ?_
    refine x_iconst (pc := 49) dX12_readWrong_49 (v := (4 : Int32)) (by decide) ?_
    refine y_Vv1 (pc := 50) h dX12_readWrong_50 lX12_198 (by decide) (by omega) rfl (fun a e => w_X12_takeWord _ _ a e) (fun m9 h => ?_)
    refine x_aload_n (pc := 53) dX12_readWrong_53 rfl ?_
    refine x_getS (pc := 54) dX12_readWrong_54 fX12_89 rfl (by decide) ?_
    refine x_iload_n (pc := 57) dX12_readWrong_57 rfl ?_
    refine x_iconst (pc := 58) dX12_readWrong_58 (v := (1 : Int32)) (by decide) ?_
    refine x_iadd (pc := 59) dX12_readWrong_59 ?_
    refine x_aload_n (pc := 60) dX12_readWrong_60 rfl ?_
    refine x_aload_n (pc := 61) dX12_readWrong_61 rfl ?_
    refine x_getS (pc := 62) dX12_readWrong_62 fX12_89 rfl (by decide) ?_
    refine x_iload_n (pc := 65) dX12_readWrong_65 rfl ?_
    obtain ⟨hx10, h⟩ := wo_g h
    refine x_ialdJ (pc := 66) dX12_readWrong_66 rfl rfl (by decide) hx10 ?_
    refine x_iconst (pc := 67) dX12_readWrong_67 (v := (0 : Int32)) (by decide) ?_
    refine y_Vi2 (pc := 68) h dX12_readWrong_68 lX12_262 (by decide) (by omega) rfl (fun a e => w_X12_takeOther _ _ _ a e) (fun v11 m12 h => ?_)
    obtain ⟨hx13, h⟩ := wo_g h
    refine x_iastJ (pc := 71) dX12_readWrong_71 rfl rfl (by decide) rfl hx13 ?_
    refine x_letm h (fun m14 h => ?_)
    refine x_aload_n (pc := 72) dX12_readWrong_72 rfl ?_
    refine x_getS (pc := 73) dX12_readWrong_73 fX12_89 rfl (by decide) ?_
    refine x_iload_n (pc := 76) dX12_readWrong_76 rfl ?_
    refine x_iconst (pc := 77) dX12_readWrong_77 (v := (2 : Int32)) (by decide) ?_
    refine x_iadd (pc := 78) dX12_readWrong_78 ?_
    refine x_aload_n (pc := 79) dX12_readWrong_79 rfl ?_
    refine x_iconst (pc := 80) dX12_readWrong_80 (v := (5 : Int32)) (by decide) ?_
    refine x_iconst (pc := 81) dX12_readWrong_81 (v := (1 : Int32)) (by decide) ?_
    refine x_bipush (pc := 82) dX12_readWrong_82 (v := (9 : Int32)) (by decide) ?_
    refine y_Vi3 (pc := 84) h dX12_readWrong_84 lX12_255 (by decide) (by omega) rfl (fun a e => w_X12_takeAfter _ _ _ _ a e) (fun v15 m16 h => ?_)
    obtain ⟨hx17, h⟩ := wo_g h
    refine x_iastJ (pc := 87) dX12_readWrong_87 rfl rfl (by decide) rfl hx17 ?_
    refine x_letm h (fun m18 h => ?_)
    refine x_aload_n (pc := 88) dX12_readWrong_88 rfl ?_
    refine x_getS (pc := 89) dX12_readWrong_89 fX12_89 rfl (by decide) ?_
    refine x_bipush (pc := 92) dX12_readWrong_92 (v := (102 : Int32)) (by decide) ?_
    refine x_dup2 (pc := 94) dX12_readWrong_94 rfl rfl ?_
    obtain ⟨hx19, h⟩ := wo_g h
    refine x_ialdJ (pc := 95) dX12_readWrong_95 rfl rfl (by decide) hx19 ?_
    refine x_iconst (pc := 96) dX12_readWrong_96 (v := (1 : Int32)) (by decide) ?_
    refine x_iadd (pc := 97) dX12_readWrong_97 ?_
    obtain ⟨hx20, h⟩ := wo_g h
    refine x_iastJ (pc := 98) dX12_readWrong_98 rfl rfl (by decide) rfl hx20 ?_
    refine x_letm h (fun m21 h => ?_)
    exact x_ret (pc := 99) dX12_readWrong_99 rfl (by rw [hQX]; exact ⟨rfl, hq0 _ (wo_some h)⟩)
  · replace h := wo_pos c23 h
    refine x_aload_n (pc := 14) dX12_readWrong_14 rfl ?_
    refine x_iconst (pc := 15) dX12_readWrong_15 (v := (5 : Int32)) (by decide) ?_
    refine y_Vv1 (pc := 16) h dX12_readWrong_16 lX12_189 (by decide) (by omega) rfl (fun a e => w_X12_wrong _ _ a e) (fun m22 h => ?_)
    exact x_ret (pc := 19) dX12_readWrong_19 rfl (by rw [hQX]; exact ⟨rfl, hq0 _ (wo_some h)⟩)
noncomputable def f_X12_readLine_J65 (m2 : mi_M) : Option (mi_M) := some m2
noncomputable def f_X12_readLine (mem : mi_M) : Option (mi_M) := mi_bo (f_X12_isWord (0 : Int32) mem) fun v1 => if v1 = 0 then mi_bo (f_X12_isWord (2 : Int32) mem) fun v3 => if v3 = 0 then mi_bo (f_X12_isWord (3 : Int32) mem) fun v4 => if v4 = 0 then mi_bo (f_X12_isWord (6 : Int32) mem) fun v5 => if v5 = 0 then mi_bo (f_X12_readOnce mem) fun m6 => f_X12_readLine_J65 m6 else mi_bo (f_X12_readWalk mem) fun m7 => f_X12_readLine_J65 m7 else mi_bo (f_X12_readWrong mem) fun m9 => f_X12_readLine_J65 m9 else mi_bo (f_X12_readLane mem) fun m11 => f_X12_readLine_J65 m11 else mi_bo (f_X12_readPerson mem) fun m13 => f_X12_readLine_J65 m13
set_option maxRecDepth 100000 in
set_option maxHeartbeats 4000000 in
theorem w_X12_readLine (mem : mi_M) (a : mi_M) (e : f_X12_readLine  mem = some a) : mi_Cv (45) mX12_readLine [vr 12 0] mem (fun m' => m' = a) := by
  unfold mi_Cv
  refine mi_C_intro (ls := [(0, vr 12 0)]) (by decide) rfl rfl ?_
  obtain ⟨Q0, hq0, h⟩ : ∃ Q0 : mi_M → Prop, (∀ b, Q0 b → b = a) ∧ wo (f_X12_readLine  mem) Q0 := ⟨fun b => b = a, fun _ h => h, wo_eq e⟩
  obtain ⟨QX, hQX⟩ : ∃ QX : Option mi_V → mi_M → Prop, QX = (fun r m' => r = none ∧ m' = a) := ⟨_, rfl⟩
  rw [← hQX]
  unfold f_X12_readLine at h
  refine x_aload_n (pc := 0) dX12_readLine_0 rfl ?_
  refine x_iconst (pc := 1) dX12_readLine_1 (v := (0 : Int32)) (by decide) ?_
  refine z_Vi1 (pc := 2) h dX12_readLine_2 lX12_192 (by decide) (by omega) rfl (fun a e => w_X12_isWord _ _ a e) (fun v1 h => ?_)
  have j65 : ∀ (m2 : mi_M), wo (f_X12_readLine_J65 m2) Q0 → mi_X mX12_readLine (45) 65 [] [] m2 QX := by
    intro m2 h
    unfold f_X12_readLine_J65 at h
    exact x_ret (pc := 65) dX12_readLine_65 rfl (by rw [hQX]; exact ⟨rfl, hq0 _ (wo_some h)⟩)
  refine x_if_eq (pc := 5) dX12_readLine_5 (tgt := 15) (by decide) (fun c14 => ?_) (fun c14 => ?_)
  · replace h := wo_pos c14 h
    refine x_aload_n (pc := 15) dX12_readLine_15 rfl ?_
    refine x_iconst (pc := 16) dX12_readLine_16 (v := (2 : Int32)) (by decide) ?_
    refine z_Vi1 (pc := 17) h dX12_readLine_17 lX12_192 (by decide) (by omega) rfl (fun a e => w_X12_isWord _ _ a e) (fun v3 h => ?_)
    refine x_if_eq (pc := 20) dX12_readLine_20 (tgt := 30) (by decide) (fun c12 => ?_) (fun c12 => ?_)
    · replace h := wo_pos c12 h
      refine x_aload_n (pc := 30) dX12_readLine_30 rfl ?_
      refine x_iconst (pc := 31) dX12_readLine_31 (v := (3 : Int32)) (by decide) ?_
      refine z_Vi1 (pc := 32) h dX12_readLine_32 lX12_192 (by decide) (by omega) rfl (fun a e => w_X12_isWord _ _ a e) (fun v4 h => ?_)
      refine x_if_eq (pc := 35) dX12_readLine_35 (tgt := 45) (by decide) (fun c10 => ?_) (fun c10 => ?_)
      · replace h := wo_pos c10 h
        refine x_aload_n (pc := 45) dX12_readLine_45 rfl ?_
        refine x_bipush (pc := 46) dX12_readLine_46 (v := (6 : Int32)) (by decide) ?_
        refine z_Vi1 (pc := 48) h dX12_readLine_48 lX12_192 (by decide) (by omega) rfl (fun a e => w_X12_isWord _ _ a e) (fun v5 h => ?_)
        refine x_if_eq (pc := 51) dX12_readLine_51 (tgt := 61) (by decide) (fun c8 => ?_) (fun c8 => ?_)
        · replace h := wo_pos c8 h
          refine x_aload_n (pc := 61) dX12_readLine_61 rfl ?_
          refine y_Vv0 (pc := 62) h dX12_readLine_62 lX12_249 (by decide) (by omega) rfl (fun a e => w_X12_readOnce _ a e) (fun m6 h => ?_)
          refine x_sub [] trivial ?_
          exact j65 _ h
        · replace h := wo_neg c8 h
          refine x_aload_n (pc := 54) dX12_readLine_54 rfl ?_
          refine y_Vv0 (pc := 55) h dX12_readLine_55 lX12_246 (by decide) (by omega) rfl (fun a e => w_X12_readWalk _ a e) (fun m7 h => ?_)
          refine x_goto (pc := 58) dX12_readLine_58 (tgt := 65) (by decide) ?_
          refine x_sub [] trivial ?_
          exact j65 _ h
      · replace h := wo_neg c10 h
        refine x_aload_n (pc := 38) dX12_readLine_38 rfl ?_
        refine y_Vv0 (pc := 39) h dX12_readLine_39 lX12_243 (by decide) (by omega) rfl (fun a e => w_X12_readWrong _ a e) (fun m9 h => ?_)
        refine x_goto (pc := 42) dX12_readLine_42 (tgt := 65) (by decide) ?_
        refine x_sub [] trivial ?_
        exact j65 _ h
    · replace h := wo_neg c12 h
      refine x_aload_n (pc := 23) dX12_readLine_23 rfl ?_
      refine y_Vv0 (pc := 24) h dX12_readLine_24 lX12_240 (by decide) (by omega) rfl (fun a e => w_X12_readLane _ a e) (fun m11 h => ?_)
      refine x_goto (pc := 27) dX12_readLine_27 (tgt := 65) (by decide) ?_
      refine x_sub [] trivial ?_
      exact j65 _ h
  · replace h := wo_neg c14 h
    refine x_aload_n (pc := 8) dX12_readLine_8 rfl ?_
    refine y_Vv0 (pc := 9) h dX12_readLine_9 lX12_237 (by decide) (by omega) rfl (fun a e => w_X12_readPerson _ a e) (fun m13 h => ?_)
    refine x_goto (pc := 12) dX12_readLine_12 (tgt := 65) (by decide) ?_
    refine x_sub [] trivial ?_
    exact j65 _ h
noncomputable def f_X12_rests_J203 (m6 : mi_M) (u7 : Int32) : Option (Int32 × mi_M) := some (u7, m6)
noncomputable def f_X12_rests_J178 (p2 : Int32) (mem : mi_M) (e3 : Int32) (e4 : Int32) (u5 : Int32) : Option (Int32 × mi_M) := mi_let (mi_wI mem 12 0 0 u5) fun m6 => if (m6.1 12 0 0) ≤ 0 then if 0 ≤ p2 then f_X12_rests_J203 m6 e4 else f_X12_rests_J203 m6 e3 else f_X12_rests_J203 m6 (0 : Int32)
noncomputable def f_X12_rests_J177 (p2 : Int32) (mem : mi_M) (e3 : Int32) (e4 : Int32) : Option (Int32 × mi_M) := f_X12_rests_J178 p2 mem e3 e4 (1 : Int32)
noncomputable def f_X12_rests_J173 (p2 : Int32) (mem : mi_M) (e3 : Int32) (e4 : Int32) : Option (Int32 × mi_M) := f_X12_rests_J178 p2 mem e3 e4 (0 : Int32)
noncomputable def f_X12_rests_J149 (l13 : Int32) (l15 : Int32) (u21 : Int32) (u22 : Int32) : Option ((Int32 × Int32 × Int32) ⊕ (Int32 × Int32)) := mi_let (l13 + u22) fun v23 => some (.inl (v23, u21, (l15 + (1 : Int32))))
noncomputable def f_X12_rests_J135 (l13 : Int32) (l15 : Int32) (u20 : Int32) (u21 : Int32) : Option ((Int32 × Int32 × Int32) ⊕ (Int32 × Int32)) := if u20 = 0 then f_X12_rests_J149 l13 l15 u21 (0 : Int32) else f_X12_rests_J149 l13 l15 u21 (1 : Int32)
noncomputable def f_X12_rests_J133 (l13 : Int32) (l14 : Int32) (l15 : Int32) (u20 : Int32) : Option ((Int32 × Int32 × Int32) ⊕ (Int32 × Int32)) := f_X12_rests_J135 l13 l15 u20 l14
noncomputable def f_X12_rests_J115 (p2 : Int32) (l13 : Int32) (l14 : Int32) (l15 : Int32) (u20 : Int32) : Option ((Int32 × Int32 × Int32) ⊕ (Int32 × Int32)) := if u20 = 0 then f_X12_rests_J133 l13 l14 l15 u20 else if l13 = p2 then f_X12_rests_J135 l13 l15 u20 l15 else f_X12_rests_J133 l13 l14 l15 u20
noncomputable def f_X12_rests_J114 (p2 : Int32) (l13 : Int32) (l14 : Int32) (l15 : Int32) : Option ((Int32 × Int32 × Int32) ⊕ (Int32 × Int32)) := f_X12_rests_J115 p2 l13 l14 l15 (0 : Int32)
noncomputable def f_X12_rests_B41 (p0 : Int32) (p1 : Int32) (p2 : Int32) (mem : mi_M) (u2 : Int32) : (Int32 × Int32 × Int32) → Option ((Int32 × Int32 × Int32) ⊕ (Int32 × Int32)) := fun s => match s with | (l13, l14, l15) => if (4 : Int32) ≤ l15 then some (.inr (l13, l14)) else if u2 = 0 then some (.inr (l13, l14)) else mi_let (l15 / (2 : Int32)) fun v16 => mi_let (l15 - l15 / (2 : Int32) * (2 : Int32)) fun v17 => mi_bo (f_X12_losesBy ((1 : Int32) - v16) v17 p0 p1 mem) fun v18 => mi_bo (f_X12_losesBy v16 v17 p0 p1 mem) fun v19 => if v18 < v19 then f_X12_rests_J114 p2 l13 l14 l15 else mi_bo (f_X12_losesBy ((1 : Int32) - v17) v16 p0 p1 mem) fun v27 => mi_bo (f_X12_losesBy v17 v16 p0 p1 mem) fun v28 => if v27 < v28 then f_X12_rests_J114 p2 l13 l14 l15 else f_X12_rests_J115 p2 l13 l14 l15 (1 : Int32)
noncomputable def f_X12_rests_K41 (p2 : Int32) (mem : mi_M) (u2 : Int32) : (Int32 × Int32) → Option (Int32 × mi_M) := fun e => match e with | (e3, e4) => if u2 = 0 then f_X12_rests_J177 p2 mem e3 e4 else if p2 < 0 then f_X12_rests_J173 p2 mem e3 e4 else if e4 < 0 then f_X12_rests_J177 p2 mem e3 e4 else f_X12_rests_J173 p2 mem e3 e4
noncomputable def f_X12_rests_J30 (p0 : Int32) (p1 : Int32) (p2 : Int32) (mem : mi_M) (u2 : Int32) : Option (Int32 × mi_M) := mi_bo (mi_lp (f_X12_rests_B41 p0 p1 p2 mem u2) mi_fu ((0 : Int32), (-1 : Int32), (0 : Int32))) (f_X12_rests_K41 p2 mem u2)
noncomputable def f_X12_rests_J29 (p0 : Int32) (p1 : Int32) (p2 : Int32) (mem : mi_M) : Option (Int32 × mi_M) := f_X12_rests_J30 p0 p1 p2 mem (0 : Int32)
noncomputable def f_X12_rests (p0 : Int32) (p1 : Int32) (p2 : Int32) (mem : mi_M) : Option (Int32 × mi_M) := mi_bo (f_X12_within p0 (0 : Int32) (9 : Int32) mem) fun v1 => if v1 = 0 then f_X12_rests_J29 p0 p1 p2 mem else mi_bo (f_X12_within p1 (0 : Int32) (9 : Int32) mem) fun v33 => if v33 = 0 then f_X12_rests_J29 p0 p1 p2 mem else if p2 < (-1 : Int32) then f_X12_rests_J29 p0 p1 p2 mem else f_X12_rests_J30 p0 p1 p2 mem (1 : Int32)
set_option maxRecDepth 100000 in
set_option maxHeartbeats 4000000 in
theorem w_X12_rests (p0 : Int32) (p1 : Int32) (p2 : Int32) (mem : mi_M) (a : Int32 × mi_M) (e : f_X12_rests p0 p1 p2 mem = some a) : mi_Ci (2) mX12_rests [vr 12 0, vi p0, vi p1, vi p2] mem (fun x m' => x = a.1 ∧ m' = a.2) := by
  unfold mi_Ci
  refine mi_C_intro (ls := [(0, vr 12 0), (1, vi p0), (2, vi p1), (3, vi p2)]) (by decide) rfl rfl ?_
  obtain ⟨Q0, hq0, h⟩ : ∃ Q0 : (Int32 × mi_M) → Prop, (∀ b, Q0 b → b = a) ∧ wo (f_X12_rests p0 p1 p2 mem) Q0 := ⟨fun b => b = a, fun _ h => h, wo_eq e⟩
  obtain ⟨QX, hQX⟩ : ∃ QX : Option mi_V → mi_M → Prop, QX = (fun r m' => ∃ x, r = some (vi x) ∧ x = a.1 ∧ m' = a.2) := ⟨_, rfl⟩
  rw [← hQX]
  unfold f_X12_rests at h
  refine x_iload_n (pc := 0) dX12_rests_0 rfl ?_
  refine x_iconst (pc := 1) dX12_rests_1 (v := (0 : Int32)) (by decide) ?_
  refine x_bipush (pc := 2) dX12_rests_2 (v := (9 : Int32)) (by decide) ?_
  refine z_Si3 (pc := 4) h dX12_rests_4 lX12_362 (by omega) rfl (fun a e => w_X12_within _ _ _ _ a e) (fun v1 h => ?_)
  have j30 : ∀ (u2 : Int32), wo (f_X12_rests_J30 p0 p1 p2 mem u2) Q0 → mi_X mX12_rests (2) 30 [(0, vr 12 0), (1, vi p0), (2, vi p1), (3, vi p2)] [vi u2] mem QX := by
    intro u2 h
    unfold f_X12_rests_J30 at h
    refine x_istore (ls' := [(4, _), (0, _), (1, _), (2, _), (3, _)]) (pc := 30) dX12_rests_30 rfl rfl ?_
    refine x_iconst (pc := 32) dX12_rests_32 (v := (0 : Int32)) (by decide) ?_
    refine x_istore (ls' := [(5, _), (4, _), (0, _), (1, _), (2, _), (3, _)]) (pc := 33) dX12_rests_33 rfl rfl ?_
    refine x_iconst (pc := 35) dX12_rests_35 (v := (-1 : Int32)) (by decide) ?_
    refine x_istore (ls' := [(6, _), (5, _), (4, _), (0, _), (1, _), (2, _), (3, _)]) (pc := 36) dX12_rests_36 rfl rfl ?_
    refine x_iconst (pc := 38) dX12_rests_38 (v := (0 : Int32)) (by decide) ?_
    refine x_istore (ls' := [(7, _), (6, _), (5, _), (4, _), (0, _), (1, _), (2, _), (3, _)]) (pc := 39) dX12_rests_39 rfl rfl ?_
    have k41_0 : ∀ (e3 : Int32) (e4 : Int32), wo (f_X12_rests_K41 p2 mem u2 (e3, e4)) Q0 → mi_X mX12_rests (2) 158 [(0, vr 12 0), (3, vi p2), (4, vi u2), (5, vi e3), (6, vi e4)] [] mem QX := by
      intro e3 e4 h
      unfold f_X12_rests_K41 at h
      try dsimp only at h
      refine x_aload_n (pc := 158) dX12_rests_158 rfl ?_
      refine x_iload (pc := 159) dX12_rests_159 rfl ?_
      have j178 : ∀ (u5 : Int32), wo (f_X12_rests_J178 p2 mem e3 e4 u5) Q0 → mi_X mX12_rests (2) 178 [(0, vr 12 0), (3, vi p2), (5, vi e3), (6, vi e4)] [vi u5, vr 12 0] mem QX := by
        intro u5 h
        unfold f_X12_rests_J178 at h
        refine x_putI (pc := 178) dX12_rests_178 fX12_1 rfl (by decide) rfl rfl ?_
        refine x_letm h (fun m6 h => ?_)
        refine x_aload_n (pc := 181) dX12_rests_181 rfl ?_
        refine x_getI (pc := 182) dX12_rests_182 fX12_1 rfl (by decide) ?_
        have j203 : ∀ (u7 : Int32), wo (f_X12_rests_J203 m6 u7) Q0 → mi_X mX12_rests (2) 203 [] [vi u7] m6 QX := by
          intro u7 h
          unfold f_X12_rests_J203 at h
          exact x_iret (pc := 203) dX12_rests_203 rfl (by rw [hQX]; exact ⟨_, rfl, congrArg Prod.fst (hq0 _ (wo_some h)), congrArg Prod.snd (hq0 _ (wo_some h))⟩)
        refine x_if_le (pc := 185) dX12_rests_185 (tgt := 192) (by decide) (fun c9 => ?_) (fun c9 => ?_)
        · replace h := wo_pos c9 h
          refine x_iload_n (pc := 192) dX12_rests_192 rfl ?_
          refine x_if_ge (pc := 193) dX12_rests_193 (tgt := 201) (by decide) (fun c8 => ?_) (fun c8 => ?_)
          · replace h := wo_pos c8 h
            refine x_iload (pc := 201) dX12_rests_201 rfl ?_
            refine x_sub [] trivial ?_
            exact j203 _ h
          · replace h := wo_neg c8 h
            refine x_iload (pc := 196) dX12_rests_196 rfl ?_
            refine x_goto (pc := 198) dX12_rests_198 (tgt := 203) (by decide) ?_
            refine x_sub [] trivial ?_
            exact j203 _ h
        · replace h := wo_neg c9 h
          refine x_iconst (pc := 188) dX12_rests_188 (v := (0 : Int32)) (by decide) ?_
          refine x_goto (pc := 189) dX12_rests_189 (tgt := 203) (by decide) ?_
          refine x_sub [] trivial ?_
          exact j203 _ h
      have j177 : wo (f_X12_rests_J177 p2 mem e3 e4) Q0 → mi_X mX12_rests (2) 177 [(0, vr 12 0), (3, vi p2), (5, vi e3), (6, vi e4)] [vr 12 0] mem QX := by
        intro h
        unfold f_X12_rests_J177 at h
        refine x_iconst (pc := 177) dX12_rests_177 (v := (1 : Int32)) (by decide) ?_
        refine x_sub [(0, _), (3, _), (5, _), (6, _)] ⟨rfl, rfl, rfl, rfl, trivial⟩ ?_
        exact j178 _ h
      refine x_if_eq (pc := 161) dX12_rests_161 (tgt := 177) (by decide) (fun c12 => ?_) (fun c12 => ?_)
      · replace h := wo_pos c12 h
        refine x_sub [(0, _), (3, _), (5, _), (6, _)] ⟨rfl, rfl, rfl, rfl, trivial⟩ ?_
        exact j177 h
      · replace h := wo_neg c12 h
        refine x_iload_n (pc := 164) dX12_rests_164 rfl ?_
        have j173 : wo (f_X12_rests_J173 p2 mem e3 e4) Q0 → mi_X mX12_rests (2) 173 [(0, vr 12 0), (3, vi p2), (5, vi e3), (6, vi e4)] [vr 12 0] mem QX := by
          intro h
          unfold f_X12_rests_J173 at h
          refine x_iconst (pc := 173) dX12_rests_173 (v := (0 : Int32)) (by decide) ?_
          refine x_goto (pc := 174) dX12_rests_174 (tgt := 178) (by decide) ?_
          refine x_sub [(0, _), (3, _), (5, _), (6, _)] ⟨rfl, rfl, rfl, rfl, trivial⟩ ?_
          exact j178 _ h
        refine x_if_lt (pc := 165) dX12_rests_165 (tgt := 173) (by decide) (fun c11 => ?_) (fun c11 => ?_)
        · replace h := wo_pos c11 h
          refine x_sub [(0, _), (3, _), (5, _), (6, _)] ⟨rfl, rfl, rfl, rfl, trivial⟩ ?_
          exact j173 h
        · replace h := wo_neg c11 h
          refine x_iload (pc := 168) dX12_rests_168 rfl ?_
          refine x_if_lt (pc := 170) dX12_rests_170 (tgt := 177) (by decide) (fun c10 => ?_) (fun c10 => ?_)
          · replace h := wo_pos c10 h
            refine x_sub [(0, _), (3, _), (5, _), (6, _)] ⟨rfl, rfl, rfl, rfl, trivial⟩ ?_
            exact j177 h
          · replace h := wo_neg c10 h
            refine x_sub [(0, _), (3, _), (5, _), (6, _)] ⟨rfl, rfl, rfl, rfl, trivial⟩ ?_
            exact j173 h
    refine x_sub [(0, _), (1, _), (2, _), (3, _), (4, _), (5, _), (6, _), (7, _)] ⟨rfl, rfl, rfl, rfl, rfl, rfl, rfl, rfl, trivial⟩ ?_
    obtain ⟨ea, eb, h⟩ := wo_bo h
    refine wo_lq (X := fun s => match s with | (l13, l14, l15) => mi_X mX12_rests (2) 41 [(0, vr 12 0), (1, vi p0), (2, vi p1), (3, vi p2), (4, vi u2), (5, vi l13), (6, vi l14), (7, vi l15)] [] mem QX) (E := fun e => wo (f_X12_rests_K41 p2 mem u2 e) Q0) ?_ _ ((0 : Int32), (-1 : Int32), (0 : Int32)) ⟨_, eb, h⟩
    intro Q41 hb41 he41 s h
    obtain ⟨l13, l14, l15⟩ := s
    show mi_X mX12_rests (2) 41 [(0, vr 12 0), (1, vi p0), (2, vi p1), (3, vi p2), (4, vi u2), (5, vi l13), (6, vi l14), (7, vi l15)] [] mem QX
    unfold f_X12_rests_B41 at h
    try dsimp only at h
    refine x_iload (pc := 41) dX12_rests_41 rfl ?_
    refine x_iconst (pc := 43) dX12_rests_43 (v := (4 : Int32)) (by decide) ?_
    refine x_icmp_ge (pc := 44) dX12_rests_44 (tgt := 158) (by decide) (fun c32 => ?_) (fun c32 => ?_)
    · replace h := wo_pos c32 h
      refine x_sub [(0, _), (3, _), (4, _), (5, _), (6, _)] ⟨rfl, rfl, rfl, rfl, rfl, trivial⟩ ?_
      exact k41_0 _ _ (he41 (l13, l14) (wo_some h))
    · replace h := wo_neg c32 h
      refine x_iload (pc := 47) dX12_rests_47 rfl ?_
      refine x_if_eq (pc := 49) dX12_rests_49 (tgt := 158) (by decide) (fun c31 => ?_) (fun c31 => ?_)
      · replace h := wo_pos c31 h
        refine x_sub [(0, _), (3, _), (4, _), (5, _), (6, _)] ⟨rfl, rfl, rfl, rfl, rfl, trivial⟩ ?_
        exact k41_0 _ _ (he41 (l13, l14) (wo_some h))
      · replace h := wo_neg c31 h
        refine x_iload (pc := 52) dX12_rests_52 rfl ?_
        refine x_iconst (pc := 54) dX12_rests_54 (v := (2 : Int32)) (by decide) ?_
        refine x_idiv (pc := 55) dX12_rests_55 (by decide) ?_
        refine x_leti h (fun v16 h => ?_)
        refine x_istore (ls' := [(8, _), (0, _), (1, _), (2, _), (3, _), (4, _), (5, _), (6, _), (7, _)]) (pc := 56) dX12_rests_56 rfl rfl ?_
        refine x_iload (pc := 58) dX12_rests_58 rfl ?_
        refine x_iconst (pc := 60) dX12_rests_60 (v := (2 : Int32)) (by decide) ?_
        refine x_irem (pc := 61) dX12_rests_61 (by decide) ?_
        refine x_leti h (fun v17 h => ?_)
        refine x_istore (ls' := [(9, _), (8, _), (0, _), (1, _), (2, _), (3, _), (4, _), (5, _), (6, _), (7, _)]) (pc := 62) dX12_rests_62 rfl rfl ?_
        refine x_iconst (pc := 64) dX12_rests_64 (v := (1 : Int32)) (by decide) ?_
        refine x_iload (pc := 65) dX12_rests_65 rfl ?_
        refine x_isub (pc := 67) dX12_rests_67 ?_
        refine x_iload (pc := 68) dX12_rests_68 rfl ?_
        refine x_iload_n (pc := 70) dX12_rests_70 rfl ?_
        refine x_iload_n (pc := 71) dX12_rests_71 rfl ?_
        refine z_Si4 (pc := 72) h dX12_rests_72 lX12_443 (by omega) rfl (fun a e => w_X12_losesBy _ _ _ _ _ a e) (fun v18 h => ?_)
        refine x_iload (pc := 75) dX12_rests_75 rfl ?_
        refine x_iload (pc := 77) dX12_rests_77 rfl ?_
        refine x_iload_n (pc := 79) dX12_rests_79 rfl ?_
        refine x_iload_n (pc := 80) dX12_rests_80 rfl ?_
        refine z_Si4 (pc := 81) h dX12_rests_81 lX12_443 (by omega) rfl (fun a e => w_X12_losesBy _ _ _ _ _ a e) (fun v19 h => ?_)
        have j115 : ∀ (u20 : Int32), wo (f_X12_rests_J115 p2 l13 l14 l15 u20) Q41 → mi_X mX12_rests (2) 115 [(0, vr 12 0), (1, vi p0), (2, vi p1), (3, vi p2), (4, vi u2), (5, vi l13), (6, vi l14), (7, vi l15)] [vi u20] mem QX := by
          intro u20 h
          unfold f_X12_rests_J115 at h
          refine x_istore (ls' := [(10, _), (0, _), (1, _), (2, _), (3, _), (4, _), (5, _), (6, _), (7, _)]) (pc := 115) dX12_rests_115 rfl rfl ?_
          refine x_iload (pc := 117) dX12_rests_117 rfl ?_
          have j135 : ∀ (u21 : Int32), wo (f_X12_rests_J135 l13 l15 u20 u21) Q41 → mi_X mX12_rests (2) 135 [(0, vr 12 0), (1, vi p0), (2, vi p1), (3, vi p2), (4, vi u2), (5, vi l13), (7, vi l15), (10, vi u20)] [vi u21] mem QX := by
            intro u21 h
            unfold f_X12_rests_J135 at h
            refine x_istore (ls' := [(6, _), (0, _), (1, _), (2, _), (3, _), (4, _), (5, _), (7, _), (10, _)]) (pc := 135) dX12_rests_135 rfl rfl ?_
            refine x_iload (pc := 137) dX12_rests_137 rfl ?_
            refine x_iload (pc := 139) dX12_rests_139 rfl ?_
            have j149 : ∀ (u22 : Int32), wo (f_X12_rests_J149 l13 l15 u21 u22) Q41 → mi_X mX12_rests (2) 149 [(0, vr 12 0), (1, vi p0), (2, vi p1), (3, vi p2), (4, vi u2), (6, vi u21), (7, vi l15)] [vi u22, vi l13] mem QX := by
              intro u22 h
              unfold f_X12_rests_J149 at h
              refine x_iadd (pc := 149) dX12_rests_149 ?_
              refine x_leti h (fun v23 h => ?_)
              refine x_istore (ls' := [(5, _), (0, _), (1, _), (2, _), (3, _), (4, _), (6, _), (7, _)]) (pc := 150) dX12_rests_150 rfl rfl ?_
              refine x_iinc (ls' := [(7, _), (5, _), (0, _), (1, _), (2, _), (3, _), (4, _), (6, _)]) (pc := 152) dX12_rests_152 rfl (v := l15 + (1 : Int32)) rfl rfl rfl ?_
              refine x_goto (pc := 155) dX12_rests_155 (tgt := 41) (by decide) ?_
              refine x_sub [(0, _), (1, _), (2, _), (3, _), (4, _), (5, _), (6, _), (7, _)] ⟨rfl, rfl, rfl, rfl, rfl, rfl, rfl, rfl, trivial⟩ ?_
              exact hb41 (v23, u21, (l15 + (1 : Int32))) (wo_some h)
            refine x_if_eq (pc := 141) dX12_rests_141 (tgt := 148) (by decide) (fun c24 => ?_) (fun c24 => ?_)
            · replace h := wo_pos c24 h
              refine x_iconst (pc := 148) dX12_rests_148 (v := (0 : Int32)) (by decide) ?_
              refine x_sub [(0, _), (1, _), (2, _), (3, _), (4, _), (6, _), (7, _)] ⟨rfl, rfl, rfl, rfl, rfl, rfl, rfl, trivial⟩ ?_
              exact j149 _ h
            · replace h := wo_neg c24 h
              refine x_iconst (pc := 144) dX12_rests_144 (v := (1 : Int32)) (by decide) ?_
              refine x_goto (pc := 145) dX12_rests_145 (tgt := 149) (by decide) ?_
              refine x_sub [(0, _), (1, _), (2, _), (3, _), (4, _), (6, _), (7, _)] ⟨rfl, rfl, rfl, rfl, rfl, rfl, rfl, trivial⟩ ?_
              exact j149 _ h
          have j133 : wo (f_X12_rests_J133 l13 l14 l15 u20) Q41 → mi_X mX12_rests (2) 133 [(0, vr 12 0), (1, vi p0), (2, vi p1), (3, vi p2), (4, vi u2), (5, vi l13), (6, vi l14), (7, vi l15), (10, vi u20)] [] mem QX := by
            intro h
            unfold f_X12_rests_J133 at h
            refine x_iload (pc := 133) dX12_rests_133 rfl ?_
            refine x_sub [(0, _), (1, _), (2, _), (3, _), (4, _), (5, _), (7, _), (10, _)] ⟨rfl, rfl, rfl, rfl, rfl, rfl, rfl, rfl, trivial⟩ ?_
            exact j135 _ h
          refine x_if_eq (pc := 119) dX12_rests_119 (tgt := 133) (by decide) (fun c26 => ?_) (fun c26 => ?_)
          · replace h := wo_pos c26 h
            refine x_sub [(0, _), (1, _), (2, _), (3, _), (4, _), (5, _), (6, _), (7, _), (10, _)] ⟨rfl, rfl, rfl, rfl, rfl, rfl, rfl, rfl, rfl, trivial⟩ ?_
            exact j133 h
          · replace h := wo_neg c26 h
            refine x_iload (pc := 122) dX12_rests_122 rfl ?_
            refine x_iload_n (pc := 124) dX12_rests_124 rfl ?_
            refine x_icmp_ne (pc := 125) dX12_rests_125 (tgt := 133) (by decide) (fun c25 => ?_) (fun c25 => ?_)
            · replace h := wo_neg c25 h
              refine x_sub [(0, _), (1, _), (2, _), (3, _), (4, _), (5, _), (6, _), (7, _), (10, _)] ⟨rfl, rfl, rfl, rfl, rfl, rfl, rfl, rfl, rfl, trivial⟩ ?_
              exact j133 h
            · replace h := wo_pos c25 h
              refine x_iload (pc := 128) dX12_rests_128 rfl ?_
              refine x_goto (pc := 130) dX12_rests_130 (tgt := 135) (by decide) ?_
              refine x_sub [(0, _), (1, _), (2, _), (3, _), (4, _), (5, _), (7, _), (10, _)] ⟨rfl, rfl, rfl, rfl, rfl, rfl, rfl, rfl, trivial⟩ ?_
              exact j135 _ h
        have j114 : wo (f_X12_rests_J114 p2 l13 l14 l15) Q41 → mi_X mX12_rests (2) 114 [(0, vr 12 0), (1, vi p0), (2, vi p1), (3, vi p2), (4, vi u2), (5, vi l13), (6, vi l14), (7, vi l15)] [] mem QX := by
          intro h
          unfold f_X12_rests_J114 at h
          refine x_iconst (pc := 114) dX12_rests_114 (v := (0 : Int32)) (by decide) ?_
          refine x_sub [(0, _), (1, _), (2, _), (3, _), (4, _), (5, _), (6, _), (7, _)] ⟨rfl, rfl, rfl, rfl, rfl, rfl, rfl, rfl, trivial⟩ ?_
          exact j115 _ h
        refine x_icmp_lt (pc := 84) dX12_rests_84 (tgt := 114) (by decide) (fun c30 => ?_) (fun c30 => ?_)
        · replace h := wo_pos c30 h
          refine x_sub [(0, _), (1, _), (2, _), (3, _), (4, _), (5, _), (6, _), (7, _)] ⟨rfl, rfl, rfl, rfl, rfl, rfl, rfl, rfl, trivial⟩ ?_
          exact j114 h
        · replace h := wo_neg c30 h
          refine x_iconst (pc := 87) dX12_rests_87 (v := (1 : Int32)) (by decide) ?_
          refine x_iload (pc := 88) dX12_rests_88 rfl ?_
          refine x_isub (pc := 90) dX12_rests_90 ?_
          refine x_iload (pc := 91) dX12_rests_91 rfl ?_
          refine x_iload_n (pc := 93) dX12_rests_93 rfl ?_
          refine x_iload_n (pc := 94) dX12_rests_94 rfl ?_
          refine z_Si4 (pc := 95) h dX12_rests_95 lX12_443 (by omega) rfl (fun a e => w_X12_losesBy _ _ _ _ _ a e) (fun v27 h => ?_)
          refine x_iload (pc := 98) dX12_rests_98 rfl ?_
          refine x_iload (pc := 100) dX12_rests_100 rfl ?_
          refine x_iload_n (pc := 102) dX12_rests_102 rfl ?_
          refine x_iload_n (pc := 103) dX12_rests_103 rfl ?_
          refine z_Si4 (pc := 104) h dX12_rests_104 lX12_443 (by omega) rfl (fun a e => w_X12_losesBy _ _ _ _ _ a e) (fun v28 h => ?_)
          refine x_icmp_lt (pc := 107) dX12_rests_107 (tgt := 114) (by decide) (fun c29 => ?_) (fun c29 => ?_)
          · replace h := wo_pos c29 h
            refine x_sub [(0, _), (1, _), (2, _), (3, _), (4, _), (5, _), (6, _), (7, _)] ⟨rfl, rfl, rfl, rfl, rfl, rfl, rfl, rfl, trivial⟩ ?_
            exact j114 h
          · replace h := wo_neg c29 h
            refine x_iconst (pc := 110) dX12_rests_110 (v := (1 : Int32)) (by decide) ?_
            refine x_goto (pc := 111) dX12_rests_111 (tgt := 115) (by decide) ?_
            refine x_sub [(0, _), (1, _), (2, _), (3, _), (4, _), (5, _), (6, _), (7, _)] ⟨rfl, rfl, rfl, rfl, rfl, rfl, rfl, rfl, trivial⟩ ?_
            exact j115 _ h
  have j29 : wo (f_X12_rests_J29 p0 p1 p2 mem) Q0 → mi_X mX12_rests (2) 29 [(0, vr 12 0), (1, vi p0), (2, vi p1), (3, vi p2)] [] mem QX := by
    intro h
    unfold f_X12_rests_J29 at h
    refine x_iconst (pc := 29) dX12_rests_29 (v := (0 : Int32)) (by decide) ?_
    refine x_sub [(0, _), (1, _), (2, _), (3, _)] ⟨rfl, rfl, rfl, rfl, trivial⟩ ?_
    exact j30 _ h
  refine x_if_eq (pc := 7) dX12_rests_7 (tgt := 29) (by decide) (fun c36 => ?_) (fun c36 => ?_)
  · replace h := wo_pos c36 h
    refine x_sub [(0, _), (1, _), (2, _), (3, _)] ⟨rfl, rfl, rfl, rfl, trivial⟩ ?_
    exact j29 h
  · replace h := wo_neg c36 h
    refine x_iload_n (pc := 10) dX12_rests_10 rfl ?_
    refine x_iconst (pc := 11) dX12_rests_11 (v := (0 : Int32)) (by decide) ?_
    refine x_bipush (pc := 12) dX12_rests_12 (v := (9 : Int32)) (by decide) ?_
    refine z_Si3 (pc := 14) h dX12_rests_14 lX12_362 (by omega) rfl (fun a e => w_X12_within _ _ _ _ a e) (fun v33 h => ?_)
    refine x_if_eq (pc := 17) dX12_rests_17 (tgt := 29) (by decide) (fun c35 => ?_) (fun c35 => ?_)
    · replace h := wo_pos c35 h
      refine x_sub [(0, _), (1, _), (2, _), (3, _)] ⟨rfl, rfl, rfl, rfl, trivial⟩ ?_
      exact j29 h
    · replace h := wo_neg c35 h
      refine x_iload_n (pc := 20) dX12_rests_20 rfl ?_
      refine x_iconst (pc := 21) dX12_rests_21 (v := (-1 : Int32)) (by decide) ?_
      refine x_icmp_lt (pc := 22) dX12_rests_22 (tgt := 29) (by decide) (fun c34 => ?_) (fun c34 => ?_)
      · replace h := wo_pos c34 h
        refine x_sub [(0, _), (1, _), (2, _), (3, _)] ⟨rfl, rfl, rfl, rfl, trivial⟩ ?_
        exact j29 h
      · replace h := wo_neg c34 h
        refine x_iconst (pc := 25) dX12_rests_25 (v := (1 : Int32)) (by decide) ?_
        refine x_goto (pc := 26) dX12_rests_26 (tgt := 30) (by decide) ?_
        refine x_sub [(0, _), (1, _), (2, _), (3, _)] ⟨rfl, rfl, rfl, rfl, trivial⟩ ?_
        exact j30 _ h
noncomputable def f_X12_ripe_B28 (p0 : Int32) : (Int32 × mi_M) → Option ((Int32 × mi_M) ⊕ ((Int32 × mi_M) ⊕ mi_M)) := fun s => match s with | (l7, m8) => if (60 : Int32) < l7 then some (.inr (.inr m8)) else mi_bo (f_X12_isRipe (1323 : Int32) p0 m8) fun v9 => if v9 = 0 then mi_b (f_X12_passes (1323 : Int32) m8) fun v10 m11 => some (.inl ((l7 + (1 : Int32)), m11)) else some (.inr (.inl (l7, m8)))
noncomputable def f_X12_ripe_K28 : ((Int32 × mi_M) ⊕ mi_M) → Option (Int32 × mi_M) := fun e => match e with | (.inl (e4, m5)) => some (e4, m5) | (.inr m6) => some ((-1 : Int32), m6)
noncomputable def f_X12_ripe (p0 : Int32) (mem : mi_M) : Option (Int32 × mi_M) := mi_let (mi_wI mem 12 0 0 (0 : Int32)) fun m1 => mi_bo (f_X12_isOpen (0 : Int32) p0 m1) fun v2 => if v2 = 0 then some ((-1 : Int32), m1) else mi_bo (f_X12_copies (0 : Int32) (1323 : Int32) (38 : Int32) m1) fun m3 => mi_bo (mi_lp (f_X12_ripe_B28 p0) mi_fu ((0 : Int32), m3)) (f_X12_ripe_K28)
set_option maxRecDepth 100000 in
set_option maxHeartbeats 4000000 in
theorem w_X12_ripe (p0 : Int32) (mem : mi_M) (a : Int32 × mi_M) (e : f_X12_ripe p0 mem = some a) : mi_Ci (5) mX12_ripe [vr 12 0, vi p0] mem (fun x m' => x = a.1 ∧ m' = a.2) := by
  unfold mi_Ci
  refine mi_C_intro (ls := [(0, vr 12 0), (1, vi p0)]) (by decide) rfl rfl ?_
  obtain ⟨Q0, hq0, h⟩ : ∃ Q0 : (Int32 × mi_M) → Prop, (∀ b, Q0 b → b = a) ∧ wo (f_X12_ripe p0 mem) Q0 := ⟨fun b => b = a, fun _ h => h, wo_eq e⟩
  obtain ⟨QX, hQX⟩ : ∃ QX : Option mi_V → mi_M → Prop, QX = (fun r m' => ∃ x, r = some (vi x) ∧ x = a.1 ∧ m' = a.2) := ⟨_, rfl⟩
  rw [← hQX]
  unfold f_X12_ripe at h
  refine x_aload_n (pc := 0) dX12_ripe_0 rfl ?_
  refine x_iconst (pc := 1) dX12_ripe_1 (v := (0 : Int32)) (by decide) ?_
  refine x_putI (pc := 2) dX12_ripe_2 fX12_1 rfl (by decide) rfl rfl ?_
  refine x_letm h (fun m1 h => ?_)
  refine x_aload_n (pc := 5) dX12_ripe_5 rfl ?_
  refine x_iconst (pc := 6) dX12_ripe_6 (v := (0 : Int32)) (by decide) ?_
  refine x_iload_n (pc := 7) dX12_ripe_7 rfl ?_
  refine z_Vi2 (pc := 8) h dX12_ripe_8 lX12_319 (by decide) (by omega) rfl (fun a e => w_X12_isOpen _ _ _ a e) (fun v2 h => ?_)
  refine x_if_ne (pc := 11) dX12_ripe_11 (tgt := 16) (by decide) (fun c14 => ?_) (fun c14 => ?_)
  · replace h := wo_neg c14 h
    refine x_aload_n (pc := 16) dX12_ripe_16 rfl ?_
    refine x_iconst (pc := 17) dX12_ripe_17 (v := (0 : Int32)) (by decide) ?_
    refine x_sipush (pc := 18) dX12_ripe_18 (v := (1323 : Int32)) (by decide) ?_
    refine x_bipush (pc := 21) dX12_ripe_21 (v := (38 : Int32)) (by decide) ?_
    refine y_Vv3 (pc := 23) h dX12_ripe_23 lX12_309 (by decide) (by omega) rfl (fun a e => w_X12_copies _ _ _ _ a e) (fun m3 h => ?_)
    refine x_iconst (pc := 26) dX12_ripe_26 (v := (0 : Int32)) (by decide) ?_
    refine x_istore_n (ls' := [(2, _), (0, _), (1, _)]) (pc := 27) dX12_ripe_27 rfl rfl rfl ?_
    have k28_0 : ∀ (e4 : Int32) (m5 : mi_M), wo (f_X12_ripe_K28 (.inl (e4, m5))) Q0 → mi_X mX12_ripe (5) 45 [(2, vi e4)] [] m5 QX := by
      intro e4 m5 h
      unfold f_X12_ripe_K28 at h
      try dsimp only at h
      refine x_iload_n (pc := 45) dX12_ripe_45 rfl ?_
      exact x_iret (pc := 46) dX12_ripe_46 rfl (by rw [hQX]; exact ⟨_, rfl, congrArg Prod.fst (hq0 _ (wo_some h)), congrArg Prod.snd (hq0 _ (wo_some h))⟩)
    have k28_1 : ∀ (m6 : mi_M), wo (f_X12_ripe_K28 (.inr m6)) Q0 → mi_X mX12_ripe (5) 61 [] [] m6 QX := by
      intro m6 h
      unfold f_X12_ripe_K28 at h
      try dsimp only at h
      refine x_iconst (pc := 61) dX12_ripe_61 (v := (-1 : Int32)) (by decide) ?_
      exact x_iret (pc := 62) dX12_ripe_62 rfl (by rw [hQX]; exact ⟨_, rfl, congrArg Prod.fst (hq0 _ (wo_some h)), congrArg Prod.snd (hq0 _ (wo_some h))⟩)
    refine x_sub [(0, _), (1, _), (2, _)] ⟨rfl, rfl, rfl, trivial⟩ ?_
    obtain ⟨ea, eb, h⟩ := wo_bo h
    refine wo_lq (X := fun s => match s with | (l7, m8) => mi_X mX12_ripe (5) 28 [(0, vr 12 0), (1, vi p0), (2, vi l7)] [] m8 QX) (E := fun e => wo (f_X12_ripe_K28 e) Q0) ?_ _ ((0 : Int32), m3) ⟨_, eb, h⟩
    intro Q28 hb28 he28 s h
    obtain ⟨l7, m8⟩ := s
    show mi_X mX12_ripe (5) 28 [(0, vr 12 0), (1, vi p0), (2, vi l7)] [] m8 QX
    unfold f_X12_ripe_B28 at h
    try dsimp only at h
    refine x_iload_n (pc := 28) dX12_ripe_28 rfl ?_
    refine x_bipush (pc := 29) dX12_ripe_29 (v := (60 : Int32)) (by decide) ?_
    refine x_icmp_gt (pc := 31) dX12_ripe_31 (tgt := 61) (by decide) (fun c13 => ?_) (fun c13 => ?_)
    · replace h := wo_pos c13 h
      refine x_sub [] trivial ?_
      exact k28_1 _ (he28 (.inr m8) (wo_some h))
    · replace h := wo_neg c13 h
      refine x_aload_n (pc := 34) dX12_ripe_34 rfl ?_
      refine x_sipush (pc := 35) dX12_ripe_35 (v := (1323 : Int32)) (by decide) ?_
      refine x_iload_n (pc := 38) dX12_ripe_38 rfl ?_
      refine z_Vi2 (pc := 39) h dX12_ripe_39 lX12_336 (by decide) (by omega) rfl (fun a e => w_X12_isRipe _ _ _ a e) (fun v9 h => ?_)
      refine x_if_eq (pc := 42) dX12_ripe_42 (tgt := 47) (by decide) (fun c12 => ?_) (fun c12 => ?_)
      · replace h := wo_pos c12 h
        refine x_aload_n (pc := 47) dX12_ripe_47 rfl ?_
        refine x_sipush (pc := 48) dX12_ripe_48 (v := (1323 : Int32)) (by decide) ?_
        refine y_Vi1 (pc := 51) h dX12_ripe_51 lX12_386 (by decide) (by omega) rfl (fun a e => w_X12_passes _ _ a e) (fun v10 m11 h => ?_)
        refine x_pop (pc := 54) dX12_ripe_54 rfl ?_
        refine x_iinc (ls' := [(2, _), (0, _), (1, _)]) (pc := 55) dX12_ripe_55 rfl (v := l7 + (1 : Int32)) rfl rfl rfl ?_
        refine x_goto (pc := 58) dX12_ripe_58 (tgt := 28) (by decide) ?_
        refine x_sub [(0, _), (1, _), (2, _)] ⟨rfl, rfl, rfl, trivial⟩ ?_
        exact hb28 ((l7 + (1 : Int32)), m11) (wo_some h)
      · replace h := wo_neg c12 h
        refine x_sub [(2, _)] ⟨rfl, trivial⟩ ?_
        exact k28_0 _ _ (he28 (.inl (l7, m8)) (wo_some h))
  · replace h := wo_pos c14 h
    refine x_iconst (pc := 14) dX12_ripe_14 (v := (-1 : Int32)) (by decide) ?_
    exact x_iret (pc := 15) dX12_ripe_15 rfl (by rw [hQX]; exact ⟨_, rfl, congrArg Prod.fst (hq0 _ (wo_some h)), congrArg Prod.snd (hq0 _ (wo_some h))⟩)
noncomputable def f_X12_rounds_J171 (l5 : Int32) (m10 : mi_M) : Option ((Int32 × mi_M) ⊕ (mi_M)) := some (.inl ((l5 + (1 : Int32)), m10))
noncomputable def f_X12_rounds_B94 (rc : (Int32 → Int32 → Int32 → Int32 → Int32 → mi_M → Option (mi_M))) (p0 : Int32) (p1 : Int32) (p2 : Int32) (p3 : Int32) (p4 : Int32) : (Int32 × mi_M) → Option ((Int32 × mi_M) ⊕ (mi_M)) := fun s => match s with | (l5, m6) => mi_bo (f_X12_people m6) fun v7 => if v7 ≤ l5 then some (.inr m6) else mi_g (vp_in (((6 : Int32) * p0) + l5) 36) (mi_let (p2 + (m6.1 72 0 (((6 : Int32) * p0) + l5).toNatClampNeg)) fun v9 => if ((p1 >>> (l5 &&& 31)) &&& (1 : Int32)) = 0 then mi_g (vp_in l5 6) (if (m6.1 73 0 l5.toNatClampNeg) ≤ 0 then f_X12_rounds_J171 l5 m6 else if p4 < v9 then f_X12_rounds_J171 l5 m6 else mi_g (vp_in l5 6) (mi_bo (rc l5 (p1 ||| ((1 : Int32) <<< (l5 &&& 31))) v9 (p3 + (m6.1 73 0 l5.toNatClampNeg)) p4 m6) fun m13 => f_X12_rounds_J171 l5 m13)) else f_X12_rounds_J171 l5 m6)
noncomputable def f_X12_rounds_K94 : mi_M → Option (mi_M) := fun m4 => some m4
noncomputable def f_X12_rounds_J91 (rc : (Int32 → Int32 → Int32 → Int32 → Int32 → mi_M → Option (mi_M))) (p0 : Int32) (p1 : Int32) (p2 : Int32) (p3 : Int32) (p4 : Int32) (m3 : mi_M) : Option (mi_M) := mi_bo (mi_lp (f_X12_rounds_B94 rc p0 p1 p2 p3 p4) mi_fu ((0 : Int32), m3)) (f_X12_rounds_K94)
noncomputable def f_X12_rounds_J68 (rc : (Int32 → Int32 → Int32 → Int32 → Int32 → mi_M → Option (mi_M))) (p0 : Int32) (p1 : Int32) (p2 : Int32) (p3 : Int32) (p4 : Int32) (mem : mi_M) (u2 : Int32) : Option (mi_M) := if u2 = 0 then f_X12_rounds_J91 rc p0 p1 p2 p3 p4 mem else mi_let (mi_wI mem 12 0 34 p3) fun m18 => mi_let (mi_wI m18 12 0 35 p2) fun m19 => mi_let (mi_wI m19 12 0 36 p1) fun m20 => f_X12_rounds_J91 rc p0 p1 p2 p3 p4 m20
noncomputable def f_X12_rounds_J63 (rc : (Int32 → Int32 → Int32 → Int32 → Int32 → mi_M → Option (mi_M))) (p0 : Int32) (p1 : Int32) (p2 : Int32) (p3 : Int32) (p4 : Int32) (mem : mi_M) : Option (mi_M) := f_X12_rounds_J68 rc p0 p1 p2 p3 p4 mem (1 : Int32)
noncomputable def f_X12_rounds_J67 (rc : (Int32 → Int32 → Int32 → Int32 → Int32 → mi_M → Option (mi_M))) (p0 : Int32) (p1 : Int32) (p2 : Int32) (p3 : Int32) (p4 : Int32) (mem : mi_M) : Option (mi_M) := f_X12_rounds_J68 rc p0 p1 p2 p3 p4 mem (0 : Int32)
noncomputable def f_X12_rounds_J31 (rc : (Int32 → Int32 → Int32 → Int32 → Int32 → mi_M → Option (mi_M))) (p0 : Int32) (p1 : Int32) (p2 : Int32) (p3 : Int32) (p4 : Int32) (mem : mi_M) (u1 : Int32) : Option (mi_M) := if u1 = 0 then if p3 = (mem.1 12 0 34) then if p2 = (mem.1 12 0 35) then if (mem.1 12 0 36) ≤ p1 then f_X12_rounds_J67 rc p0 p1 p2 p3 p4 mem else f_X12_rounds_J63 rc p0 p1 p2 p3 p4 mem else f_X12_rounds_J67 rc p0 p1 p2 p3 p4 mem else f_X12_rounds_J67 rc p0 p1 p2 p3 p4 mem else f_X12_rounds_J63 rc p0 p1 p2 p3 p4 mem
noncomputable def f_X12_rounds_J26 (rc : (Int32 → Int32 → Int32 → Int32 → Int32 → mi_M → Option (mi_M))) (p0 : Int32) (p1 : Int32) (p2 : Int32) (p3 : Int32) (p4 : Int32) (mem : mi_M) : Option (mi_M) := f_X12_rounds_J31 rc p0 p1 p2 p3 p4 mem (1 : Int32)
noncomputable def f_X12_rounds_J30 (rc : (Int32 → Int32 → Int32 → Int32 → Int32 → mi_M → Option (mi_M))) (p0 : Int32) (p1 : Int32) (p2 : Int32) (p3 : Int32) (p4 : Int32) (mem : mi_M) : Option (mi_M) := f_X12_rounds_J31 rc p0 p1 p2 p3 p4 mem (0 : Int32)
noncomputable def f_X12_rounds_ (rc : (Int32 → Int32 → Int32 → Int32 → Int32 → mi_M → Option (mi_M))) (p0 : Int32) (p1 : Int32) (p2 : Int32) (p3 : Int32) (p4 : Int32) (mem : mi_M) : Option (mi_M) := if (mem.1 12 0 34) < p3 then f_X12_rounds_J26 rc p0 p1 p2 p3 p4 mem else if p3 = (mem.1 12 0 34) then if (mem.1 12 0 35) ≤ p2 then f_X12_rounds_J30 rc p0 p1 p2 p3 p4 mem else f_X12_rounds_J26 rc p0 p1 p2 p3 p4 mem else f_X12_rounds_J30 rc p0 p1 p2 p3 p4 mem
set_option maxRecDepth 100000 in
set_option maxHeartbeats 4000000 in
theorem w_X12_rounds_ (n : Nat) (rc : (Int32 → Int32 → Int32 → Int32 → Int32 → mi_M → Option (mi_M))) (H0 : ∀ (p0 : Int32) (p1 : Int32) (p2 : Int32) (p3 : Int32) (p4 : Int32) (mem : mi_M) (a : mi_M), rc p0 p1 p2 p3 p4 mem = some a → mi_Cv (2 + n) mX12_rounds [vr 12 0, vi p0, vi p1, vi p2, vi p3, vi p4] mem (fun m' => m' = a)) (p0 : Int32) (p1 : Int32) (p2 : Int32) (p3 : Int32) (p4 : Int32) (mem : mi_M) (a : mi_M) (e : f_X12_rounds_ rc p0 p1 p2 p3 p4 mem = some a) : mi_Cv (2 + (n + 1)) mX12_rounds [vr 12 0, vi p0, vi p1, vi p2, vi p3, vi p4] mem (fun m' => m' = a) := by
  unfold mi_Cv
  refine mi_C_intro (ls := [(0, vr 12 0), (1, vi p0), (2, vi p1), (3, vi p2), (4, vi p3), (5, vi p4)]) (by decide) rfl rfl ?_
  obtain ⟨Q0, hq0, h⟩ : ∃ Q0 : mi_M → Prop, (∀ b, Q0 b → b = a) ∧ wo (f_X12_rounds_ rc p0 p1 p2 p3 p4 mem) Q0 := ⟨fun b => b = a, fun _ h => h, wo_eq e⟩
  obtain ⟨QX, hQX⟩ : ∃ QX : Option mi_V → mi_M → Prop, QX = (fun r m' => r = none ∧ m' = a) := ⟨_, rfl⟩
  rw [← hQX]
  unfold f_X12_rounds_ at h
  refine x_iload (pc := 0) dX12_rounds_0 rfl ?_
  refine x_aload_n (pc := 2) dX12_rounds_2 rfl ?_
  refine x_getI (pc := 3) dX12_rounds_3 fX12_413 rfl (by decide) ?_
  have j31 : ∀ (u1 : Int32), wo (f_X12_rounds_J31 rc p0 p1 p2 p3 p4 mem u1) Q0 → mi_X mX12_rounds (2 + (n + 1)) 31 [(0, vr 12 0), (1, vi p0), (2, vi p1), (3, vi p2), (4, vi p3), (5, vi p4)] [vi u1] mem QX := by
    intro u1 h
    unfold f_X12_rounds_J31 at h
    refine x_istore (ls' := [(6, _), (0, _), (1, _), (2, _), (3, _), (4, _), (5, _)]) (pc := 31) dX12_rounds_31 rfl rfl ?_
    refine x_iload (pc := 33) dX12_rounds_33 rfl ?_
    have j68 : ∀ (u2 : Int32), wo (f_X12_rounds_J68 rc p0 p1 p2 p3 p4 mem u2) Q0 → mi_X mX12_rounds (2 + (n + 1)) 68 [(0, vr 12 0), (1, vi p0), (2, vi p1), (3, vi p2), (4, vi p3), (5, vi p4)] [vi u2] mem QX := by
      intro u2 h
      unfold f_X12_rounds_J68 at h
      refine x_istore (ls' := [(6, _), (0, _), (1, _), (2, _), (3, _), (4, _), (5, _)]) (pc := 68) dX12_rounds_68 rfl rfl ?_
      refine x_iload (pc := 70) dX12_rounds_70 rfl ?_
      have j91 : ∀ (m3 : mi_M), wo (f_X12_rounds_J91 rc p0 p1 p2 p3 p4 m3) Q0 → mi_X mX12_rounds (2 + (n + 1)) 91 [(0, vr 12 0), (1, vi p0), (2, vi p1), (3, vi p2), (4, vi p3), (5, vi p4)] [] m3 QX := by
        intro m3 h
        unfold f_X12_rounds_J91 at h
        refine x_iconst (pc := 91) dX12_rounds_91 (v := (0 : Int32)) (by decide) ?_
        refine x_istore (ls' := [(7, _), (0, _), (1, _), (2, _), (3, _), (4, _), (5, _)]) (pc := 92) dX12_rounds_92 rfl rfl ?_
        have k94_0 : ∀ (m4 : mi_M), wo (f_X12_rounds_K94 m4) Q0 → mi_X mX12_rounds (2 + (n + 1)) 177 [] [] m4 QX := by
          intro m4 h
          unfold f_X12_rounds_K94 at h
          try dsimp only at h
          exact x_ret (pc := 177) dX12_rounds_177 rfl (by rw [hQX]; exact ⟨rfl, hq0 _ (wo_some h)⟩)
        refine x_sub [(0, _), (1, _), (2, _), (3, _), (4, _), (5, _), (7, _)] ⟨rfl, rfl, rfl, rfl, rfl, rfl, rfl, trivial⟩ ?_
        obtain ⟨ea, eb, h⟩ := wo_bo h
        refine wo_lq (X := fun s => match s with | (l5, m6) => mi_X mX12_rounds (2 + (n + 1)) 94 [(0, vr 12 0), (1, vi p0), (2, vi p1), (3, vi p2), (4, vi p3), (5, vi p4), (7, vi l5)] [] m6 QX) (E := fun e => wo (f_X12_rounds_K94 e) Q0) ?_ _ ((0 : Int32), m3) ⟨_, eb, h⟩
        intro Q94 hb94 he94 s h
        obtain ⟨l5, m6⟩ := s
        show mi_X mX12_rounds (2 + (n + 1)) 94 [(0, vr 12 0), (1, vi p0), (2, vi p1), (3, vi p2), (4, vi p3), (5, vi p4), (7, vi l5)] [] m6 QX
        unfold f_X12_rounds_B94 at h
        try dsimp only at h
        refine x_iload (pc := 94) dX12_rounds_94 rfl ?_
        refine x_aload_n (pc := 96) dX12_rounds_96 rfl ?_
        refine z_Vi0 (pc := 97) h dX12_rounds_97 lX12_294 (by decide) (by omega) rfl (fun a e => w_X12_people _ a e) (fun v7 h => ?_)
        refine x_icmp_ge (pc := 100) dX12_rounds_100 (tgt := 177) (by decide) (fun c17 => ?_) (fun c17 => ?_)
        · replace h := wo_pos c17 h
          refine x_sub [] trivial ?_
          exact k94_0 _ (he94 m6 (wo_some h))
        · replace h := wo_neg c17 h
          refine x_iload_n (pc := 103) dX12_rounds_103 rfl ?_
          refine x_aload_n (pc := 104) dX12_rounds_104 rfl ?_
          refine x_getS (pc := 105) dX12_rounds_105 fX12_138 rfl (by decide) ?_
          refine x_bipush (pc := 108) dX12_rounds_108 (v := (6 : Int32)) (by decide) ?_
          refine x_iload_n (pc := 110) dX12_rounds_110 rfl ?_
          refine x_imul (pc := 111) dX12_rounds_111 ?_
          refine x_iload (pc := 112) dX12_rounds_112 rfl ?_
          refine x_iadd (pc := 114) dX12_rounds_114 ?_
          obtain ⟨hx8, h⟩ := wo_g h
          refine x_ialdJ (pc := 115) dX12_rounds_115 rfl rfl (by decide) hx8 ?_
          refine x_iadd (pc := 116) dX12_rounds_116 ?_
          refine x_leti h (fun v9 h => ?_)
          refine x_istore (ls' := [(8, _), (0, _), (1, _), (2, _), (3, _), (4, _), (5, _), (7, _)]) (pc := 117) dX12_rounds_117 rfl rfl ?_
          refine x_iload_n (pc := 119) dX12_rounds_119 rfl ?_
          refine x_iload (pc := 120) dX12_rounds_120 rfl ?_
          refine x_ishr (pc := 122) dX12_rounds_122 ?_
          refine x_iconst (pc := 123) dX12_rounds_123 (v := (1 : Int32)) (by decide) ?_
          refine x_iand (pc := 124) dX12_rounds_124 ?_
          have j171 : ∀ (m10 : mi_M), wo (f_X12_rounds_J171 l5 m10) Q94 → mi_X mX12_rounds (2 + (n + 1)) 171 [(0, vr 12 0), (1, vi p0), (2, vi p1), (3, vi p2), (4, vi p3), (5, vi p4), (7, vi l5)] [] m10 QX := by
            intro m10 h
            unfold f_X12_rounds_J171 at h
            refine x_iinc (ls' := [(7, _), (0, _), (1, _), (2, _), (3, _), (4, _), (5, _)]) (pc := 171) dX12_rounds_171 rfl (v := l5 + (1 : Int32)) rfl rfl rfl ?_
            refine x_goto (pc := 174) dX12_rounds_174 (tgt := 94) (by decide) ?_
            refine x_sub [(0, _), (1, _), (2, _), (3, _), (4, _), (5, _), (7, _)] ⟨rfl, rfl, rfl, rfl, rfl, rfl, rfl, trivial⟩ ?_
            exact hb94 ((l5 + (1 : Int32)), m10) (wo_some h)
          refine x_if_ne (pc := 125) dX12_rounds_125 (tgt := 171) (by decide) (fun c16 => ?_) (fun c16 => ?_)
          · replace h := wo_neg c16 h
            refine x_sub [(0, _), (1, _), (2, _), (3, _), (4, _), (5, _), (7, _)] ⟨rfl, rfl, rfl, rfl, rfl, rfl, rfl, trivial⟩ ?_
            exact j171 _ h
          · replace h := wo_pos c16 h
            refine x_aload_n (pc := 128) dX12_rounds_128 rfl ?_
            refine x_getS (pc := 129) dX12_rounds_129 fX12_141 rfl (by decide) ?_
            refine x_iload (pc := 132) dX12_rounds_132 rfl ?_
            obtain ⟨hx11, h⟩ := wo_g h
            refine x_ialdJ (pc := 134) dX12_rounds_134 rfl rfl (by decide) hx11 ?_
            refine x_if_le (pc := 135) dX12_rounds_135 (tgt := 171) (by decide) (fun c15 => ?_) (fun c15 => ?_)
            · replace h := wo_pos c15 h
              refine x_sub [(0, _), (1, _), (2, _), (3, _), (4, _), (5, _), (7, _)] ⟨rfl, rfl, rfl, rfl, rfl, rfl, rfl, trivial⟩ ?_
              exact j171 _ h
            · replace h := wo_neg c15 h
              refine x_iload (pc := 138) dX12_rounds_138 rfl ?_
              refine x_iload (pc := 140) dX12_rounds_140 rfl ?_
              refine x_icmp_gt (pc := 142) dX12_rounds_142 (tgt := 171) (by decide) (fun c14 => ?_) (fun c14 => ?_)
              · replace h := wo_pos c14 h
                refine x_sub [(0, _), (1, _), (2, _), (3, _), (4, _), (5, _), (7, _)] ⟨rfl, rfl, rfl, rfl, rfl, rfl, rfl, trivial⟩ ?_
                exact j171 _ h
              · replace h := wo_neg c14 h
                refine x_aload_n (pc := 145) dX12_rounds_145 rfl ?_
                refine x_iload (pc := 146) dX12_rounds_146 rfl ?_
                refine x_iload_n (pc := 148) dX12_rounds_148 rfl ?_
                refine x_iconst (pc := 149) dX12_rounds_149 (v := (1 : Int32)) (by decide) ?_
                refine x_iload (pc := 150) dX12_rounds_150 rfl ?_
                refine x_ishl (pc := 152) dX12_rounds_152 ?_
                refine x_ior (pc := 153) dX12_rounds_153 ?_
                refine x_iload (pc := 154) dX12_rounds_154 rfl ?_
                refine x_iload (pc := 156) dX12_rounds_156 rfl ?_
                refine x_aload_n (pc := 158) dX12_rounds_158 rfl ?_
                refine x_getS (pc := 159) dX12_rounds_159 fX12_141 rfl (by decide) ?_
                refine x_iload (pc := 162) dX12_rounds_162 rfl ?_
                obtain ⟨hx12, h⟩ := wo_g h
                refine x_ialdJ (pc := 164) dX12_rounds_164 rfl rfl (by decide) hx12 ?_
                refine x_iadd (pc := 165) dX12_rounds_165 ?_
                refine x_iload (pc := 166) dX12_rounds_166 rfl ?_
                refine y_Vv5 (pc := 168) h dX12_rounds_168 lX12_422 (by decide) (by omega) rfl (fun a e => H0 _ _ _ _ _ _ a e) (fun m13 h => ?_)
                refine x_sub [(0, _), (1, _), (2, _), (3, _), (4, _), (5, _), (7, _)] ⟨rfl, rfl, rfl, rfl, rfl, rfl, rfl, trivial⟩ ?_
                exact j171 _ h
      refine x_if_eq (pc := 72) dX12_rounds_72 (tgt := 91) (by decide) (fun c21 => ?_) (fun c21 => ?_)
      · replace h := wo_pos c21 h
        refine x_sub [(0, _), (1, _), (2, _), (3, _), (4, _), (5, _)] ⟨rfl, rfl, rfl, rfl, rfl, rfl, trivial⟩ ?_
        exact j91 _ h
      · replace h := wo_neg c21 h
        refine x_aload_n (pc := 75) dX12_rounds_75 rfl ?_
        refine x_iload (pc := 76) dX12_rounds_76 rfl ?_
        refine x_putI (pc := 78) dX12_rounds_78 fX12_413 rfl (by decide) rfl rfl ?_
        refine x_letm h (fun m18 h => ?_)
        refine x_aload_n (pc := 81) dX12_rounds_81 rfl ?_
        refine x_iload_n (pc := 82) dX12_rounds_82 rfl ?_
        refine x_putI (pc := 83) dX12_rounds_83 fX12_416 rfl (by decide) rfl rfl ?_
        refine x_letm h (fun m19 h => ?_)
        refine x_aload_n (pc := 86) dX12_rounds_86 rfl ?_
        refine x_iload_n (pc := 87) dX12_rounds_87 rfl ?_
        refine x_putI (pc := 88) dX12_rounds_88 fX12_419 rfl (by decide) rfl rfl ?_
        refine x_letm h (fun m20 h => ?_)
        refine x_sub [(0, _), (1, _), (2, _), (3, _), (4, _), (5, _)] ⟨rfl, rfl, rfl, rfl, rfl, rfl, trivial⟩ ?_
        exact j91 _ h
    have j63 : wo (f_X12_rounds_J63 rc p0 p1 p2 p3 p4 mem) Q0 → mi_X mX12_rounds (2 + (n + 1)) 63 [(0, vr 12 0), (1, vi p0), (2, vi p1), (3, vi p2), (4, vi p3), (5, vi p4)] [] mem QX := by
      intro h
      unfold f_X12_rounds_J63 at h
      refine x_iconst (pc := 63) dX12_rounds_63 (v := (1 : Int32)) (by decide) ?_
      refine x_goto (pc := 64) dX12_rounds_64 (tgt := 68) (by decide) ?_
      refine x_sub [(0, _), (1, _), (2, _), (3, _), (4, _), (5, _)] ⟨rfl, rfl, rfl, rfl, rfl, rfl, trivial⟩ ?_
      exact j68 _ h
    refine x_if_ne (pc := 35) dX12_rounds_35 (tgt := 63) (by decide) (fun c25 => ?_) (fun c25 => ?_)
    · replace h := wo_neg c25 h
      refine x_sub [(0, _), (1, _), (2, _), (3, _), (4, _), (5, _)] ⟨rfl, rfl, rfl, rfl, rfl, rfl, trivial⟩ ?_
      exact j63 h
    · replace h := wo_pos c25 h
      refine x_iload (pc := 38) dX12_rounds_38 rfl ?_
      refine x_aload_n (pc := 40) dX12_rounds_40 rfl ?_
      refine x_getI (pc := 41) dX12_rounds_41 fX12_413 rfl (by decide) ?_
      have j67 : wo (f_X12_rounds_J67 rc p0 p1 p2 p3 p4 mem) Q0 → mi_X mX12_rounds (2 + (n + 1)) 67 [(0, vr 12 0), (1, vi p0), (2, vi p1), (3, vi p2), (4, vi p3), (5, vi p4)] [] mem QX := by
        intro h
        unfold f_X12_rounds_J67 at h
        refine x_iconst (pc := 67) dX12_rounds_67 (v := (0 : Int32)) (by decide) ?_
        refine x_sub [(0, _), (1, _), (2, _), (3, _), (4, _), (5, _)] ⟨rfl, rfl, rfl, rfl, rfl, rfl, trivial⟩ ?_
        exact j68 _ h
      refine x_icmp_ne (pc := 44) dX12_rounds_44 (tgt := 67) (by decide) (fun c24 => ?_) (fun c24 => ?_)
      · replace h := wo_neg c24 h
        refine x_sub [(0, _), (1, _), (2, _), (3, _), (4, _), (5, _)] ⟨rfl, rfl, rfl, rfl, rfl, rfl, trivial⟩ ?_
        exact j67 h
      · replace h := wo_pos c24 h
        refine x_iload_n (pc := 47) dX12_rounds_47 rfl ?_
        refine x_aload_n (pc := 48) dX12_rounds_48 rfl ?_
        refine x_getI (pc := 49) dX12_rounds_49 fX12_416 rfl (by decide) ?_
        refine x_icmp_ne (pc := 52) dX12_rounds_52 (tgt := 67) (by decide) (fun c23 => ?_) (fun c23 => ?_)
        · replace h := wo_neg c23 h
          refine x_sub [(0, _), (1, _), (2, _), (3, _), (4, _), (5, _)] ⟨rfl, rfl, rfl, rfl, rfl, rfl, trivial⟩ ?_
          exact j67 h
        · replace h := wo_pos c23 h
          refine x_iload_n (pc := 55) dX12_rounds_55 rfl ?_
          refine x_aload_n (pc := 56) dX12_rounds_56 rfl ?_
          refine x_getI (pc := 57) dX12_rounds_57 fX12_419 rfl (by decide) ?_
          refine x_icmp_ge (pc := 60) dX12_rounds_60 (tgt := 67) (by decide) (fun c22 => ?_) (fun c22 => ?_)
          · replace h := wo_pos c22 h
            refine x_sub [(0, _), (1, _), (2, _), (3, _), (4, _), (5, _)] ⟨rfl, rfl, rfl, rfl, rfl, rfl, trivial⟩ ?_
            exact j67 h
          · replace h := wo_neg c22 h
            refine x_sub [(0, _), (1, _), (2, _), (3, _), (4, _), (5, _)] ⟨rfl, rfl, rfl, rfl, rfl, rfl, trivial⟩ ?_
            exact j63 h
  have j26 : wo (f_X12_rounds_J26 rc p0 p1 p2 p3 p4 mem) Q0 → mi_X mX12_rounds (2 + (n + 1)) 26 [(0, vr 12 0), (1, vi p0), (2, vi p1), (3, vi p2), (4, vi p3), (5, vi p4)] [] mem QX := by
    intro h
    unfold f_X12_rounds_J26 at h
    refine x_iconst (pc := 26) dX12_rounds_26 (v := (1 : Int32)) (by decide) ?_
    refine x_goto (pc := 27) dX12_rounds_27 (tgt := 31) (by decide) ?_
    refine x_sub [(0, _), (1, _), (2, _), (3, _), (4, _), (5, _)] ⟨rfl, rfl, rfl, rfl, rfl, rfl, trivial⟩ ?_
    exact j31 _ h
  refine x_icmp_gt (pc := 6) dX12_rounds_6 (tgt := 26) (by decide) (fun c28 => ?_) (fun c28 => ?_)
  · replace h := wo_pos c28 h
    refine x_sub [(0, _), (1, _), (2, _), (3, _), (4, _), (5, _)] ⟨rfl, rfl, rfl, rfl, rfl, rfl, trivial⟩ ?_
    exact j26 h
  · replace h := wo_neg c28 h
    refine x_iload (pc := 9) dX12_rounds_9 rfl ?_
    refine x_aload_n (pc := 11) dX12_rounds_11 rfl ?_
    refine x_getI (pc := 12) dX12_rounds_12 fX12_413 rfl (by decide) ?_
    have j30 : wo (f_X12_rounds_J30 rc p0 p1 p2 p3 p4 mem) Q0 → mi_X mX12_rounds (2 + (n + 1)) 30 [(0, vr 12 0), (1, vi p0), (2, vi p1), (3, vi p2), (4, vi p3), (5, vi p4)] [] mem QX := by
      intro h
      unfold f_X12_rounds_J30 at h
      refine x_iconst (pc := 30) dX12_rounds_30 (v := (0 : Int32)) (by decide) ?_
      refine x_sub [(0, _), (1, _), (2, _), (3, _), (4, _), (5, _)] ⟨rfl, rfl, rfl, rfl, rfl, rfl, trivial⟩ ?_
      exact j31 _ h
    refine x_icmp_ne (pc := 15) dX12_rounds_15 (tgt := 30) (by decide) (fun c27 => ?_) (fun c27 => ?_)
    · replace h := wo_neg c27 h
      refine x_sub [(0, _), (1, _), (2, _), (3, _), (4, _), (5, _)] ⟨rfl, rfl, rfl, rfl, rfl, rfl, trivial⟩ ?_
      exact j30 h
    · replace h := wo_pos c27 h
      refine x_iload_n (pc := 18) dX12_rounds_18 rfl ?_
      refine x_aload_n (pc := 19) dX12_rounds_19 rfl ?_
      refine x_getI (pc := 20) dX12_rounds_20 fX12_416 rfl (by decide) ?_
      refine x_icmp_ge (pc := 23) dX12_rounds_23 (tgt := 30) (by decide) (fun c26 => ?_) (fun c26 => ?_)
      · replace h := wo_pos c26 h
        refine x_sub [(0, _), (1, _), (2, _), (3, _), (4, _), (5, _)] ⟨rfl, rfl, rfl, rfl, rfl, rfl, trivial⟩ ?_
        exact j30 h
      · replace h := wo_neg c26 h
        refine x_sub [(0, _), (1, _), (2, _), (3, _), (4, _), (5, _)] ⟨rfl, rfl, rfl, rfl, rfl, rfl, trivial⟩ ?_
        exact j26 h
noncomputable def fg_X12_rounds : Nat → (Int32 → Int32 → Int32 → Int32 → Int32 → mi_M → Option (mi_M))
  | 0 => (fun _ _ _ _ _ _ => none)
  | n + 1 => (f_X12_rounds_ (fg_X12_rounds n))
theorem wg_X12_rounds : ∀ n : Nat, (∀ (p0 : Int32) (p1 : Int32) (p2 : Int32) (p3 : Int32) (p4 : Int32) (mem : mi_M) (a : mi_M), (fg_X12_rounds n) p0 p1 p2 p3 p4 mem = some a → mi_Cv (2 + n) mX12_rounds [vr 12 0, vi p0, vi p1, vi p2, vi p3, vi p4] mem (fun m' => m' = a))
  | 0 => fun _ _ _ _ _ _ _ e => (by cases e)
  | n + 1 => w_X12_rounds_ n (fg_X12_rounds n) (wg_X12_rounds n)
noncomputable def f_X12_rounds (p0 : Int32) (p1 : Int32) (p2 : Int32) (p3 : Int32) (p4 : Int32) (mem : mi_M) : Option (mi_M) := (fg_X12_rounds mi_dp) p0 p1 p2 p3 p4 mem
theorem w_X12_rounds (p0 : Int32) (p1 : Int32) (p2 : Int32) (p3 : Int32) (p4 : Int32) (mem : mi_M) (a : mi_M) (e : f_X12_rounds p0 p1 p2 p3 p4 mem = some a) : mi_Cv (42) mX12_rounds [vr 12 0, vi p0, vi p1, vi p2, vi p3, vi p4] mem (fun m' => m' = a) := (wg_X12_rounds mi_dp) p0 p1 p2 p3 p4 mem a e
noncomputable def f_X12_round_J33 (m1 : mi_M) : Option (Int32 × mi_M) := some ((-1 : Int32), m1)
noncomputable def f_X12_round_J184 (m14 : mi_M) (u15 : Int32) : Option (Int32 × mi_M) := some (u15, m14)
noncomputable def f_X12_round_J146 (p0 : Int32) (p1 : Int32) (p2 : Int32) (m10 : mi_M) (u12 : Int32) : Option (Int32 × mi_M) := mi_g (vp_in p0 6) (mi_bo (f_X12_rounds p0 u12 (0 : Int32) (m10.1 73 0 p0.toNatClampNeg) p1 m10) fun m14 => if p2 = 0 then f_X12_round_J184 m14 (m14.1 12 0 34) else if p2 = (1 : Int32) then f_X12_round_J184 m14 (m14.1 12 0 35) else f_X12_round_J184 m14 (m14.1 12 0 36))
noncomputable def f_X12_round_J105 (l19 : Int32) (m20 : mi_M) (v22 : Int32) (u25 : Int32) : Option ((Int32 × mi_M) ⊕ (mi_M)) := mi_g (vp_in v22 6) (mi_let (mi_wI m20 73 0 v22.toNatClampNeg ((m20.1 73 0 v22.toNatClampNeg) + u25)) fun m27 => some (.inl ((l19 + (1 : Int32)), m27)))
noncomputable def f_X12_round_B68 : (Int32 × mi_M) → Option ((Int32 × mi_M) ⊕ (mi_M)) := fun s => match s with | (l19, m20) => mi_bo (f_X12_wrongs m20) fun v21 => if v21 ≤ l19 then some (.inr m20) else mi_bo (f_X12_wrongOf l19 (1 : Int32) m20) fun v22 => mi_g (vp_in v22 6) (mi_bo (f_X12_isRipe (0 : Int32) l19 m20) fun v24 => if v24 = 0 then f_X12_round_J105 l19 m20 v22 (0 : Int32) else f_X12_round_J105 l19 m20 v22 (1 : Int32))
noncomputable def f_X12_round_K68 (p0 : Int32) (p1 : Int32) (p2 : Int32) : mi_M → Option (Int32 × mi_M) := fun m7 => mi_let (mi_wI m7 12 0 34 (-1 : Int32)) fun m8 => mi_let (mi_wI m8 12 0 35 (0 : Int32)) fun m9 => mi_let (mi_wI m9 12 0 36 (0 : Int32)) fun m10 => mi_g (vp_in p0 6) (if (m10.1 73 0 p0.toNatClampNeg) ≤ 0 then f_X12_round_J146 p0 p1 p2 m10 (0 : Int32) else f_X12_round_J146 p0 p1 p2 m10 ((1 : Int32) <<< (p0 &&& 31)))
noncomputable def f_X12_round_B42 : (Int32 × mi_M) → Option ((Int32 × mi_M) ⊕ (mi_M)) := fun s => match s with | (l30, m31) => mi_bo (f_X12_people m31) fun v32 => if v32 ≤ l30 then some (.inr m31) else mi_g (vp_in l30 6) (mi_let (mi_wI m31 73 0 l30.toNatClampNeg (0 : Int32)) fun m34 => some (.inl ((l30 + (1 : Int32)), m34)))
noncomputable def f_X12_round_K42 (p0 : Int32) (p1 : Int32) (p2 : Int32) : mi_M → Option (Int32 × mi_M) := fun m6 => mi_bo (mi_lp (f_X12_round_B68) mi_fu ((0 : Int32), m6)) (f_X12_round_K68 p0 p1 p2)
noncomputable def f_X12_round (p0 : Int32) (p1 : Int32) (p2 : Int32) (mem : mi_M) : Option (Int32 × mi_M) := mi_let (mi_wI mem 12 0 0 (0 : Int32)) fun m1 => mi_bo (f_X12_isPerson p0 m1) fun v2 => if v2 = 0 then f_X12_round_J33 m1 else mi_bo (f_X12_within p1 (0 : Int32) (200 : Int32) m1) fun v3 => if v3 = 0 then f_X12_round_J33 m1 else mi_bo (f_X12_within p2 (0 : Int32) (2 : Int32) m1) fun v4 => if v4 = 0 then f_X12_round_J33 m1 else mi_bo (f_X12_laysSteps m1) fun m5 => mi_bo (mi_lp (f_X12_round_B42) mi_fu ((0 : Int32), m5)) (f_X12_round_K42 p0 p1 p2)
set_option maxRecDepth 100000 in
set_option maxHeartbeats 4000000 in
theorem w_X12_round (p0 : Int32) (p1 : Int32) (p2 : Int32) (mem : mi_M) (a : Int32 × mi_M) (e : f_X12_round p0 p1 p2 mem = some a) : mi_Ci (43) mX12_round [vr 12 0, vi p0, vi p1, vi p2] mem (fun x m' => x = a.1 ∧ m' = a.2) := by
  unfold mi_Ci
  refine mi_C_intro (ls := [(0, vr 12 0), (1, vi p0), (2, vi p1), (3, vi p2)]) (by decide) rfl rfl ?_
  obtain ⟨Q0, hq0, h⟩ : ∃ Q0 : (Int32 × mi_M) → Prop, (∀ b, Q0 b → b = a) ∧ wo (f_X12_round p0 p1 p2 mem) Q0 := ⟨fun b => b = a, fun _ h => h, wo_eq e⟩
  obtain ⟨QX, hQX⟩ : ∃ QX : Option mi_V → mi_M → Prop, QX = (fun r m' => ∃ x, r = some (vi x) ∧ x = a.1 ∧ m' = a.2) := ⟨_, rfl⟩
  rw [← hQX]
  unfold f_X12_round at h
  refine x_aload_n (pc := 0) dX12_round_0 rfl ?_
  refine x_iconst (pc := 1) dX12_round_1 (v := (0 : Int32)) (by decide) ?_
  refine x_putI (pc := 2) dX12_round_2 fX12_1 rfl (by decide) rfl rfl ?_
  refine x_letm h (fun m1 h => ?_)
  refine x_aload_n (pc := 5) dX12_round_5 rfl ?_
  refine x_iload_n (pc := 6) dX12_round_6 rfl ?_
  refine z_Vi1 (pc := 7) h dX12_round_7 lX12_359 (by decide) (by omega) rfl (fun a e => w_X12_isPerson _ _ a e) (fun v2 h => ?_)
  have j33 : wo (f_X12_round_J33 m1) Q0 → mi_X mX12_round (43) 33 [] [] m1 QX := by
    intro h
    unfold f_X12_round_J33 at h
    refine x_iconst (pc := 33) dX12_round_33 (v := (-1 : Int32)) (by decide) ?_
    exact x_iret (pc := 34) dX12_round_34 rfl (by rw [hQX]; exact ⟨_, rfl, congrArg Prod.fst (hq0 _ (wo_some h)), congrArg Prod.snd (hq0 _ (wo_some h))⟩)
  refine x_if_eq (pc := 10) dX12_round_10 (tgt := 33) (by decide) (fun c38 => ?_) (fun c38 => ?_)
  · replace h := wo_pos c38 h
    refine x_sub [] trivial ?_
    exact j33 h
  · replace h := wo_neg c38 h
    refine x_iload_n (pc := 13) dX12_round_13 rfl ?_
    refine x_iconst (pc := 14) dX12_round_14 (v := (0 : Int32)) (by decide) ?_
    refine x_sipush (pc := 15) dX12_round_15 (v := (200 : Int32)) (by decide) ?_
    refine z_Si3 (pc := 18) h dX12_round_18 lX12_362 (by omega) rfl (fun a e => w_X12_within _ _ _ _ a e) (fun v3 h => ?_)
    refine x_if_eq (pc := 21) dX12_round_21 (tgt := 33) (by decide) (fun c37 => ?_) (fun c37 => ?_)
    · replace h := wo_pos c37 h
      refine x_sub [] trivial ?_
      exact j33 h
    · replace h := wo_neg c37 h
      refine x_iload_n (pc := 24) dX12_round_24 rfl ?_
      refine x_iconst (pc := 25) dX12_round_25 (v := (0 : Int32)) (by decide) ?_
      refine x_iconst (pc := 26) dX12_round_26 (v := (2 : Int32)) (by decide) ?_
      refine z_Si3 (pc := 27) h dX12_round_27 lX12_362 (by omega) rfl (fun a e => w_X12_within _ _ _ _ a e) (fun v4 h => ?_)
      refine x_if_ne (pc := 30) dX12_round_30 (tgt := 35) (by decide) (fun c36 => ?_) (fun c36 => ?_)
      · replace h := wo_neg c36 h
        refine x_aload_n (pc := 35) dX12_round_35 rfl ?_
        refine y_Vv0 (pc := 36) h dX12_round_36 lX12_426 (by decide) (by omega) rfl (fun a e => w_X12_laysSteps _ a e) (fun m5 h => ?_)
        refine x_iconst (pc := 39) dX12_round_39 (v := (0 : Int32)) (by decide) ?_
        refine x_istore (ls' := [(4, _), (0, _), (1, _), (2, _), (3, _)]) (pc := 40) dX12_round_40 rfl rfl ?_
        have k42_0 : ∀ (m6 : mi_M), wo (f_X12_round_K42 p0 p1 p2 m6) Q0 → mi_X mX12_round (43) 65 [(0, vr 12 0), (1, vi p0), (2, vi p1), (3, vi p2)] [] m6 QX := by
          intro m6 h
          unfold f_X12_round_K42 at h
          try dsimp only at h
          refine x_iconst (pc := 65) dX12_round_65 (v := (0 : Int32)) (by decide) ?_
          refine x_istore (ls' := [(4, _), (0, _), (1, _), (2, _), (3, _)]) (pc := 66) dX12_round_66 rfl rfl ?_
          have k68_0 : ∀ (m7 : mi_M), wo (f_X12_round_K68 p0 p1 p2 m7) Q0 → mi_X mX12_round (43) 113 [(0, vr 12 0), (1, vi p0), (2, vi p1), (3, vi p2)] [] m7 QX := by
            intro m7 h
            unfold f_X12_round_K68 at h
            try dsimp only at h
            refine x_aload_n (pc := 113) dX12_round_113 rfl ?_
            refine x_iconst (pc := 114) dX12_round_114 (v := (-1 : Int32)) (by decide) ?_
            refine x_putI (pc := 115) dX12_round_115 fX12_413 rfl (by decide) rfl rfl ?_
            refine x_letm h (fun m8 h => ?_)
            refine x_aload_n (pc := 118) dX12_round_118 rfl ?_
            refine x_iconst (pc := 119) dX12_round_119 (v := (0 : Int32)) (by decide) ?_
            refine x_putI (pc := 120) dX12_round_120 fX12_416 rfl (by decide) rfl rfl ?_
            refine x_letm h (fun m9 h => ?_)
            refine x_aload_n (pc := 123) dX12_round_123 rfl ?_
            refine x_iconst (pc := 124) dX12_round_124 (v := (0 : Int32)) (by decide) ?_
            refine x_putI (pc := 125) dX12_round_125 fX12_419 rfl (by decide) rfl rfl ?_
            refine x_letm h (fun m10 h => ?_)
            refine x_aload_n (pc := 128) dX12_round_128 rfl ?_
            refine x_iload_n (pc := 129) dX12_round_129 rfl ?_
            refine x_aload_n (pc := 130) dX12_round_130 rfl ?_
            refine x_getS (pc := 131) dX12_round_131 fX12_141 rfl (by decide) ?_
            refine x_iload_n (pc := 134) dX12_round_134 rfl ?_
            obtain ⟨hx11, h⟩ := wo_g h
            refine x_ialdJ (pc := 135) dX12_round_135 rfl rfl (by decide) hx11 ?_
            have j146 : ∀ (u12 : Int32), wo (f_X12_round_J146 p0 p1 p2 m10 u12) Q0 → mi_X mX12_round (43) 146 [(0, vr 12 0), (1, vi p0), (2, vi p1), (3, vi p2)] [vi u12, vi p0, vr 12 0] m10 QX := by
              intro u12 h
              unfold f_X12_round_J146 at h
              refine x_iconst (pc := 146) dX12_round_146 (v := (0 : Int32)) (by decide) ?_
              refine x_aload_n (pc := 147) dX12_round_147 rfl ?_
              refine x_getS (pc := 148) dX12_round_148 fX12_141 rfl (by decide) ?_
              refine x_iload_n (pc := 151) dX12_round_151 rfl ?_
              obtain ⟨hx13, h⟩ := wo_g h
              refine x_ialdJ (pc := 152) dX12_round_152 rfl rfl (by decide) hx13 ?_
              refine x_iload_n (pc := 153) dX12_round_153 rfl ?_
              refine y_Vv5 (pc := 154) h dX12_round_154 lX12_422 (by decide) (by omega) rfl (fun a e => w_X12_rounds _ _ _ _ _ _ a e) (fun m14 h => ?_)
              refine x_iload_n (pc := 157) dX12_round_157 rfl ?_
              have j184 : ∀ (u15 : Int32), wo (f_X12_round_J184 m14 u15) Q0 → mi_X mX12_round (43) 184 [] [vi u15] m14 QX := by
                intro u15 h
                unfold f_X12_round_J184 at h
                exact x_iret (pc := 184) dX12_round_184 rfl (by rw [hQX]; exact ⟨_, rfl, congrArg Prod.fst (hq0 _ (wo_some h)), congrArg Prod.snd (hq0 _ (wo_some h))⟩)
              refine x_if_ne (pc := 158) dX12_round_158 (tgt := 168) (by decide) (fun c17 => ?_) (fun c17 => ?_)
              · replace h := wo_neg c17 h
                refine x_iload_n (pc := 168) dX12_round_168 rfl ?_
                refine x_iconst (pc := 169) dX12_round_169 (v := (1 : Int32)) (by decide) ?_
                refine x_icmp_ne (pc := 170) dX12_round_170 (tgt := 180) (by decide) (fun c16 => ?_) (fun c16 => ?_)
                · replace h := wo_neg c16 h
                  refine x_aload_n (pc := 180) dX12_round_180 rfl ?_
                  refine x_getI (pc := 181) dX12_round_181 fX12_419 rfl (by decide) ?_
                  refine x_sub [] trivial ?_
                  exact j184 _ h
                · replace h := wo_pos c16 h
                  refine x_aload_n (pc := 173) dX12_round_173 rfl ?_
                  refine x_getI (pc := 174) dX12_round_174 fX12_416 rfl (by decide) ?_
                  refine x_goto (pc := 177) dX12_round_177 (tgt := 184) (by decide) ?_
                  refine x_sub [] trivial ?_
                  exact j184 _ h
              · replace h := wo_pos c17 h
                refine x_aload_n (pc := 161) dX12_round_161 rfl ?_
                refine x_getI (pc := 162) dX12_round_162 fX12_413 rfl (by decide) ?_
                refine x_goto (pc := 165) dX12_round_165 (tgt := 184) (by decide) ?_
                refine x_sub [] trivial ?_
                exact j184 _ h
            refine x_if_le (pc := 136) dX12_round_136 (tgt := 145) (by decide) (fun c18 => ?_) (fun c18 => ?_)
            · replace h := wo_pos c18 h
              refine x_iconst (pc := 145) dX12_round_145 (v := (0 : Int32)) (by decide) ?_
              refine x_sub [(0, _), (1, _), (2, _), (3, _)] ⟨rfl, rfl, rfl, rfl, trivial⟩ ?_
              exact j146 _ h
            · replace h := wo_neg c18 h
              refine x_iconst (pc := 139) dX12_round_139 (v := (1 : Int32)) (by decide) ?_
              refine x_iload_n (pc := 140) dX12_round_140 rfl ?_
              refine x_ishl (pc := 141) dX12_round_141 ?_
              refine x_goto (pc := 142) dX12_round_142 (tgt := 146) (by decide) ?_
              refine x_sub [(0, _), (1, _), (2, _), (3, _)] ⟨rfl, rfl, rfl, rfl, trivial⟩ ?_
              exact j146 _ h
          refine x_sub [(0, _), (1, _), (2, _), (3, _), (4, _)] ⟨rfl, rfl, rfl, rfl, rfl, trivial⟩ ?_
          obtain ⟨ea, eb, h⟩ := wo_bo h
          refine wo_lq (X := fun s => match s with | (l19, m20) => mi_X mX12_round (43) 68 [(0, vr 12 0), (1, vi p0), (2, vi p1), (3, vi p2), (4, vi l19)] [] m20 QX) (E := fun e => wo (f_X12_round_K68 p0 p1 p2 e) Q0) ?_ _ ((0 : Int32), m6) ⟨_, eb, h⟩
          intro Q68 hb68 he68 s h
          obtain ⟨l19, m20⟩ := s
          show mi_X mX12_round (43) 68 [(0, vr 12 0), (1, vi p0), (2, vi p1), (3, vi p2), (4, vi l19)] [] m20 QX
          unfold f_X12_round_B68 at h
          try dsimp only at h
          refine x_iload (pc := 68) dX12_round_68 rfl ?_
          refine x_aload_n (pc := 70) dX12_round_70 rfl ?_
          refine z_Vi0 (pc := 71) h dX12_round_71 lX12_273 (by decide) (by omega) rfl (fun a e => w_X12_wrongs _ a e) (fun v21 h => ?_)
          refine x_icmp_ge (pc := 74) dX12_round_74 (tgt := 113) (by decide) (fun c29 => ?_) (fun c29 => ?_)
          · replace h := wo_pos c29 h
            refine x_sub [(0, _), (1, _), (2, _), (3, _)] ⟨rfl, rfl, rfl, rfl, trivial⟩ ?_
            exact k68_0 _ (he68 m20 (wo_some h))
          · replace h := wo_neg c29 h
            refine x_aload_n (pc := 77) dX12_round_77 rfl ?_
            refine x_getS (pc := 78) dX12_round_78 fX12_141 rfl (by decide) ?_
            refine x_aload_n (pc := 81) dX12_round_81 rfl ?_
            refine x_iload (pc := 82) dX12_round_82 rfl ?_
            refine x_iconst (pc := 84) dX12_round_84 (v := (1 : Int32)) (by decide) ?_
            refine z_Vi2 (pc := 85) h dX12_round_85 lX12_297 (by decide) (by omega) rfl (fun a e => w_X12_wrongOf _ _ _ a e) (fun v22 h => ?_)
            refine x_dup2 (pc := 88) dX12_round_88 rfl rfl ?_
            obtain ⟨hx23, h⟩ := wo_g h
            refine x_ialdJ (pc := 89) dX12_round_89 rfl rfl (by decide) hx23 ?_
            refine x_aload_n (pc := 90) dX12_round_90 rfl ?_
            refine x_iconst (pc := 91) dX12_round_91 (v := (0 : Int32)) (by decide) ?_
            refine x_iload (pc := 92) dX12_round_92 rfl ?_
            refine z_Vi2 (pc := 94) h dX12_round_94 lX12_336 (by decide) (by omega) rfl (fun a e => w_X12_isRipe _ _ _ a e) (fun v24 h => ?_)
            have j105 : ∀ (u25 : Int32), wo (f_X12_round_J105 l19 m20 v22 u25) Q68 → mi_X mX12_round (43) 105 [(0, vr 12 0), (1, vi p0), (2, vi p1), (3, vi p2), (4, vi l19)] [vi u25, vi (m20.1 73 0 v22.toNatClampNeg), vi v22, vr 73 0] m20 QX := by
              intro u25 h
              unfold f_X12_round_J105 at h
              refine x_iadd (pc := 105) dX12_round_105 ?_
              obtain ⟨hx26, h⟩ := wo_g h
              refine x_iastJ (pc := 106) dX12_round_106 rfl rfl (by decide) rfl hx26 ?_
              refine x_letm h (fun m27 h => ?_)
              refine x_iinc (ls' := [(4, _), (0, _), (1, _), (2, _), (3, _)]) (pc := 107) dX12_round_107 rfl (v := l19 + (1 : Int32)) rfl rfl rfl ?_
              refine x_goto (pc := 110) dX12_round_110 (tgt := 68) (by decide) ?_
              refine x_sub [(0, _), (1, _), (2, _), (3, _), (4, _)] ⟨rfl, rfl, rfl, rfl, rfl, trivial⟩ ?_
              exact hb68 ((l19 + (1 : Int32)), m27) (wo_some h)
            refine x_if_eq (pc := 97) dX12_round_97 (tgt := 104) (by decide) (fun c28 => ?_) (fun c28 => ?_)
            · replace h := wo_pos c28 h
              refine x_iconst (pc := 104) dX12_round_104 (v := (0 : Int32)) (by decide) ?_
              refine x_sub [(0, _), (1, _), (2, _), (3, _), (4, _)] ⟨rfl, rfl, rfl, rfl, rfl, trivial⟩ ?_
              exact j105 _ h
            · replace h := wo_neg c28 h
              refine x_iconst (pc := 100) dX12_round_100 (v := (1 : Int32)) (by decide) ?_
              refine x_goto (pc := 101) dX12_round_101 (tgt := 105) (by decide) ?_
              refine x_sub [(0, _), (1, _), (2, _), (3, _), (4, _)] ⟨rfl, rfl, rfl, rfl, rfl, trivial⟩ ?_
              exact j105 _ h
        refine x_sub [(0, _), (1, _), (2, _), (3, _), (4, _)] ⟨rfl, rfl, rfl, rfl, rfl, trivial⟩ ?_
        obtain ⟨ea, eb, h⟩ := wo_bo h
        refine wo_lq (X := fun s => match s with | (l30, m31) => mi_X mX12_round (43) 42 [(0, vr 12 0), (1, vi p0), (2, vi p1), (3, vi p2), (4, vi l30)] [] m31 QX) (E := fun e => wo (f_X12_round_K42 p0 p1 p2 e) Q0) ?_ _ ((0 : Int32), m5) ⟨_, eb, h⟩
        intro Q42 hb42 he42 s h
        obtain ⟨l30, m31⟩ := s
        show mi_X mX12_round (43) 42 [(0, vr 12 0), (1, vi p0), (2, vi p1), (3, vi p2), (4, vi l30)] [] m31 QX
        unfold f_X12_round_B42 at h
        try dsimp only at h
        refine x_iload (pc := 42) dX12_round_42 rfl ?_
        refine x_aload_n (pc := 44) dX12_round_44 rfl ?_
        refine z_Vi0 (pc := 45) h dX12_round_45 lX12_294 (by decide) (by omega) rfl (fun a e => w_X12_people _ a e) (fun v32 h => ?_)
        refine x_icmp_ge (pc := 48) dX12_round_48 (tgt := 65) (by decide) (fun c35 => ?_) (fun c35 => ?_)
        · replace h := wo_pos c35 h
          refine x_sub [(0, _), (1, _), (2, _), (3, _)] ⟨rfl, rfl, rfl, rfl, trivial⟩ ?_
          exact k42_0 _ (he42 m31 (wo_some h))
        · replace h := wo_neg c35 h
          refine x_aload_n (pc := 51) dX12_round_51 rfl ?_
          refine x_getS (pc := 52) dX12_round_52 fX12_141 rfl (by decide) ?_
          refine x_iload (pc := 55) dX12_round_55 rfl ?_
          refine x_iconst (pc := 57) dX12_round_57 (v := (0 : Int32)) (by decide) ?_
          obtain ⟨hx33, h⟩ := wo_g h
          refine x_iastJ (pc := 58) dX12_round_58 rfl rfl (by decide) rfl hx33 ?_
          refine x_letm h (fun m34 h => ?_)
          refine x_iinc (ls' := [(4, _), (0, _), (1, _), (2, _), (3, _)]) (pc := 59) dX12_round_59 rfl (v := l30 + (1 : Int32)) rfl rfl rfl ?_
          refine x_goto (pc := 62) dX12_round_62 (tgt := 42) (by decide) ?_
          refine x_sub [(0, _), (1, _), (2, _), (3, _), (4, _)] ⟨rfl, rfl, rfl, rfl, rfl, trivial⟩ ?_
          exact hb42 ((l30 + (1 : Int32)), m34) (wo_some h)
      · replace h := wo_pos c36 h
        refine x_sub [] trivial ?_
        exact j33 h
noncomputable def f_X12_say (p0 : Int32) (mem : mi_M) : Option (Int32 × mi_M) := mi_let (mi_wI mem 12 0 0 (0 : Int32)) fun m1 => mi_bo (f_X12_maySay (0 : Int32) p0 m1) fun v2 => if v2 = 0 then some ((-1 : Int32), m1) else mi_bo (f_X12_keeps m1) fun m3 => mi_b (f_X12_says (0 : Int32) p0 m3) fun v4 m5 => some (v4, m5)
set_option maxRecDepth 100000 in
set_option maxHeartbeats 4000000 in
theorem w_X12_say (p0 : Int32) (mem : mi_M) (a : Int32 × mi_M) (e : f_X12_say p0 mem = some a) : mi_Ci (5) mX12_say [vr 12 0, vi p0] mem (fun x m' => x = a.1 ∧ m' = a.2) := by
  unfold mi_Ci
  refine mi_C_intro (ls := [(0, vr 12 0), (1, vi p0)]) (by decide) rfl rfl ?_
  obtain ⟨Q0, hq0, h⟩ : ∃ Q0 : (Int32 × mi_M) → Prop, (∀ b, Q0 b → b = a) ∧ wo (f_X12_say p0 mem) Q0 := ⟨fun b => b = a, fun _ h => h, wo_eq e⟩
  obtain ⟨QX, hQX⟩ : ∃ QX : Option mi_V → mi_M → Prop, QX = (fun r m' => ∃ x, r = some (vi x) ∧ x = a.1 ∧ m' = a.2) := ⟨_, rfl⟩
  rw [← hQX]
  unfold f_X12_say at h
  refine x_aload_n (pc := 0) dX12_say_0 rfl ?_
  refine x_iconst (pc := 1) dX12_say_1 (v := (0 : Int32)) (by decide) ?_
  refine x_putI (pc := 2) dX12_say_2 fX12_1 rfl (by decide) rfl rfl ?_
  refine x_letm h (fun m1 h => ?_)
  refine x_aload_n (pc := 5) dX12_say_5 rfl ?_
  refine x_iconst (pc := 6) dX12_say_6 (v := (0 : Int32)) (by decide) ?_
  refine x_iload_n (pc := 7) dX12_say_7 rfl ?_
  refine z_Vi2 (pc := 8) h dX12_say_8 lX12_368 (by decide) (by omega) rfl (fun a e => w_X12_maySay _ _ _ a e) (fun v2 h => ?_)
  refine x_if_ne (pc := 11) dX12_say_11 (tgt := 16) (by decide) (fun c6 => ?_) (fun c6 => ?_)
  · replace h := wo_neg c6 h
    refine x_aload_n (pc := 16) dX12_say_16 rfl ?_
    refine y_Vv0 (pc := 17) h dX12_say_17 lX12_371 (by decide) (by omega) rfl (fun a e => w_X12_keeps _ a e) (fun m3 h => ?_)
    refine x_aload_n (pc := 20) dX12_say_20 rfl ?_
    refine x_iconst (pc := 21) dX12_say_21 (v := (0 : Int32)) (by decide) ?_
    refine x_iload_n (pc := 22) dX12_say_22 rfl ?_
    refine y_Vi2 (pc := 23) h dX12_say_23 lX12_374 (by decide) (by omega) rfl (fun a e => w_X12_says _ _ _ a e) (fun v4 m5 h => ?_)
    exact x_iret (pc := 26) dX12_say_26 rfl (by rw [hQX]; exact ⟨_, rfl, congrArg Prod.fst (hq0 _ (wo_some h)), congrArg Prod.snd (hq0 _ (wo_some h))⟩)
  · replace h := wo_pos c6 h
    refine x_iconst (pc := 14) dX12_say_14 (v := (-1 : Int32)) (by decide) ?_
    exact x_iret (pc := 15) dX12_say_15 rfl (by rw [hQX]; exact ⟨_, rfl, congrArg Prod.fst (hq0 _ (wo_some h)), congrArg Prod.snd (hq0 _ (wo_some h))⟩)
noncomputable def f_X12_see_J35 (m1 : mi_M) : Option (Int32 × mi_M) := mi_g ((0 : Int32) = 0 ∨ (0 : Int32) = 1) (some ((0 : Int32), m1))
noncomputable def f_X12_see_J86 (v7 : Int32) (m11 : mi_M) (u12 : Int32) : Option (Int32 × mi_M) := mi_g (vp_in (v7 + (2 : Int32)) 1449) (mi_let (mi_wI m11 64 0 (v7 + (2 : Int32)).toNatClampNeg u12) fun m14 => mi_g (vp_in (38 : Int32) 1449) (mi_g (vp_in (38 : Int32) 1449) (mi_let (mi_wI m14 64 0 (38 : Int32).toNatClampNeg ((m14.1 64 0 (38 : Int32).toNatClampNeg) + (1 : Int32))) fun m17 => mi_g ((1 : Int32) = 0 ∨ (1 : Int32) = 1) (some ((1 : Int32), m17)))))
noncomputable def f_X12_see (p0 : Int32) (p1 : Int32) (p2 : Int32) (mem : mi_M) : Option (Int32 × mi_M) := mi_let (mi_wI mem 12 0 0 (0 : Int32)) fun m1 => mi_bo (f_X12_isPerson p0 m1) fun v2 => if v2 = 0 then f_X12_see_J35 m1 else mi_bo (f_X12_within p1 (0 : Int32) (9 : Int32) m1) fun v4 => if v4 = 0 then f_X12_see_J35 m1 else mi_g (vp_in (38 : Int32) 1449) (if (m1.1 64 0 (38 : Int32).toNatClampNeg) = (8 : Int32) then f_X12_see_J35 m1 else mi_g (vp_in (38 : Int32) 1449) (mi_let ((39 : Int32) + ((3 : Int32) * (m1.1 64 0 (38 : Int32).toNatClampNeg))) fun v7 => mi_g (vp_in v7 1449) (mi_let (mi_wI m1 64 0 v7.toNatClampNeg p0) fun m9 => mi_g (vp_in (v7 + (1 : Int32)) 1449) (mi_let (mi_wI m9 64 0 (v7 + (1 : Int32)).toNatClampNeg p1) fun m11 => if p2 = 0 then f_X12_see_J86 v7 m11 (0 : Int32) else f_X12_see_J86 v7 m11 (1 : Int32)))))
set_option maxRecDepth 100000 in
set_option maxHeartbeats 4000000 in
theorem w_X12_see (p0 : Int32) (p1 : Int32) (p2 : Int32) (mem : mi_M) (a : Int32 × mi_M) (e : f_X12_see p0 p1 p2 mem = some a) : mi_Ci (3) mX12_see [vr 12 0, vi p0, vi p1, vi p2] mem (fun x m' => x = a.1 ∧ m' = a.2) := by
  unfold mi_Ci
  refine mi_C_intro (ls := [(0, vr 12 0), (1, vi p0), (2, vi p1), (3, vi p2)]) (by decide) rfl rfl ?_
  obtain ⟨Q0, hq0, h⟩ : ∃ Q0 : (Int32 × mi_M) → Prop, (∀ b, Q0 b → b = a) ∧ wo (f_X12_see p0 p1 p2 mem) Q0 := ⟨fun b => b = a, fun _ h => h, wo_eq e⟩
  obtain ⟨QX, hQX⟩ : ∃ QX : Option mi_V → mi_M → Prop, QX = (fun r m' => ∃ x, r = some (vi x) ∧ x = a.1 ∧ m' = a.2) := ⟨_, rfl⟩
  rw [← hQX]
  unfold f_X12_see at h
  refine x_aload_n (pc := 0) dX12_see_0 rfl ?_
  refine x_iconst (pc := 1) dX12_see_1 (v := (0 : Int32)) (by decide) ?_
  refine x_putI (pc := 2) dX12_see_2 fX12_1 rfl (by decide) rfl rfl ?_
  refine x_letm h (fun m1 h => ?_)
  refine x_aload_n (pc := 5) dX12_see_5 rfl ?_
  refine x_iload_n (pc := 6) dX12_see_6 rfl ?_
  refine z_Vi1 (pc := 7) h dX12_see_7 lX12_359 (by decide) (by omega) rfl (fun a e => w_X12_isPerson _ _ a e) (fun v2 h => ?_)
  have j35 : wo (f_X12_see_J35 m1) Q0 → mi_X mX12_see (3) 35 [] [] m1 QX := by
    intro h
    unfold f_X12_see_J35 at h
    refine x_iconst (pc := 35) dX12_see_35 (v := (0 : Int32)) (by decide) ?_
    obtain ⟨hb3, h⟩ := wo_g h
    exact x_zretB (pc := 36) dX12_see_36 rfl hb3 (by rw [hQX]; exact ⟨_, rfl, congrArg Prod.fst (hq0 _ (wo_some h)), congrArg Prod.snd (hq0 _ (wo_some h))⟩)
  refine x_if_eq (pc := 10) dX12_see_10 (tgt := 35) (by decide) (fun c22 => ?_) (fun c22 => ?_)
  · replace h := wo_pos c22 h
    refine x_sub [] trivial ?_
    exact j35 h
  · replace h := wo_neg c22 h
    refine x_iload_n (pc := 13) dX12_see_13 rfl ?_
    refine x_iconst (pc := 14) dX12_see_14 (v := (0 : Int32)) (by decide) ?_
    refine x_bipush (pc := 15) dX12_see_15 (v := (9 : Int32)) (by decide) ?_
    refine z_Si3 (pc := 17) h dX12_see_17 lX12_362 (by omega) rfl (fun a e => w_X12_within _ _ _ _ a e) (fun v4 h => ?_)
    refine x_if_eq (pc := 20) dX12_see_20 (tgt := 35) (by decide) (fun c21 => ?_) (fun c21 => ?_)
    · replace h := wo_pos c21 h
      refine x_sub [] trivial ?_
      exact j35 h
    · replace h := wo_neg c21 h
      refine x_aload_n (pc := 23) dX12_see_23 rfl ?_
      refine x_getS (pc := 24) dX12_see_24 fX12_113 rfl (by decide) ?_
      refine x_bipush (pc := 27) dX12_see_27 (v := (38 : Int32)) (by decide) ?_
      obtain ⟨hx5, h⟩ := wo_g h
      refine x_ialdJ (pc := 29) dX12_see_29 rfl rfl (by decide) hx5 ?_
      refine x_bipush (pc := 30) dX12_see_30 (v := (8 : Int32)) (by decide) ?_
      refine x_icmp_ne (pc := 32) dX12_see_32 (tgt := 37) (by decide) (fun c20 => ?_) (fun c20 => ?_)
      · replace h := wo_neg c20 h
        refine x_bipush (pc := 37) dX12_see_37 (v := (39 : Int32)) (by decide) ?_
        refine x_iconst (pc := 39) dX12_see_39 (v := (3 : Int32)) (by decide) ?_
        refine x_aload_n (pc := 40) dX12_see_40 rfl ?_
        refine x_getS (pc := 41) dX12_see_41 fX12_113 rfl (by decide) ?_
        refine x_bipush (pc := 44) dX12_see_44 (v := (38 : Int32)) (by decide) ?_
        obtain ⟨hx6, h⟩ := wo_g h
        refine x_ialdJ (pc := 46) dX12_see_46 rfl rfl (by decide) hx6 ?_
        refine x_imul (pc := 47) dX12_see_47 ?_
        refine x_iadd (pc := 48) dX12_see_48 ?_
        refine x_leti h (fun v7 h => ?_)
        refine x_istore (ls' := [(4, _), (0, _), (1, _), (2, _), (3, _)]) (pc := 49) dX12_see_49 rfl rfl ?_
        refine x_aload_n (pc := 51) dX12_see_51 rfl ?_
        refine x_getS (pc := 52) dX12_see_52 fX12_113 rfl (by decide) ?_
        refine x_iload (pc := 55) dX12_see_55 rfl ?_
        refine x_iload_n (pc := 57) dX12_see_57 rfl ?_
        obtain ⟨hx8, h⟩ := wo_g h
        refine x_iastJ (pc := 58) dX12_see_58 rfl rfl (by decide) rfl hx8 ?_
        refine x_letm h (fun m9 h => ?_)
        refine x_aload_n (pc := 59) dX12_see_59 rfl ?_
        refine x_getS (pc := 60) dX12_see_60 fX12_113 rfl (by decide) ?_
        refine x_iload (pc := 63) dX12_see_63 rfl ?_
        refine x_iconst (pc := 65) dX12_see_65 (v := (1 : Int32)) (by decide) ?_
        refine x_iadd (pc := 66) dX12_see_66 ?_
        refine x_iload_n (pc := 67) dX12_see_67 rfl ?_
        obtain ⟨hx10, h⟩ := wo_g h
        refine x_iastJ (pc := 68) dX12_see_68 rfl rfl (by decide) rfl hx10 ?_
        refine x_letm h (fun m11 h => ?_)
        refine x_aload_n (pc := 69) dX12_see_69 rfl ?_
        refine x_getS (pc := 70) dX12_see_70 fX12_113 rfl (by decide) ?_
        refine x_iload (pc := 73) dX12_see_73 rfl ?_
        refine x_iconst (pc := 75) dX12_see_75 (v := (2 : Int32)) (by decide) ?_
        refine x_iadd (pc := 76) dX12_see_76 ?_
        refine x_iload_n (pc := 77) dX12_see_77 rfl ?_
        have j86 : ∀ (u12 : Int32), wo (f_X12_see_J86 v7 m11 u12) Q0 → mi_X mX12_see (3) 86 [(0, vr 12 0)] [vi u12, vi (v7 + (2 : Int32)), vr 64 0] m11 QX := by
          intro u12 h
          unfold f_X12_see_J86 at h
          obtain ⟨hx13, h⟩ := wo_g h
          refine x_iastJ (pc := 86) dX12_see_86 rfl rfl (by decide) rfl hx13 ?_
          refine x_letm h (fun m14 h => ?_)
          refine x_aload_n (pc := 87) dX12_see_87 rfl ?_
          refine x_getS (pc := 88) dX12_see_88 fX12_113 rfl (by decide) ?_
          refine x_bipush (pc := 91) dX12_see_91 (v := (38 : Int32)) (by decide) ?_
          refine x_dup2 (pc := 93) dX12_see_93 rfl rfl ?_
          obtain ⟨hx15, h⟩ := wo_g h
          refine x_ialdJ (pc := 94) dX12_see_94 rfl rfl (by decide) hx15 ?_
          refine x_iconst (pc := 95) dX12_see_95 (v := (1 : Int32)) (by decide) ?_
          refine x_iadd (pc := 96) dX12_see_96 ?_
          obtain ⟨hx16, h⟩ := wo_g h
          refine x_iastJ (pc := 97) dX12_see_97 rfl rfl (by decide) rfl hx16 ?_
          refine x_letm h (fun m17 h => ?_)
          refine x_iconst (pc := 98) dX12_see_98 (v := (1 : Int32)) (by decide) ?_
          obtain ⟨hb18, h⟩ := wo_g h
          exact x_zretB (pc := 99) dX12_see_99 rfl hb18 (by rw [hQX]; exact ⟨_, rfl, congrArg Prod.fst (hq0 _ (wo_some h)), congrArg Prod.snd (hq0 _ (wo_some h))⟩)
        refine x_if_eq (pc := 78) dX12_see_78 (tgt := 85) (by decide) (fun c19 => ?_) (fun c19 => ?_)
        · replace h := wo_pos c19 h
          refine x_iconst (pc := 85) dX12_see_85 (v := (0 : Int32)) (by decide) ?_
          refine x_sub [(0, _)] ⟨rfl, trivial⟩ ?_
          exact j86 _ h
        · replace h := wo_neg c19 h
          refine x_iconst (pc := 81) dX12_see_81 (v := (1 : Int32)) (by decide) ?_
          refine x_goto (pc := 82) dX12_see_82 (tgt := 86) (by decide) ?_
          refine x_sub [(0, _)] ⟨rfl, trivial⟩ ?_
          exact j86 _ h
      · replace h := wo_pos c20 h
        refine x_sub [] trivial ?_
        exact j35 h
noncomputable def f_X12_sets_J101 (m8 : mi_M) (u9 : Int32) : Option (Int32 × mi_M) := some (u9, m8)
noncomputable def f_X12_sets_J68 (l16 : Int32) (m20 : mi_M) (u21 : Int32) (u22 : Int32) (u23 : Int32) : Option ((Int32 × Int32 × Int32 × Int32 × mi_M) ⊕ (Int32 × Int32 × Int32 × mi_M)) := some (.inl (u21, u22, u23, (l16 + (1 : Int32)), m20))
noncomputable def f_X12_sets_B33 : (Int32 × Int32 × Int32 × Int32 × mi_M) → Option ((Int32 × Int32 × Int32 × Int32 × mi_M) ⊕ (Int32 × Int32 × Int32 × mi_M)) := fun s => match s with | (l13, l14, l15, l16, m17) => mi_bo (f_X12_wrongs m17) fun v18 => if ((1 : Int32) <<< (v18 &&& 31)) ≤ l16 then some (.inr (l13, l14, l15, m17)) else mi_b (f_X12_fitsSights l16 m17) fun v19 m20 => if v19 = 0 then f_X12_sets_J68 l16 m20 l13 l14 l15 else mi_let (l14 &&& l16) fun v24 => mi_let (l15 ||| l16) fun v25 => f_X12_sets_J68 l16 m20 (l13 + (1 : Int32)) v24 v25
noncomputable def f_X12_sets_K33 (p0 : Int32) : (Int32 × Int32 × Int32 × mi_M) → Option (Int32 × mi_M) := fun e => match e with | (e5, e6, e7, m8) => if p0 = 0 then f_X12_sets_J101 m8 e5 else if e5 = 0 then f_X12_sets_J101 m8 (-1 : Int32) else if p0 = (1 : Int32) then f_X12_sets_J101 m8 e6 else f_X12_sets_J101 m8 e7
noncomputable def f_X12_sets (p0 : Int32) (mem : mi_M) : Option (Int32 × mi_M) := mi_let (mi_wI mem 12 0 0 (0 : Int32)) fun m1 => mi_bo (f_X12_within p0 (0 : Int32) (2 : Int32) m1) fun v2 => if v2 = 0 then some ((-1 : Int32), m1) else mi_bo (f_X12_wrongs m1) fun v3 => mi_let (((1 : Int32) <<< (v3 &&& 31)) - (1 : Int32)) fun v4 => mi_bo (mi_lp (f_X12_sets_B33) mi_fu ((0 : Int32), v4, (0 : Int32), (0 : Int32), m1)) (f_X12_sets_K33 p0)
set_option maxRecDepth 100000 in
set_option maxHeartbeats 4000000 in
theorem w_X12_sets (p0 : Int32) (mem : mi_M) (a : Int32 × mi_M) (e : f_X12_sets p0 mem = some a) : mi_Ci (6) mX12_sets [vr 12 0, vi p0] mem (fun x m' => x = a.1 ∧ m' = a.2) := by
  unfold mi_Ci
  refine mi_C_intro (ls := [(0, vr 12 0), (1, vi p0)]) (by decide) rfl rfl ?_
  obtain ⟨Q0, hq0, h⟩ : ∃ Q0 : (Int32 × mi_M) → Prop, (∀ b, Q0 b → b = a) ∧ wo (f_X12_sets p0 mem) Q0 := ⟨fun b => b = a, fun _ h => h, wo_eq e⟩
  obtain ⟨QX, hQX⟩ : ∃ QX : Option mi_V → mi_M → Prop, QX = (fun r m' => ∃ x, r = some (vi x) ∧ x = a.1 ∧ m' = a.2) := ⟨_, rfl⟩
  rw [← hQX]
  unfold f_X12_sets at h
  refine x_aload_n (pc := 0) dX12_sets_0 rfl ?_
  refine x_iconst (pc := 1) dX12_sets_1 (v := (0 : Int32)) (by decide) ?_
  refine x_putI (pc := 2) dX12_sets_2 fX12_1 rfl (by decide) rfl rfl ?_
  refine x_letm h (fun m1 h => ?_)
  refine x_iload_n (pc := 5) dX12_sets_5 rfl ?_
  refine x_iconst (pc := 6) dX12_sets_6 (v := (0 : Int32)) (by decide) ?_
  refine x_iconst (pc := 7) dX12_sets_7 (v := (2 : Int32)) (by decide) ?_
  refine z_Si3 (pc := 8) h dX12_sets_8 lX12_362 (by omega) rfl (fun a e => w_X12_within _ _ _ _ a e) (fun v2 h => ?_)
  refine x_if_ne (pc := 11) dX12_sets_11 (tgt := 16) (by decide) (fun c28 => ?_) (fun c28 => ?_)
  · replace h := wo_neg c28 h
    refine x_iconst (pc := 16) dX12_sets_16 (v := (0 : Int32)) (by decide) ?_
    refine x_istore_n (ls' := [(2, _), (0, _), (1, _)]) (pc := 17) dX12_sets_17 rfl rfl rfl ?_
    refine x_iconst (pc := 18) dX12_sets_18 (v := (1 : Int32)) (by decide) ?_
    refine x_aload_n (pc := 19) dX12_sets_19 rfl ?_
    refine z_Vi0 (pc := 20) h dX12_sets_20 lX12_273 (by decide) (by omega) rfl (fun a e => w_X12_wrongs _ a e) (fun v3 h => ?_)
    refine x_ishl (pc := 23) dX12_sets_23 ?_
    refine x_iconst (pc := 24) dX12_sets_24 (v := (1 : Int32)) (by decide) ?_
    refine x_isub (pc := 25) dX12_sets_25 ?_
    refine x_leti h (fun v4 h => ?_)
    refine x_istore_n (ls' := [(3, _), (2, _), (0, _), (1, _)]) (pc := 26) dX12_sets_26 rfl rfl rfl ?_
    refine x_iconst (pc := 27) dX12_sets_27 (v := (0 : Int32)) (by decide) ?_
    refine x_istore (ls' := [(4, _), (3, _), (2, _), (0, _), (1, _)]) (pc := 28) dX12_sets_28 rfl rfl ?_
    refine x_iconst (pc := 30) dX12_sets_30 (v := (0 : Int32)) (by decide) ?_
    refine x_istore (ls' := [(5, _), (4, _), (3, _), (2, _), (0, _), (1, _)]) (pc := 31) dX12_sets_31 rfl rfl ?_
    have k33_0 : ∀ (e5 : Int32) (e6 : Int32) (e7 : Int32) (m8 : mi_M), wo (f_X12_sets_K33 p0 (e5, e6, e7, m8)) Q0 → mi_X mX12_sets (6) 74 [(1, vi p0), (2, vi e5), (3, vi e6), (4, vi e7)] [] m8 QX := by
      intro e5 e6 e7 m8 h
      unfold f_X12_sets_K33 at h
      try dsimp only at h
      refine x_iload_n (pc := 74) dX12_sets_74 rfl ?_
      have j101 : ∀ (u9 : Int32), wo (f_X12_sets_J101 m8 u9) Q0 → mi_X mX12_sets (6) 101 [] [vi u9] m8 QX := by
        intro u9 h
        unfold f_X12_sets_J101 at h
        exact x_iret (pc := 101) dX12_sets_101 rfl (by rw [hQX]; exact ⟨_, rfl, congrArg Prod.fst (hq0 _ (wo_some h)), congrArg Prod.snd (hq0 _ (wo_some h))⟩)
      refine x_if_ne (pc := 75) dX12_sets_75 (tgt := 82) (by decide) (fun c12 => ?_) (fun c12 => ?_)
      · replace h := wo_neg c12 h
        refine x_iload_n (pc := 82) dX12_sets_82 rfl ?_
        refine x_if_ne (pc := 83) dX12_sets_83 (tgt := 90) (by decide) (fun c11 => ?_) (fun c11 => ?_)
        · replace h := wo_neg c11 h
          refine x_iload_n (pc := 90) dX12_sets_90 rfl ?_
          refine x_iconst (pc := 91) dX12_sets_91 (v := (1 : Int32)) (by decide) ?_
          refine x_icmp_ne (pc := 92) dX12_sets_92 (tgt := 99) (by decide) (fun c10 => ?_) (fun c10 => ?_)
          · replace h := wo_neg c10 h
            refine x_iload (pc := 99) dX12_sets_99 rfl ?_
            refine x_sub [] trivial ?_
            exact j101 _ h
          · replace h := wo_pos c10 h
            refine x_iload_n (pc := 95) dX12_sets_95 rfl ?_
            refine x_goto (pc := 96) dX12_sets_96 (tgt := 101) (by decide) ?_
            refine x_sub [] trivial ?_
            exact j101 _ h
        · replace h := wo_pos c11 h
          refine x_iconst (pc := 86) dX12_sets_86 (v := (-1 : Int32)) (by decide) ?_
          refine x_goto (pc := 87) dX12_sets_87 (tgt := 101) (by decide) ?_
          refine x_sub [] trivial ?_
          exact j101 _ h
      · replace h := wo_pos c12 h
        refine x_iload_n (pc := 78) dX12_sets_78 rfl ?_
        refine x_goto (pc := 79) dX12_sets_79 (tgt := 101) (by decide) ?_
        refine x_sub [] trivial ?_
        exact j101 _ h
    refine x_sub [(0, _), (1, _), (2, _), (3, _), (4, _), (5, _)] ⟨rfl, rfl, rfl, rfl, rfl, rfl, trivial⟩ ?_
    obtain ⟨ea, eb, h⟩ := wo_bo h
    refine wo_lq (X := fun s => match s with | (l13, l14, l15, l16, m17) => mi_X mX12_sets (6) 33 [(0, vr 12 0), (1, vi p0), (2, vi l13), (3, vi l14), (4, vi l15), (5, vi l16)] [] m17 QX) (E := fun e => wo (f_X12_sets_K33 p0 e) Q0) ?_ _ ((0 : Int32), v4, (0 : Int32), (0 : Int32), m1) ⟨_, eb, h⟩
    intro Q33 hb33 he33 s h
    obtain ⟨l13, l14, l15, l16, m17⟩ := s
    show mi_X mX12_sets (6) 33 [(0, vr 12 0), (1, vi p0), (2, vi l13), (3, vi l14), (4, vi l15), (5, vi l16)] [] m17 QX
    unfold f_X12_sets_B33 at h
    try dsimp only at h
    refine x_iload (pc := 33) dX12_sets_33 rfl ?_
    refine x_iconst (pc := 35) dX12_sets_35 (v := (1 : Int32)) (by decide) ?_
    refine x_aload_n (pc := 36) dX12_sets_36 rfl ?_
    refine z_Vi0 (pc := 37) h dX12_sets_37 lX12_273 (by decide) (by omega) rfl (fun a e => w_X12_wrongs _ a e) (fun v18 h => ?_)
    refine x_ishl (pc := 40) dX12_sets_40 ?_
    refine x_icmp_ge (pc := 41) dX12_sets_41 (tgt := 74) (by decide) (fun c27 => ?_) (fun c27 => ?_)
    · replace h := wo_pos c27 h
      refine x_sub [(1, _), (2, _), (3, _), (4, _)] ⟨rfl, rfl, rfl, rfl, trivial⟩ ?_
      exact k33_0 _ _ _ _ (he33 (l13, l14, l15, m17) (wo_some h))
    · replace h := wo_neg c27 h
      refine x_aload_n (pc := 44) dX12_sets_44 rfl ?_
      refine x_iload (pc := 45) dX12_sets_45 rfl ?_
      refine y_Vi1 (pc := 47) h dX12_sets_47 lX12_440 (by decide) (by omega) rfl (fun a e => w_X12_fitsSights _ _ a e) (fun v19 m20 h => ?_)
      have j68 : ∀ (u21 : Int32) (u22 : Int32) (u23 : Int32), wo (f_X12_sets_J68 l16 m20 u21 u22 u23) Q33 → mi_X mX12_sets (6) 68 [(0, vr 12 0), (1, vi p0), (2, vi u21), (3, vi u22), (4, vi u23), (5, vi l16)] [] m20 QX := by
        intro u21 u22 u23 h
        unfold f_X12_sets_J68 at h
        refine x_iinc (ls' := [(5, _), (0, _), (1, _), (2, _), (3, _), (4, _)]) (pc := 68) dX12_sets_68 rfl (v := l16 + (1 : Int32)) rfl rfl rfl ?_
        refine x_goto (pc := 71) dX12_sets_71 (tgt := 33) (by decide) ?_
        refine x_sub [(0, _), (1, _), (2, _), (3, _), (4, _), (5, _)] ⟨rfl, rfl, rfl, rfl, rfl, rfl, trivial⟩ ?_
        exact hb33 (u21, u22, u23, (l16 + (1 : Int32)), m20) (wo_some h)
      refine x_if_eq (pc := 50) dX12_sets_50 (tgt := 68) (by decide) (fun c26 => ?_) (fun c26 => ?_)
      · replace h := wo_pos c26 h
        refine x_sub [(0, _), (1, _), (2, _), (3, _), (4, _), (5, _)] ⟨rfl, rfl, rfl, rfl, rfl, rfl, trivial⟩ ?_
        exact j68 _ _ _ h
      · replace h := wo_neg c26 h
        refine x_iinc (ls' := [(2, _), (0, _), (1, _), (3, _), (4, _), (5, _)]) (pc := 53) dX12_sets_53 rfl (v := l13 + (1 : Int32)) rfl rfl rfl ?_
        refine x_iload_n (pc := 56) dX12_sets_56 rfl ?_
        refine x_iload (pc := 57) dX12_sets_57 rfl ?_
        refine x_iand (pc := 59) dX12_sets_59 ?_
        refine x_leti h (fun v24 h => ?_)
        refine x_istore_n (ls' := [(3, _), (2, _), (0, _), (1, _), (4, _), (5, _)]) (pc := 60) dX12_sets_60 rfl rfl rfl ?_
        refine x_iload (pc := 61) dX12_sets_61 rfl ?_
        refine x_iload (pc := 63) dX12_sets_63 rfl ?_
        refine x_ior (pc := 65) dX12_sets_65 ?_
        refine x_leti h (fun v25 h => ?_)
        refine x_istore (ls' := [(4, _), (3, _), (2, _), (0, _), (1, _), (5, _)]) (pc := 66) dX12_sets_66 rfl rfl ?_
        refine x_sub [(0, _), (1, _), (2, _), (3, _), (4, _), (5, _)] ⟨rfl, rfl, rfl, rfl, rfl, rfl, trivial⟩ ?_
        exact j68 _ _ _ h
  · replace h := wo_pos c28 h
    refine x_iconst (pc := 14) dX12_sets_14 (v := (-1 : Int32)) (by decide) ?_
    exact x_iret (pc := 15) dX12_sets_15 rfl (by rw [hQX]; exact ⟨_, rfl, congrArg Prod.fst (hq0 _ (wo_some h)), congrArg Prod.snd (hq0 _ (wo_some h))⟩)
noncomputable def f_X12_standsAsAlways_B34 (p0 : Int32) : (Int32 × mi_M) → Option ((Int32 × mi_M) ⊕ (mi_M)) := fun s => match s with | (l5, m6) => if (3 : Int32) ≤ l5 then some (.inr m6) else mi_g (vp_in ((p0 + (6 : Int32)) + l5) 200) (mi_let (mi_wI m6 56 0 ((p0 + (6 : Int32)) + l5).toNatClampNeg (-1 : Int32)) fun m8 => some (.inl ((l5 + (1 : Int32)), m8)))
noncomputable def f_X12_standsAsAlways_K34 : mi_M → Option (mi_M) := fun m4 => some m4
noncomputable def f_X12_standsAsAlways_B2 (p0 : Int32) : (Int32 × mi_M) → Option ((Int32 × mi_M) ⊕ (mi_M)) := fun s => match s with | (l10, m11) => if (100 : Int32) ≤ l10 then some (.inr m11) else mi_g (vp_in (p0 + l10) 200) (mi_let (mi_wI m11 56 0 (p0 + l10).toNatClampNeg (0 : Int32)) fun m13 => some (.inl ((l10 + (1 : Int32)), m13)))
noncomputable def f_X12_standsAsAlways_K2 (p0 : Int32) : mi_M → Option (mi_M) := fun m1 => mi_g (vp_in (p0 + (4 : Int32)) 200) (mi_let (mi_wI m1 56 0 (p0 + (4 : Int32)).toNatClampNeg (3 : Int32)) fun m3 => mi_bo (mi_lp (f_X12_standsAsAlways_B34 p0) mi_fu ((0 : Int32), m3)) (f_X12_standsAsAlways_K34))
noncomputable def f_X12_standsAsAlways (p0 : Int32) (mem : mi_M) : Option (mi_M) := mi_bo (mi_lp (f_X12_standsAsAlways_B2 p0) mi_fu ((0 : Int32), mem)) (f_X12_standsAsAlways_K2 p0)
set_option maxRecDepth 100000 in
set_option maxHeartbeats 4000000 in
theorem w_X12_standsAsAlways (p0 : Int32) (mem : mi_M) (a : mi_M) (e : f_X12_standsAsAlways p0 mem = some a) : mi_Cv (1) mX12_standsAsAlways [vr 12 0, vi p0] mem (fun m' => m' = a) := by
  unfold mi_Cv
  refine mi_C_intro (ls := [(0, vr 12 0), (1, vi p0)]) (by decide) rfl rfl ?_
  obtain ⟨Q0, hq0, h⟩ : ∃ Q0 : mi_M → Prop, (∀ b, Q0 b → b = a) ∧ wo (f_X12_standsAsAlways p0 mem) Q0 := ⟨fun b => b = a, fun _ h => h, wo_eq e⟩
  obtain ⟨QX, hQX⟩ : ∃ QX : Option mi_V → mi_M → Prop, QX = (fun r m' => r = none ∧ m' = a) := ⟨_, rfl⟩
  rw [← hQX]
  unfold f_X12_standsAsAlways at h
  refine x_iconst (pc := 0) dX12_standsAsAlways_0 (v := (0 : Int32)) (by decide) ?_
  refine x_istore_n (ls' := [(2, _), (0, _), (1, _)]) (pc := 1) dX12_standsAsAlways_1 rfl rfl rfl ?_
  have k2_0 : ∀ (m1 : mi_M), wo (f_X12_standsAsAlways_K2 p0 m1) Q0 → mi_X mX12_standsAsAlways (1) 23 [(0, vr 12 0), (1, vi p0)] [] m1 QX := by
    intro m1 h
    unfold f_X12_standsAsAlways_K2 at h
    try dsimp only at h
    refine x_aload_n (pc := 23) dX12_standsAsAlways_23 rfl ?_
    refine x_getS (pc := 24) dX12_standsAsAlways_24 fX12_89 rfl (by decide) ?_
    refine x_iload_n (pc := 27) dX12_standsAsAlways_27 rfl ?_
    refine x_iconst (pc := 28) dX12_standsAsAlways_28 (v := (4 : Int32)) (by decide) ?_
    refine x_iadd (pc := 29) dX12_standsAsAlways_29 ?_
    refine x_iconst (pc := 30) dX12_standsAsAlways_30 (v := (3 : Int32)) (by decide) ?_
    obtain ⟨hx2, h⟩ := wo_g h
    refine x_iastJ (pc := 31) dX12_standsAsAlways_31 rfl rfl (by decide) rfl hx2 ?_
    refine x_letm h (fun m3 h => ?_)
    refine x_iconst (pc := 32) dX12_standsAsAlways_32 (v := (0 : Int32)) (by decide) ?_
    refine x_istore_n (ls' := [(2, _), (0, _), (1, _)]) (pc := 33) dX12_standsAsAlways_33 rfl rfl rfl ?_
    have k34_0 : ∀ (m4 : mi_M), wo (f_X12_standsAsAlways_K34 m4) Q0 → mi_X mX12_standsAsAlways (1) 57 [] [] m4 QX := by
      intro m4 h
      unfold f_X12_standsAsAlways_K34 at h
      try dsimp only at h
      exact x_ret (pc := 57) dX12_standsAsAlways_57 rfl (by rw [hQX]; exact ⟨rfl, hq0 _ (wo_some h)⟩)
    refine x_sub [(0, _), (1, _), (2, _)] ⟨rfl, rfl, rfl, trivial⟩ ?_
    obtain ⟨ea, eb, h⟩ := wo_bo h
    refine wo_lq (X := fun s => match s with | (l5, m6) => mi_X mX12_standsAsAlways (1) 34 [(0, vr 12 0), (1, vi p0), (2, vi l5)] [] m6 QX) (E := fun e => wo (f_X12_standsAsAlways_K34 e) Q0) ?_ _ ((0 : Int32), m3) ⟨_, eb, h⟩
    intro Q34 hb34 he34 s h
    obtain ⟨l5, m6⟩ := s
    show mi_X mX12_standsAsAlways (1) 34 [(0, vr 12 0), (1, vi p0), (2, vi l5)] [] m6 QX
    unfold f_X12_standsAsAlways_B34 at h
    try dsimp only at h
    refine x_iload_n (pc := 34) dX12_standsAsAlways_34 rfl ?_
    refine x_iconst (pc := 35) dX12_standsAsAlways_35 (v := (3 : Int32)) (by decide) ?_
    refine x_icmp_ge (pc := 36) dX12_standsAsAlways_36 (tgt := 57) (by decide) (fun c9 => ?_) (fun c9 => ?_)
    · replace h := wo_pos c9 h
      refine x_sub [] trivial ?_
      exact k34_0 _ (he34 m6 (wo_some h))
    · replace h := wo_neg c9 h
      refine x_aload_n (pc := 39) dX12_standsAsAlways_39 rfl ?_
      refine x_getS (pc := 40) dX12_standsAsAlways_40 fX12_89 rfl (by decide) ?_
      refine x_iload_n (pc := 43) dX12_standsAsAlways_43 rfl ?_
      refine x_bipush (pc := 44) dX12_standsAsAlways_44 (v := (6 : Int32)) (by decide) ?_
      refine x_iadd (pc := 46) dX12_standsAsAlways_46 ?_
      refine x_iload_n (pc := 47) dX12_standsAsAlways_47 rfl ?_
      refine x_iadd (pc := 48) dX12_standsAsAlways_48 ?_
      refine x_iconst (pc := 49) dX12_standsAsAlways_49 (v := (-1 : Int32)) (by decide) ?_
      obtain ⟨hx7, h⟩ := wo_g h
      refine x_iastJ (pc := 50) dX12_standsAsAlways_50 rfl rfl (by decide) rfl hx7 ?_
      refine x_letm h (fun m8 h => ?_)
      refine x_iinc (ls' := [(2, _), (0, _), (1, _)]) (pc := 51) dX12_standsAsAlways_51 rfl (v := l5 + (1 : Int32)) rfl rfl rfl ?_
      refine x_goto (pc := 54) dX12_standsAsAlways_54 (tgt := 34) (by decide) ?_
      refine x_sub [(0, _), (1, _), (2, _)] ⟨rfl, rfl, rfl, trivial⟩ ?_
      exact hb34 ((l5 + (1 : Int32)), m8) (wo_some h)
  refine x_sub [(0, _), (1, _), (2, _)] ⟨rfl, rfl, rfl, trivial⟩ ?_
  obtain ⟨ea, eb, h⟩ := wo_bo h
  refine wo_lq (X := fun s => match s with | (l10, m11) => mi_X mX12_standsAsAlways (1) 2 [(0, vr 12 0), (1, vi p0), (2, vi l10)] [] m11 QX) (E := fun e => wo (f_X12_standsAsAlways_K2 p0 e) Q0) ?_ _ ((0 : Int32), mem) ⟨_, eb, h⟩
  intro Q2 hb2 he2 s h
  obtain ⟨l10, m11⟩ := s
  show mi_X mX12_standsAsAlways (1) 2 [(0, vr 12 0), (1, vi p0), (2, vi l10)] [] m11 QX
  unfold f_X12_standsAsAlways_B2 at h
  try dsimp only at h
  refine x_iload_n (pc := 2) dX12_standsAsAlways_2 rfl ?_
  refine x_bipush (pc := 3) dX12_standsAsAlways_3 (v := (100 : Int32)) (by decide) ?_
  refine x_icmp_ge (pc := 5) dX12_standsAsAlways_5 (tgt := 23) (by decide) (fun c14 => ?_) (fun c14 => ?_)
  · replace h := wo_pos c14 h
    refine x_sub [(0, _), (1, _)] ⟨rfl, rfl, trivial⟩ ?_
    exact k2_0 _ (he2 m11 (wo_some h))
  · replace h := wo_neg c14 h
    refine x_aload_n (pc := 8) dX12_standsAsAlways_8 rfl ?_
    refine x_getS (pc := 9) dX12_standsAsAlways_9 fX12_89 rfl (by decide) ?_
    refine x_iload_n (pc := 12) dX12_standsAsAlways_12 rfl ?_
    refine x_iload_n (pc := 13) dX12_standsAsAlways_13 rfl ?_
    refine x_iadd (pc := 14) dX12_standsAsAlways_14 ?_
    refine x_iconst (pc := 15) dX12_standsAsAlways_15 (v := (0 : Int32)) (by decide) ?_
    obtain ⟨hx12, h⟩ := wo_g h
    refine x_iastJ (pc := 16) dX12_standsAsAlways_16 rfl rfl (by decide) rfl hx12 ?_
    refine x_letm h (fun m13 h => ?_)
    refine x_iinc (ls' := [(2, _), (0, _), (1, _)]) (pc := 17) dX12_standsAsAlways_17 rfl (v := l10 + (1 : Int32)) rfl rfl rfl ?_
    refine x_goto (pc := 20) dX12_standsAsAlways_20 (tgt := 2) (by decide) ?_
    refine x_sub [(0, _), (1, _), (2, _)] ⟨rfl, rfl, rfl, trivial⟩ ?_
    exact hb2 ((l10 + (1 : Int32)), m13) (wo_some h)
noncomputable def f_X12_stays_B18 (p0 : Int32) (p1 : Int32) : (Int32 × mi_M) → Option ((Int32 × mi_M) ⊕ (Int32 × mi_M)) := fun s => match s with | (l5, m6) => if (99 : Int32) ≤ l5 then some (.inr (l5, m6)) else mi_bo (f_X12_lampsBehind l5 m6) fun v7 => mi_b (f_X12_isLit v7 p0 p1 m6) fun v8 m9 => if v8 = 0 then some (.inr (l5, m9)) else some (.inl ((l5 + (1 : Int32)), m9))
noncomputable def f_X12_stays_K18 : (Int32 × mi_M) → Option (Int32 × mi_M) := fun e => match e with | (e3, m4) => some (e3, m4)
noncomputable def f_X12_stays (p0 : Int32) (p1 : Int32) (mem : mi_M) : Option (Int32 × mi_M) := mi_let (mi_wI mem 12 0 0 (0 : Int32)) fun m1 => mi_bo (f_X12_areTwo p0 p1 m1) fun v2 => if v2 = 0 then some ((-1 : Int32), m1) else mi_bo (mi_lp (f_X12_stays_B18 p0 p1) mi_fu ((0 : Int32), m1)) (f_X12_stays_K18)
set_option maxRecDepth 100000 in
set_option maxHeartbeats 4000000 in
theorem w_X12_stays (p0 : Int32) (p1 : Int32) (mem : mi_M) (a : Int32 × mi_M) (e : f_X12_stays p0 p1 mem = some a) : mi_Ci (4) mX12_stays [vr 12 0, vi p0, vi p1] mem (fun x m' => x = a.1 ∧ m' = a.2) := by
  unfold mi_Ci
  refine mi_C_intro (ls := [(0, vr 12 0), (1, vi p0), (2, vi p1)]) (by decide) rfl rfl ?_
  obtain ⟨Q0, hq0, h⟩ : ∃ Q0 : (Int32 × mi_M) → Prop, (∀ b, Q0 b → b = a) ∧ wo (f_X12_stays p0 p1 mem) Q0 := ⟨fun b => b = a, fun _ h => h, wo_eq e⟩
  obtain ⟨QX, hQX⟩ : ∃ QX : Option mi_V → mi_M → Prop, QX = (fun r m' => ∃ x, r = some (vi x) ∧ x = a.1 ∧ m' = a.2) := ⟨_, rfl⟩
  rw [← hQX]
  unfold f_X12_stays at h
  refine x_aload_n (pc := 0) dX12_stays_0 rfl ?_
  refine x_iconst (pc := 1) dX12_stays_1 (v := (0 : Int32)) (by decide) ?_
  refine x_putI (pc := 2) dX12_stays_2 fX12_1 rfl (by decide) rfl rfl ?_
  refine x_letm h (fun m1 h => ?_)
  refine x_aload_n (pc := 5) dX12_stays_5 rfl ?_
  refine x_iload_n (pc := 6) dX12_stays_6 rfl ?_
  refine x_iload_n (pc := 7) dX12_stays_7 rfl ?_
  refine z_Vi2 (pc := 8) h dX12_stays_8 lX12_365 (by decide) (by omega) rfl (fun a e => w_X12_areTwo _ _ _ a e) (fun v2 h => ?_)
  refine x_if_ne (pc := 11) dX12_stays_11 (tgt := 16) (by decide) (fun c12 => ?_) (fun c12 => ?_)
  · replace h := wo_neg c12 h
    refine x_iconst (pc := 16) dX12_stays_16 (v := (0 : Int32)) (by decide) ?_
    refine x_istore_n (ls' := [(3, _), (0, _), (1, _), (2, _)]) (pc := 17) dX12_stays_17 rfl rfl rfl ?_
    have k18_0 : ∀ (e3 : Int32) (m4 : mi_M), wo (f_X12_stays_K18 (e3, m4)) Q0 → mi_X mX12_stays (4) 44 [(3, vi e3)] [] m4 QX := by
      intro e3 m4 h
      unfold f_X12_stays_K18 at h
      try dsimp only at h
      refine x_iload_n (pc := 44) dX12_stays_44 rfl ?_
      exact x_iret (pc := 45) dX12_stays_45 rfl (by rw [hQX]; exact ⟨_, rfl, congrArg Prod.fst (hq0 _ (wo_some h)), congrArg Prod.snd (hq0 _ (wo_some h))⟩)
    refine x_sub [(0, _), (1, _), (2, _), (3, _)] ⟨rfl, rfl, rfl, rfl, trivial⟩ ?_
    obtain ⟨ea, eb, h⟩ := wo_bo h
    refine wo_lq (X := fun s => match s with | (l5, m6) => mi_X mX12_stays (4) 18 [(0, vr 12 0), (1, vi p0), (2, vi p1), (3, vi l5)] [] m6 QX) (E := fun e => wo (f_X12_stays_K18 e) Q0) ?_ _ ((0 : Int32), m1) ⟨_, eb, h⟩
    intro Q18 hb18 he18 s h
    obtain ⟨l5, m6⟩ := s
    show mi_X mX12_stays (4) 18 [(0, vr 12 0), (1, vi p0), (2, vi p1), (3, vi l5)] [] m6 QX
    unfold f_X12_stays_B18 at h
    try dsimp only at h
    refine x_iload_n (pc := 18) dX12_stays_18 rfl ?_
    refine x_bipush (pc := 19) dX12_stays_19 (v := (99 : Int32)) (by decide) ?_
    refine x_icmp_ge (pc := 21) dX12_stays_21 (tgt := 44) (by decide) (fun c11 => ?_) (fun c11 => ?_)
    · replace h := wo_pos c11 h
      refine x_sub [(3, _)] ⟨rfl, trivial⟩ ?_
      exact k18_0 _ _ (he18 (l5, m6) (wo_some h))
    · replace h := wo_neg c11 h
      refine x_aload_n (pc := 24) dX12_stays_24 rfl ?_
      refine x_aload_n (pc := 25) dX12_stays_25 rfl ?_
      refine x_iload_n (pc := 26) dX12_stays_26 rfl ?_
      refine z_Vi1 (pc := 27) h dX12_stays_27 lX12_410 (by decide) (by omega) rfl (fun a e => w_X12_lampsBehind _ _ a e) (fun v7 h => ?_)
      refine x_iload_n (pc := 30) dX12_stays_30 rfl ?_
      refine x_iload_n (pc := 31) dX12_stays_31 rfl ?_
      refine y_Vi3 (pc := 32) h dX12_stays_32 lX12_401 (by decide) (by omega) rfl (fun a e => w_X12_isLit _ _ _ _ a e) (fun v8 m9 h => ?_)
      refine x_if_eq (pc := 35) dX12_stays_35 (tgt := 44) (by decide) (fun c10 => ?_) (fun c10 => ?_)
      · replace h := wo_pos c10 h
        refine x_sub [(3, _)] ⟨rfl, trivial⟩ ?_
        exact k18_0 _ _ (he18 (l5, m9) (wo_some h))
      · replace h := wo_neg c10 h
        refine x_iinc (ls' := [(3, _), (0, _), (1, _), (2, _)]) (pc := 38) dX12_stays_38 rfl (v := l5 + (1 : Int32)) rfl rfl rfl ?_
        refine x_goto (pc := 41) dX12_stays_41 (tgt := 18) (by decide) ?_
        refine x_sub [(0, _), (1, _), (2, _), (3, _)] ⟨rfl, rfl, rfl, rfl, trivial⟩ ?_
        exact hb18 ((l5 + (1 : Int32)), m9) (wo_some h)
  · replace h := wo_pos c12 h
    refine x_iconst (pc := 14) dX12_stays_14 (v := (-1 : Int32)) (by decide) ?_
    exact x_iret (pc := 15) dX12_stays_15 rfl (by rw [hQX]; exact ⟨_, rfl, congrArg Prod.fst (hq0 _ (wo_some h)), congrArg Prod.snd (hq0 _ (wo_some h))⟩)
noncomputable def f_X12_thrown (mem : mi_M) : Option (Int32) := some (mem.1 12 0 0)
set_option maxRecDepth 100000 in
set_option maxHeartbeats 4000000 in
theorem w_X12_thrown (mem : mi_M) (a : Int32) (e : f_X12_thrown  mem = some a) : mi_Ci (1) mX12_thrown [vr 12 0] mem (fun x m' => x = a ∧ m' = mem) := by
  unfold mi_Ci
  refine mi_C_intro (ls := [(0, vr 12 0)]) (by decide) rfl rfl ?_
  obtain ⟨Q0, hq0, h⟩ : ∃ Q0 : Int32 → Prop, (∀ b, Q0 b → b = a) ∧ wo (f_X12_thrown  mem) Q0 := ⟨fun b => b = a, fun _ h => h, wo_eq e⟩
  obtain ⟨QX, hQX⟩ : ∃ QX : Option mi_V → mi_M → Prop, QX = (fun r m' => ∃ x, r = some (vi x) ∧ x = a ∧ m' = mem) := ⟨_, rfl⟩
  rw [← hQX]
  unfold f_X12_thrown at h
  refine x_aload_n (pc := 0) dX12_thrown_0 rfl ?_
  refine x_getI (pc := 1) dX12_thrown_1 fX12_1 rfl (by decide) ?_
  exact x_iret (pc := 4) dX12_thrown_4 rfl (by rw [hQX]; exact ⟨_, rfl, hq0 _ (wo_some h), rfl⟩)
noncomputable def f_X12_town_B153 : (Int32 × mi_M) → Option ((Int32 × mi_M) ⊕ (mi_M)) := fun s => match s with | (l12, m13) => if (m13.1 12 0 16) ≤ l12 then some (.inr m13) else mi_g (vp_in l12 6) (mi_g (vp_in l12 6) (mi_let (mi_wL m13 59 0 l12.toNatClampNeg (m13.2.1 60 0 l12.toNatClampNeg)) fun m16 => some (.inl ((l12 + (1 : Int32)), m16))))
noncomputable def f_X12_town_K153 : mi_M → Option (Int32 × mi_M) := fun m10 => mi_bo (f_X12_begins m10) fun m11 => some ((0 : Int32), m11)
noncomputable def f_X12_town_B105 : (Int32 × mi_M) → Option ((Int32 × mi_M) ⊕ (mi_M)) := fun s => match s with | (l18, m19) => if (m19.1 12 0 13) ≤ l18 then some (.inr m19) else mi_g (vp_in ((1100 : Int32) + l18) 2200) (mi_g (vp_in l18 2200) (mi_let (mi_wI m19 57 0 l18.toNatClampNeg (m19.1 57 0 ((1100 : Int32) + l18).toNatClampNeg)) fun m22 => mi_g (vp_in ((1100 : Int32) + l18) 2200) (mi_g (vp_in l18 2200) (mi_let (mi_wI m22 58 0 l18.toNatClampNeg (m22.1 58 0 ((1100 : Int32) + l18).toNatClampNeg)) fun m25 => some (.inl ((l18 + (1 : Int32)), m25))))))
noncomputable def f_X12_town_K105 : mi_M → Option (Int32 × mi_M) := fun m9 => mi_bo (mi_lp (f_X12_town_B153) mi_fu ((0 : Int32), m9)) (f_X12_town_K153)
noncomputable def f_X12_town_B76 : (Int32 × mi_M) → Option ((Int32 × mi_M) ⊕ (mi_M)) := fun s => match s with | (l27, m28) => if (100 : Int32) ≤ l27 then some (.inr m28) else mi_g (vp_in ((100 : Int32) + l27) 200) (mi_g (vp_in l27 200) (mi_let (mi_wI m28 56 0 l27.toNatClampNeg (m28.1 56 0 ((100 : Int32) + l27).toNatClampNeg)) fun m31 => some (.inl ((l27 + (1 : Int32)), m31))))
noncomputable def f_X12_town_K76 : mi_M → Option (Int32 × mi_M) := fun m8 => mi_bo (mi_lp (f_X12_town_B105) mi_fu ((0 : Int32), m8)) (f_X12_town_K105)
noncomputable def f_X12_town_B30 : mi_M → Option ((mi_M) ⊕ (mi_M)) := fun m34 => if (m34.1 12 0 8) = 0 then mi_g (vp_in (m34.1 12 0 7) 1002) (if (m34.1 52 0 (m34.1 12 0 7).toNatClampNeg) = 0 then some (.inr m34) else mi_bo (f_X12_readLine m34) fun m36 => mi_bo (f_X12_takeSign (59 : Int32) m36) fun m37 => some (.inl m37)) else some (.inr m34)
noncomputable def f_X12_town_K30 : mi_M → Option (Int32 × mi_M) := fun m7 => if (m7.1 12 0 8) ≤ 0 then mi_bo (mi_lp (f_X12_town_B76) mi_fu ((0 : Int32), m7)) (f_X12_town_K76) else some ((m7.1 12 0 8), m7)
noncomputable def f_X12_town (mem : mi_M) : Option (Int32 × mi_M) := mi_let (mi_wI mem 12 0 0 (0 : Int32)) fun m1 => mi_bo (f_X12_cutAll m1) fun m2 => mi_let (mi_wI m2 12 0 13 (0 : Int32)) fun m3 => mi_let (mi_wI m3 12 0 16 (0 : Int32)) fun m4 => mi_let (mi_wI m4 12 0 17 (0 : Int32)) fun m5 => mi_bo (f_X12_standsAsAlways (100 : Int32) m5) fun m6 => mi_bo (mi_lp (f_X12_town_B30) mi_fu m6) (f_X12_town_K30)
set_option maxRecDepth 100000 in
set_option maxHeartbeats 4000000 in
theorem w_X12_town (mem : mi_M) (a : Int32 × mi_M) (e : f_X12_town  mem = some a) : mi_Ci (46) mX12_town [vr 12 0] mem (fun x m' => x = a.1 ∧ m' = a.2) := by
  unfold mi_Ci
  refine mi_C_intro (ls := [(0, vr 12 0)]) (by decide) rfl rfl ?_
  obtain ⟨Q0, hq0, h⟩ : ∃ Q0 : (Int32 × mi_M) → Prop, (∀ b, Q0 b → b = a) ∧ wo (f_X12_town  mem) Q0 := ⟨fun b => b = a, fun _ h => h, wo_eq e⟩
  obtain ⟨QX, hQX⟩ : ∃ QX : Option mi_V → mi_M → Prop, QX = (fun r m' => ∃ x, r = some (vi x) ∧ x = a.1 ∧ m' = a.2) := ⟨_, rfl⟩
  rw [← hQX]
  unfold f_X12_town at h
  refine x_aload_n (pc := 0) dX12_town_0 rfl ?_
  refine x_iconst (pc := 1) dX12_town_1 (v := (0 : Int32)) (by decide) ?_
  refine x_putI (pc := 2) dX12_town_2 fX12_1 rfl (by decide) rfl rfl ?_
  refine x_letm h (fun m1 h => ?_)
  refine x_aload_n (pc := 5) dX12_town_5 rfl ?_
  refine y_Vv0 (pc := 6) h dX12_town_6 lX12_222 (by decide) (by omega) rfl (fun a e => w_X12_cutAll _ a e) (fun m2 h => ?_)
  refine x_aload_n (pc := 9) dX12_town_9 rfl ?_
  refine x_iconst (pc := 10) dX12_town_10 (v := (0 : Int32)) (by decide) ?_
  refine x_putI (pc := 11) dX12_town_11 fX12_225 rfl (by decide) rfl rfl ?_
  refine x_letm h (fun m3 h => ?_)
  refine x_aload_n (pc := 14) dX12_town_14 rfl ?_
  refine x_iconst (pc := 15) dX12_town_15 (v := (0 : Int32)) (by decide) ?_
  refine x_putI (pc := 16) dX12_town_16 fX12_208 rfl (by decide) rfl rfl ?_
  refine x_letm h (fun m4 h => ?_)
  refine x_aload_n (pc := 19) dX12_town_19 rfl ?_
  refine x_iconst (pc := 20) dX12_town_20 (v := (0 : Int32)) (by decide) ?_
  refine x_putI (pc := 21) dX12_town_21 fX12_228 rfl (by decide) rfl rfl ?_
  refine x_letm h (fun m5 h => ?_)
  refine x_aload_n (pc := 24) dX12_town_24 rfl ?_
  refine x_bipush (pc := 25) dX12_town_25 (v := (100 : Int32)) (by decide) ?_
  refine y_Vv1 (pc := 27) h dX12_town_27 lX12_150 (by decide) (by omega) rfl (fun a e => w_X12_standsAsAlways _ _ a e) (fun m6 h => ?_)
  have k30_0 : ∀ (m7 : mi_M), wo (f_X12_town_K30 m7) Q0 → mi_X mX12_town (46) 62 [(0, vr 12 0)] [] m7 QX := by
    intro m7 h
    unfold f_X12_town_K30 at h
    try dsimp only at h
    refine x_aload_n (pc := 62) dX12_town_62 rfl ?_
    refine x_getI (pc := 63) dX12_town_63 fX12_183 rfl (by decide) ?_
    refine x_if_le (pc := 66) dX12_town_66 (tgt := 74) (by decide) (fun c33 => ?_) (fun c33 => ?_)
    · replace h := wo_pos c33 h
      refine x_iconst (pc := 74) dX12_town_74 (v := (0 : Int32)) (by decide) ?_
      refine x_istore_n (ls' := [(1, _), (0, _)]) (pc := 75) dX12_town_75 rfl rfl rfl ?_
      have k76_0 : ∀ (m8 : mi_M), wo (f_X12_town_K76 m8) Q0 → mi_X mX12_town (46) 103 [(0, vr 12 0)] [] m8 QX := by
        intro m8 h
        unfold f_X12_town_K76 at h
        try dsimp only at h
        refine x_iconst (pc := 103) dX12_town_103 (v := (0 : Int32)) (by decide) ?_
        refine x_istore_n (ls' := [(1, _), (0, _)]) (pc := 104) dX12_town_104 rfl rfl rfl ?_
        have k105_0 : ∀ (m9 : mi_M), wo (f_X12_town_K105 m9) Q0 → mi_X mX12_town (46) 151 [(0, vr 12 0)] [] m9 QX := by
          intro m9 h
          unfold f_X12_town_K105 at h
          try dsimp only at h
          refine x_iconst (pc := 151) dX12_town_151 (v := (0 : Int32)) (by decide) ?_
          refine x_istore_n (ls' := [(1, _), (0, _)]) (pc := 152) dX12_town_152 rfl rfl rfl ?_
          have k153_0 : ∀ (m10 : mi_M), wo (f_X12_town_K153 m10) Q0 → mi_X mX12_town (46) 179 [(0, vr 12 0)] [] m10 QX := by
            intro m10 h
            unfold f_X12_town_K153 at h
            try dsimp only at h
            refine x_aload_n (pc := 179) dX12_town_179 rfl ?_
            refine y_Vv0 (pc := 180) h dX12_town_180 lX12_154 (by decide) (by omega) rfl (fun a e => w_X12_begins _ a e) (fun m11 h => ?_)
            refine x_iconst (pc := 183) dX12_town_183 (v := (0 : Int32)) (by decide) ?_
            exact x_iret (pc := 184) dX12_town_184 rfl (by rw [hQX]; exact ⟨_, rfl, congrArg Prod.fst (hq0 _ (wo_some h)), congrArg Prod.snd (hq0 _ (wo_some h))⟩)
          refine x_sub [(0, _), (1, _)] ⟨rfl, rfl, trivial⟩ ?_
          obtain ⟨ea, eb, h⟩ := wo_bo h
          refine wo_lq (X := fun s => match s with | (l12, m13) => mi_X mX12_town (46) 153 [(0, vr 12 0), (1, vi l12)] [] m13 QX) (E := fun e => wo (f_X12_town_K153 e) Q0) ?_ _ ((0 : Int32), m9) ⟨_, eb, h⟩
          intro Q153 hb153 he153 s h
          obtain ⟨l12, m13⟩ := s
          show mi_X mX12_town (46) 153 [(0, vr 12 0), (1, vi l12)] [] m13 QX
          unfold f_X12_town_B153 at h
          try dsimp only at h
          refine x_iload_n (pc := 153) dX12_town_153 rfl ?_
          refine x_aload_n (pc := 154) dX12_town_154 rfl ?_
          refine x_getI (pc := 155) dX12_town_155 fX12_208 rfl (by decide) ?_
          refine x_icmp_ge (pc := 158) dX12_town_158 (tgt := 179) (by decide) (fun c17 => ?_) (fun c17 => ?_)
          · replace h := wo_pos c17 h
            refine x_sub [(0, _)] ⟨rfl, trivial⟩ ?_
            exact k153_0 _ (he153 m13 (wo_some h))
          · replace h := wo_neg c17 h
            refine x_aload_n (pc := 161) dX12_town_161 rfl ?_
            refine x_getS (pc := 162) dX12_town_162 fX12_98 rfl (by decide) ?_
            refine x_iload_n (pc := 165) dX12_town_165 rfl ?_
            refine x_aload_n (pc := 166) dX12_town_166 rfl ?_
            refine x_getS (pc := 167) dX12_town_167 fX12_101 rfl (by decide) ?_
            refine x_iload_n (pc := 170) dX12_town_170 rfl ?_
            obtain ⟨hx14, h⟩ := wo_g h
            refine x_laldJ (pc := 171) dX12_town_171 rfl rfl (by decide) hx14 ?_
            obtain ⟨hx15, h⟩ := wo_g h
            refine x_lastJ (pc := 172) dX12_town_172 rfl rfl (by decide) rfl hx15 ?_
            refine x_letm h (fun m16 h => ?_)
            refine x_iinc (ls' := [(1, _), (0, _)]) (pc := 173) dX12_town_173 rfl (v := l12 + (1 : Int32)) rfl rfl rfl ?_
            refine x_goto (pc := 176) dX12_town_176 (tgt := 153) (by decide) ?_
            refine x_sub [(0, _), (1, _)] ⟨rfl, rfl, trivial⟩ ?_
            exact hb153 ((l12 + (1 : Int32)), m16) (wo_some h)
        refine x_sub [(0, _), (1, _)] ⟨rfl, rfl, trivial⟩ ?_
        obtain ⟨ea, eb, h⟩ := wo_bo h
        refine wo_lq (X := fun s => match s with | (l18, m19) => mi_X mX12_town (46) 105 [(0, vr 12 0), (1, vi l18)] [] m19 QX) (E := fun e => wo (f_X12_town_K105 e) Q0) ?_ _ ((0 : Int32), m8) ⟨_, eb, h⟩
        intro Q105 hb105 he105 s h
        obtain ⟨l18, m19⟩ := s
        show mi_X mX12_town (46) 105 [(0, vr 12 0), (1, vi l18)] [] m19 QX
        unfold f_X12_town_B105 at h
        try dsimp only at h
        refine x_iload_n (pc := 105) dX12_town_105 rfl ?_
        refine x_aload_n (pc := 106) dX12_town_106 rfl ?_
        refine x_getI (pc := 107) dX12_town_107 fX12_225 rfl (by decide) ?_
        refine x_icmp_ge (pc := 110) dX12_town_110 (tgt := 151) (by decide) (fun c26 => ?_) (fun c26 => ?_)
        · replace h := wo_pos c26 h
          refine x_sub [(0, _)] ⟨rfl, trivial⟩ ?_
          exact k105_0 _ (he105 m19 (wo_some h))
        · replace h := wo_neg c26 h
          refine x_aload_n (pc := 113) dX12_town_113 rfl ?_
          refine x_getS (pc := 114) dX12_town_114 fX12_92 rfl (by decide) ?_
          refine x_iload_n (pc := 117) dX12_town_117 rfl ?_
          refine x_aload_n (pc := 118) dX12_town_118 rfl ?_
          refine x_getS (pc := 119) dX12_town_119 fX12_92 rfl (by decide) ?_
          refine x_sipush (pc := 122) dX12_town_122 (v := (1100 : Int32)) (by decide) ?_
          refine x_iload_n (pc := 125) dX12_town_125 rfl ?_
          refine x_iadd (pc := 126) dX12_town_126 ?_
          obtain ⟨hx20, h⟩ := wo_g h
          refine x_ialdJ (pc := 127) dX12_town_127 rfl rfl (by decide) hx20 ?_
          obtain ⟨hx21, h⟩ := wo_g h
          refine x_iastJ (pc := 128) dX12_town_128 rfl rfl (by decide) rfl hx21 ?_
          refine x_letm h (fun m22 h => ?_)
          refine x_aload_n (pc := 129) dX12_town_129 rfl ?_
          refine x_getS (pc := 130) dX12_town_130 fX12_95 rfl (by decide) ?_
          refine x_iload_n (pc := 133) dX12_town_133 rfl ?_
          refine x_aload_n (pc := 134) dX12_town_134 rfl ?_
          refine x_getS (pc := 135) dX12_town_135 fX12_95 rfl (by decide) ?_
          refine x_sipush (pc := 138) dX12_town_138 (v := (1100 : Int32)) (by decide) ?_
          refine x_iload_n (pc := 141) dX12_town_141 rfl ?_
          refine x_iadd (pc := 142) dX12_town_142 ?_
          obtain ⟨hx23, h⟩ := wo_g h
          refine x_ialdJ (pc := 143) dX12_town_143 rfl rfl (by decide) hx23 ?_
          obtain ⟨hx24, h⟩ := wo_g h
          refine x_iastJ (pc := 144) dX12_town_144 rfl rfl (by decide) rfl hx24 ?_
          refine x_letm h (fun m25 h => ?_)
          refine x_iinc (ls' := [(1, _), (0, _)]) (pc := 145) dX12_town_145 rfl (v := l18 + (1 : Int32)) rfl rfl rfl ?_
          refine x_goto (pc := 148) dX12_town_148 (tgt := 105) (by decide) ?_
          refine x_sub [(0, _), (1, _)] ⟨rfl, rfl, trivial⟩ ?_
          exact hb105 ((l18 + (1 : Int32)), m25) (wo_some h)
      refine x_sub [(0, _), (1, _)] ⟨rfl, rfl, trivial⟩ ?_
      obtain ⟨ea, eb, h⟩ := wo_bo h
      refine wo_lq (X := fun s => match s with | (l27, m28) => mi_X mX12_town (46) 76 [(0, vr 12 0), (1, vi l27)] [] m28 QX) (E := fun e => wo (f_X12_town_K76 e) Q0) ?_ _ ((0 : Int32), m7) ⟨_, eb, h⟩
      intro Q76 hb76 he76 s h
      obtain ⟨l27, m28⟩ := s
      show mi_X mX12_town (46) 76 [(0, vr 12 0), (1, vi l27)] [] m28 QX
      unfold f_X12_town_B76 at h
      try dsimp only at h
      refine x_iload_n (pc := 76) dX12_town_76 rfl ?_
      refine x_bipush (pc := 77) dX12_town_77 (v := (100 : Int32)) (by decide) ?_
      refine x_icmp_ge (pc := 79) dX12_town_79 (tgt := 103) (by decide) (fun c32 => ?_) (fun c32 => ?_)
      · replace h := wo_pos c32 h
        refine x_sub [(0, _)] ⟨rfl, trivial⟩ ?_
        exact k76_0 _ (he76 m28 (wo_some h))
      · replace h := wo_neg c32 h
        refine x_aload_n (pc := 82) dX12_town_82 rfl ?_
        refine x_getS (pc := 83) dX12_town_83 fX12_89 rfl (by decide) ?_
        refine x_iload_n (pc := 86) dX12_town_86 rfl ?_
        refine x_aload_n (pc := 87) dX12_town_87 rfl ?_
        refine x_getS (pc := 88) dX12_town_88 fX12_89 rfl (by decide) ?_
        refine x_bipush (pc := 91) dX12_town_91 (v := (100 : Int32)) (by decide) ?_
        refine x_iload_n (pc := 93) dX12_town_93 rfl ?_
        refine x_iadd (pc := 94) dX12_town_94 ?_
        obtain ⟨hx29, h⟩ := wo_g h
        refine x_ialdJ (pc := 95) dX12_town_95 rfl rfl (by decide) hx29 ?_
        obtain ⟨hx30, h⟩ := wo_g h
        refine x_iastJ (pc := 96) dX12_town_96 rfl rfl (by decide) rfl hx30 ?_
        refine x_letm h (fun m31 h => ?_)
        refine x_iinc (ls' := [(1, _), (0, _)]) (pc := 97) dX12_town_97 rfl (v := l27 + (1 : Int32)) rfl rfl rfl ?_
        refine x_goto (pc := 100) dX12_town_100 (tgt := 76) (by decide) ?_
        refine x_sub [(0, _), (1, _)] ⟨rfl, rfl, trivial⟩ ?_
        exact hb76 ((l27 + (1 : Int32)), m31) (wo_some h)
    · replace h := wo_neg c33 h
      refine x_aload_n (pc := 69) dX12_town_69 rfl ?_
      refine x_getI (pc := 70) dX12_town_70 fX12_183 rfl (by decide) ?_
      exact x_iret (pc := 73) dX12_town_73 rfl (by rw [hQX]; exact ⟨_, rfl, congrArg Prod.fst (hq0 _ (wo_some h)), congrArg Prod.snd (hq0 _ (wo_some h))⟩)
  refine x_sub [(0, _)] ⟨rfl, trivial⟩ ?_
  obtain ⟨ea, eb, h⟩ := wo_bo h
  refine wo_lq (X := fun m34 => mi_X mX12_town (46) 30 [(0, vr 12 0)] [] m34 QX) (E := fun e => wo (f_X12_town_K30 e) Q0) ?_ _ m6 ⟨_, eb, h⟩
  intro Q30 hb30 he30 s h
  obtain ⟨m34, rfl⟩ : ∃ z, z = s := ⟨_, rfl⟩
  show mi_X mX12_town (46) 30 [(0, vr 12 0)] [] m34 QX
  unfold f_X12_town_B30 at h
  try dsimp only at h
  refine x_aload_n (pc := 30) dX12_town_30 rfl ?_
  refine x_getI (pc := 31) dX12_town_31 fX12_183 rfl (by decide) ?_
  refine x_if_ne (pc := 34) dX12_town_34 (tgt := 62) (by decide) (fun c39 => ?_) (fun c39 => ?_)
  · replace h := wo_neg c39 h
    refine x_sub [(0, _)] ⟨rfl, trivial⟩ ?_
    exact k30_0 _ (he30 m34 (wo_some h))
  · replace h := wo_pos c39 h
    refine x_aload_n (pc := 37) dX12_town_37 rfl ?_
    refine x_getS (pc := 38) dX12_town_38 fX12_24 rfl (by decide) ?_
    refine x_aload_n (pc := 41) dX12_town_41 rfl ?_
    refine x_getI (pc := 42) dX12_town_42 fX12_180 rfl (by decide) ?_
    obtain ⟨hx35, h⟩ := wo_g h
    refine x_ialdJ (pc := 45) dX12_town_45 rfl rfl (by decide) hx35 ?_
    refine x_if_eq (pc := 46) dX12_town_46 (tgt := 62) (by decide) (fun c38 => ?_) (fun c38 => ?_)
    · replace h := wo_pos c38 h
      refine x_sub [(0, _)] ⟨rfl, trivial⟩ ?_
      exact k30_0 _ (he30 m34 (wo_some h))
    · replace h := wo_neg c38 h
      refine x_aload_n (pc := 49) dX12_town_49 rfl ?_
      refine y_Vv0 (pc := 50) h dX12_town_50 lX12_231 (by decide) (by omega) rfl (fun a e => w_X12_readLine _ a e) (fun m36 h => ?_)
      refine x_aload_n (pc := 53) dX12_town_53 rfl ?_
      refine x_bipush (pc := 54) dX12_town_54 (v := (59 : Int32)) (by decide) ?_
      refine y_Vv1 (pc := 56) h dX12_town_56 lX12_234 (by decide) (by omega) rfl (fun a e => w_X12_takeSign _ _ a e) (fun m37 h => ?_)
      refine x_goto (pc := 59) dX12_town_59 (tgt := 30) (by decide) ?_
      refine x_sub [(0, _)] ⟨rfl, trivial⟩ ?_
      exact hb30 m37 (wo_some h)
noncomputable def f_X12_undo (mem : mi_M) : Option (Int32 × mi_M) := mi_let (mi_wI mem 12 0 0 (0 : Int32)) fun m1 => if (m1.1 12 0 22) = 0 then mi_g ((0 : Int32) = 0 ∨ (0 : Int32) = 1) (some ((0 : Int32), m1)) else mi_let (mi_wI m1 12 0 22 ((m1.1 12 0 22) - (1 : Int32))) fun m2 => mi_bo (f_X12_copies ((63 : Int32) * ((5 : Int32) + (m2.1 12 0 22))) (0 : Int32) (38 : Int32) m2) fun m3 => mi_g ((1 : Int32) = 0 ∨ (1 : Int32) = 1) (some ((1 : Int32), m3))
set_option maxRecDepth 100000 in
set_option maxHeartbeats 4000000 in
theorem w_X12_undo (mem : mi_M) (a : Int32 × mi_M) (e : f_X12_undo  mem = some a) : mi_Ci (2) mX12_undo [vr 12 0] mem (fun x m' => x = a.1 ∧ m' = a.2) := by
  unfold mi_Ci
  refine mi_C_intro (ls := [(0, vr 12 0)]) (by decide) rfl rfl ?_
  obtain ⟨Q0, hq0, h⟩ : ∃ Q0 : (Int32 × mi_M) → Prop, (∀ b, Q0 b → b = a) ∧ wo (f_X12_undo  mem) Q0 := ⟨fun b => b = a, fun _ h => h, wo_eq e⟩
  obtain ⟨QX, hQX⟩ : ∃ QX : Option mi_V → mi_M → Prop, QX = (fun r m' => ∃ x, r = some (vi x) ∧ x = a.1 ∧ m' = a.2) := ⟨_, rfl⟩
  rw [← hQX]
  unfold f_X12_undo at h
  refine x_aload_n (pc := 0) dX12_undo_0 rfl ?_
  refine x_iconst (pc := 1) dX12_undo_1 (v := (0 : Int32)) (by decide) ?_
  refine x_putI (pc := 2) dX12_undo_2 fX12_1 rfl (by decide) rfl rfl ?_
  refine x_letm h (fun m1 h => ?_)
  refine x_aload_n (pc := 5) dX12_undo_5 rfl ?_
  refine x_getI (pc := 6) dX12_undo_6 fX12_306 rfl (by decide) ?_
  refine x_if_ne (pc := 9) dX12_undo_9 (tgt := 14) (by decide) (fun c6 => ?_) (fun c6 => ?_)
  · replace h := wo_neg c6 h
    refine x_aload_n (pc := 14) dX12_undo_14 rfl ?_
    refine x_dup (pc := 15) dX12_undo_15 rfl ?_
    refine x_getI (pc := 16) dX12_undo_16 fX12_306 rfl (by decide) ?_
    refine x_iconst (pc := 19) dX12_undo_19 (v := (1 : Int32)) (by decide) ?_
    refine x_isub (pc := 20) dX12_undo_20 ?_
    refine x_putI (pc := 21) dX12_undo_21 fX12_306 rfl (by decide) rfl rfl ?_
    refine x_letm h (fun m2 h => ?_)
    refine x_aload_n (pc := 24) dX12_undo_24 rfl ?_
    refine x_bipush (pc := 25) dX12_undo_25 (v := (63 : Int32)) (by decide) ?_
    refine x_iconst (pc := 27) dX12_undo_27 (v := (5 : Int32)) (by decide) ?_
    refine x_aload_n (pc := 28) dX12_undo_28 rfl ?_
    refine x_getI (pc := 29) dX12_undo_29 fX12_306 rfl (by decide) ?_
    refine x_iadd (pc := 32) dX12_undo_32 ?_
    refine x_imul (pc := 33) dX12_undo_33 ?_
    refine x_iconst (pc := 34) dX12_undo_34 (v := (0 : Int32)) (by decide) ?_
    refine x_bipush (pc := 35) dX12_undo_35 (v := (38 : Int32)) (by decide) ?_
    refine y_Vv3 (pc := 37) h dX12_undo_37 lX12_309 (by decide) (by omega) rfl (fun a e => w_X12_copies _ _ _ _ a e) (fun m3 h => ?_)
    refine x_iconst (pc := 40) dX12_undo_40 (v := (1 : Int32)) (by decide) ?_
    obtain ⟨hb4, h⟩ := wo_g h
    exact x_zretB (pc := 41) dX12_undo_41 rfl hb4 (by rw [hQX]; exact ⟨_, rfl, congrArg Prod.fst (hq0 _ (wo_some h)), congrArg Prod.snd (hq0 _ (wo_some h))⟩)
  · replace h := wo_pos c6 h
    refine x_iconst (pc := 12) dX12_undo_12 (v := (0 : Int32)) (by decide) ?_
    obtain ⟨hb5, h⟩ := wo_g h
    exact x_zretB (pc := 13) dX12_undo_13 rfl hb5 (by rw [hQX]; exact ⟨_, rfl, congrArg Prod.fst (hq0 _ (wo_some h)), congrArg Prod.snd (hq0 _ (wo_some h))⟩)
noncomputable def f_X12_whens_J179 (l5 : Int32) (m9 : mi_M) : Option ((Int32 × mi_M) ⊕ (mi_M)) := some (.inl ((l5 + (1 : Int32)), m9))
noncomputable def f_X12_whens_B147 (rc : (Int32 → Int32 → mi_M → Option (mi_M))) (p0 : Int32) (p1 : Int32) : (Int32 × mi_M) → Option ((Int32 × mi_M) ⊕ (mi_M)) := fun s => match s with | (l5, m6) => mi_bo (f_X12_wrongs m6) fun v7 => if v7 ≤ l5 then some (.inr m6) else mi_bo (f_X12_isOpen (0 : Int32) l5 m6) fun v8 => if v8 = 0 then f_X12_whens_J179 l5 m6 else mi_g (vp_in p1 3) (mi_let (mi_wI m6 70 0 p1.toNatClampNeg l5) fun m11 => mi_bo (rc p0 (p1 + (1 : Int32)) m11) fun m12 => f_X12_whens_J179 l5 m12)
noncomputable def f_X12_whens_K147 (rc : (Int32 → Int32 → mi_M → Option (mi_M))) (p0 : Int32) (p1 : Int32) : mi_M → Option (mi_M) := fun m1 => mi_g (vp_in p1 3) (mi_let (mi_wI m1 70 0 p1.toNatClampNeg (-1 : Int32)) fun m3 => mi_bo (rc p0 (p1 + (1 : Int32)) m3) fun m4 => some m4)
noncomputable def f_X12_whens_J144 (m19 : mi_M) : Option (mi_M) := some m19
noncomputable def f_X12_whens_B118 (p0 : Int32) : (Int32 × mi_M) → Option ((Int32 × mi_M) ⊕ (mi_M)) := fun s => match s with | (l22, m23) => if p0 ≤ l22 then some (.inr m23) else mi_g (vp_in l22 3) (mi_g (vp_in l22 3) (mi_let (mi_wI m23 71 0 l22.toNatClampNeg (m23.1 70 0 l22.toNatClampNeg)) fun m26 => some (.inl ((l22 + (1 : Int32)), m26))))
noncomputable def f_X12_whens_K118 : mi_M → Option (mi_M) := fun m21 => f_X12_whens_J144 m21
noncomputable def f_X12_whens_J110 (p0 : Int32) (e17 : Int32) (m18 : mi_M) : Option (mi_M) := mi_let (mi_wI m18 12 0 31 e17) fun m20 => mi_bo (mi_lp (f_X12_whens_B118 p0) mi_fu ((0 : Int32), m20)) (f_X12_whens_K118)
noncomputable def f_X12_whens_J79 (l30 : Int32) (l31 : Int32) (m35 : mi_M) : Option ((Int32 × Int32 × mi_M) ⊕ (mi_M ⊕ (Int32 × mi_M))) := mi_b (f_X12_passes (1323 : Int32) m35) fun v36 m37 => mi_let (l30 + v36) fun v38 => some (.inl (v38, (l31 + (1 : Int32)), m37))
noncomputable def f_X12_whens_J54 (l30 : Int32) (l31 : Int32) (m32 : mi_M) : Option ((Int32 × Int32 × mi_M) ⊕ (mi_M ⊕ (Int32 × mi_M))) := mi_g (vp_in l31 3) (if (m32.1 70 0 l31.toNatClampNeg) < 0 then f_X12_whens_J79 l30 l31 m32 else mi_g (vp_in l31 3) (mi_b (f_X12_asks (1323 : Int32) (m32.1 70 0 l31.toNatClampNeg) m32) fun v40 m41 => f_X12_whens_J79 l30 l31 m41))
noncomputable def f_X12_whens_B20 (p0 : Int32) : (Int32 × Int32 × mi_M) → Option ((Int32 × Int32 × mi_M) ⊕ (mi_M ⊕ (Int32 × mi_M))) := fun s => match s with | (l30, l31, m32) => if p0 ≤ l31 then some (.inr (.inr (l30, m32))) else mi_g (vp_in l31 3) (if (m32.1 70 0 l31.toNatClampNeg) < 0 then f_X12_whens_J54 l30 l31 m32 else mi_g (vp_in l31 3) (mi_bo (f_X12_isOpen (1323 : Int32) (m32.1 70 0 l31.toNatClampNeg) m32) fun v44 => if v44 = 0 then some (.inr (.inl m32)) else f_X12_whens_J54 l30 l31 m32))
noncomputable def f_X12_whens_K20 (p0 : Int32) : (mi_M ⊕ (Int32 × mi_M)) → Option (mi_M) := fun e => match e with | (.inl m16) => some m16 | (.inr (e17, m18)) => if (m18.1 12 0 31) < 0 then f_X12_whens_J110 p0 e17 m18 else if (m18.1 12 0 31) ≤ e17 then f_X12_whens_J144 m18 else f_X12_whens_J110 p0 e17 m18
noncomputable def f_X12_whens_ (rc : (Int32 → Int32 → mi_M → Option (mi_M))) (p0 : Int32) (p1 : Int32) (mem : mi_M) : Option (mi_M) := if p1 = p0 then mi_bo (f_X12_copies (0 : Int32) (1323 : Int32) (38 : Int32) mem) fun m15 => mi_bo (mi_lp (f_X12_whens_B20 p0) mi_fu ((0 : Int32), (0 : Int32), m15)) (f_X12_whens_K20 p0) else mi_bo (mi_lp (f_X12_whens_B147 rc p0 p1) mi_fu ((0 : Int32), mem)) (f_X12_whens_K147 rc p0 p1)
set_option maxRecDepth 100000 in
set_option maxHeartbeats 4000000 in
theorem w_X12_whens_ (n : Nat) (rc : (Int32 → Int32 → mi_M → Option (mi_M))) (H0 : ∀ (p0 : Int32) (p1 : Int32) (mem : mi_M) (a : mi_M), rc p0 p1 mem = some a → mi_Cv (6 + n) mX12_whens [vr 12 0, vi p0, vi p1] mem (fun m' => m' = a)) (p0 : Int32) (p1 : Int32) (mem : mi_M) (a : mi_M) (e : f_X12_whens_ rc p0 p1 mem = some a) : mi_Cv (6 + (n + 1)) mX12_whens [vr 12 0, vi p0, vi p1] mem (fun m' => m' = a) := by
  unfold mi_Cv
  refine mi_C_intro (ls := [(0, vr 12 0), (1, vi p0), (2, vi p1)]) (by decide) rfl rfl ?_
  obtain ⟨Q0, hq0, h⟩ : ∃ Q0 : mi_M → Prop, (∀ b, Q0 b → b = a) ∧ wo (f_X12_whens_ rc p0 p1 mem) Q0 := ⟨fun b => b = a, fun _ h => h, wo_eq e⟩
  obtain ⟨QX, hQX⟩ : ∃ QX : Option mi_V → mi_M → Prop, QX = (fun r m' => r = none ∧ m' = a) := ⟨_, rfl⟩
  rw [← hQX]
  unfold f_X12_whens_ at h
  refine x_iload_n (pc := 0) dX12_whens_0 rfl ?_
  refine x_iload_n (pc := 1) dX12_whens_1 rfl ?_
  refine x_icmp_ne (pc := 2) dX12_whens_2 (tgt := 145) (by decide) (fun c48 => ?_) (fun c48 => ?_)
  · replace h := wo_neg c48 h
    refine x_iconst (pc := 145) dX12_whens_145 (v := (0 : Int32)) (by decide) ?_
    refine x_istore_n (ls' := [(3, _), (0, _), (1, _), (2, _)]) (pc := 146) dX12_whens_146 rfl rfl rfl ?_
    have k147_0 : ∀ (m1 : mi_M), wo (f_X12_whens_K147 rc p0 p1 m1) Q0 → mi_X mX12_whens (6 + (n + 1)) 185 [(0, vr 12 0), (1, vi p0), (2, vi p1)] [] m1 QX := by
      intro m1 h
      unfold f_X12_whens_K147 at h
      try dsimp only at h
      refine x_aload_n (pc := 185) dX12_whens_185 rfl ?_
      refine x_getS (pc := 186) dX12_whens_186 fX12_132 rfl (by decide) ?_
      refine x_iload_n (pc := 189) dX12_whens_189 rfl ?_
      refine x_iconst (pc := 190) dX12_whens_190 (v := (-1 : Int32)) (by decide) ?_
      obtain ⟨hx2, h⟩ := wo_g h
      refine x_iastJ (pc := 191) dX12_whens_191 rfl rfl (by decide) rfl hx2 ?_
      refine x_letm h (fun m3 h => ?_)
      refine x_aload_n (pc := 192) dX12_whens_192 rfl ?_
      refine x_iload_n (pc := 193) dX12_whens_193 rfl ?_
      refine x_iload_n (pc := 194) dX12_whens_194 rfl ?_
      refine x_iconst (pc := 195) dX12_whens_195 (v := (1 : Int32)) (by decide) ?_
      refine x_iadd (pc := 196) dX12_whens_196 ?_
      refine y_Vv2 (pc := 197) h dX12_whens_197 lX12_407 (by decide) (by omega) rfl (fun a e => H0 _ _ _ a e) (fun m4 h => ?_)
      exact x_ret (pc := 200) dX12_whens_200 rfl (by rw [hQX]; exact ⟨rfl, hq0 _ (wo_some h)⟩)
    refine x_sub [(0, _), (1, _), (2, _), (3, _)] ⟨rfl, rfl, rfl, rfl, trivial⟩ ?_
    obtain ⟨ea, eb, h⟩ := wo_bo h
    refine wo_lq (X := fun s => match s with | (l5, m6) => mi_X mX12_whens (6 + (n + 1)) 147 [(0, vr 12 0), (1, vi p0), (2, vi p1), (3, vi l5)] [] m6 QX) (E := fun e => wo (f_X12_whens_K147 rc p0 p1 e) Q0) ?_ _ ((0 : Int32), mem) ⟨_, eb, h⟩
    intro Q147 hb147 he147 s h
    obtain ⟨l5, m6⟩ := s
    show mi_X mX12_whens (6 + (n + 1)) 147 [(0, vr 12 0), (1, vi p0), (2, vi p1), (3, vi l5)] [] m6 QX
    unfold f_X12_whens_B147 at h
    try dsimp only at h
    refine x_iload_n (pc := 147) dX12_whens_147 rfl ?_
    refine x_aload_n (pc := 148) dX12_whens_148 rfl ?_
    refine z_Vi0 (pc := 149) h dX12_whens_149 lX12_273 (by decide) (by omega) rfl (fun a e => w_X12_wrongs _ a e) (fun v7 h => ?_)
    refine x_icmp_ge (pc := 152) dX12_whens_152 (tgt := 185) (by decide) (fun c14 => ?_) (fun c14 => ?_)
    · replace h := wo_pos c14 h
      refine x_sub [(0, _), (1, _), (2, _)] ⟨rfl, rfl, rfl, trivial⟩ ?_
      exact k147_0 _ (he147 m6 (wo_some h))
    · replace h := wo_neg c14 h
      refine x_aload_n (pc := 155) dX12_whens_155 rfl ?_
      refine x_iconst (pc := 156) dX12_whens_156 (v := (0 : Int32)) (by decide) ?_
      refine x_iload_n (pc := 157) dX12_whens_157 rfl ?_
      refine z_Vi2 (pc := 158) h dX12_whens_158 lX12_319 (by decide) (by omega) rfl (fun a e => w_X12_isOpen _ _ _ a e) (fun v8 h => ?_)
      have j179 : ∀ (m9 : mi_M), wo (f_X12_whens_J179 l5 m9) Q147 → mi_X mX12_whens (6 + (n + 1)) 179 [(0, vr 12 0), (1, vi p0), (2, vi p1), (3, vi l5)] [] m9 QX := by
        intro m9 h
        unfold f_X12_whens_J179 at h
        refine x_iinc (ls' := [(3, _), (0, _), (1, _), (2, _)]) (pc := 179) dX12_whens_179 rfl (v := l5 + (1 : Int32)) rfl rfl rfl ?_
        refine x_goto (pc := 182) dX12_whens_182 (tgt := 147) (by decide) ?_
        refine x_sub [(0, _), (1, _), (2, _), (3, _)] ⟨rfl, rfl, rfl, rfl, trivial⟩ ?_
        exact hb147 ((l5 + (1 : Int32)), m9) (wo_some h)
      refine x_if_eq (pc := 161) dX12_whens_161 (tgt := 179) (by decide) (fun c13 => ?_) (fun c13 => ?_)
      · replace h := wo_pos c13 h
        refine x_sub [(0, _), (1, _), (2, _), (3, _)] ⟨rfl, rfl, rfl, rfl, trivial⟩ ?_
        exact j179 _ h
      · replace h := wo_neg c13 h
        refine x_aload_n (pc := 164) dX12_whens_164 rfl ?_
        refine x_getS (pc := 165) dX12_whens_165 fX12_132 rfl (by decide) ?_
        refine x_iload_n (pc := 168) dX12_whens_168 rfl ?_
        refine x_iload_n (pc := 169) dX12_whens_169 rfl ?_
        obtain ⟨hx10, h⟩ := wo_g h
        refine x_iastJ (pc := 170) dX12_whens_170 rfl rfl (by decide) rfl hx10 ?_
        refine x_letm h (fun m11 h => ?_)
        refine x_aload_n (pc := 171) dX12_whens_171 rfl ?_
        refine x_iload_n (pc := 172) dX12_whens_172 rfl ?_
        refine x_iload_n (pc := 173) dX12_whens_173 rfl ?_
        refine x_iconst (pc := 174) dX12_whens_174 (v := (1 : Int32)) (by decide) ?_
        refine x_iadd (pc := 175) dX12_whens_175 ?_
        refine y_Vv2 (pc := 176) h dX12_whens_176 lX12_407 (by decide) (by omega) rfl (fun a e => H0 _ _ _ a e) (fun m12 h => ?_)
        refine x_sub [(0, _), (1, _), (2, _), (3, _)] ⟨rfl, rfl, rfl, rfl, trivial⟩ ?_
        exact j179 _ h
  · replace h := wo_pos c48 h
    refine x_aload_n (pc := 5) dX12_whens_5 rfl ?_
    refine x_iconst (pc := 6) dX12_whens_6 (v := (0 : Int32)) (by decide) ?_
    refine x_sipush (pc := 7) dX12_whens_7 (v := (1323 : Int32)) (by decide) ?_
    refine x_bipush (pc := 10) dX12_whens_10 (v := (38 : Int32)) (by decide) ?_
    refine y_Vv3 (pc := 12) h dX12_whens_12 lX12_309 (by decide) (by omega) rfl (fun a e => w_X12_copies _ _ _ _ a e) (fun m15 h => ?_)
    refine x_iconst (pc := 15) dX12_whens_15 (v := (0 : Int32)) (by decide) ?_
    refine x_istore_n (ls' := [(3, _), (0, _), (1, _), (2, _)]) (pc := 16) dX12_whens_16 rfl rfl rfl ?_
    refine x_iconst (pc := 17) dX12_whens_17 (v := (0 : Int32)) (by decide) ?_
    refine x_istore (ls' := [(4, _), (3, _), (0, _), (1, _), (2, _)]) (pc := 18) dX12_whens_18 rfl rfl ?_
    have k20_0 : ∀ (m16 : mi_M), wo (f_X12_whens_K20 p0 (.inl m16)) Q0 → mi_X mX12_whens (6 + (n + 1)) 53 [] [] m16 QX := by
      intro m16 h
      unfold f_X12_whens_K20 at h
      try dsimp only at h
      exact x_ret (pc := 53) dX12_whens_53 rfl (by rw [hQX]; exact ⟨rfl, hq0 _ (wo_some h)⟩)
    have k20_1 : ∀ (e17 : Int32) (m18 : mi_M), wo (f_X12_whens_K20 p0 (.inr (e17, m18))) Q0 → mi_X mX12_whens (6 + (n + 1)) 95 [(0, vr 12 0), (1, vi p0), (3, vi e17)] [] m18 QX := by
      intro e17 m18 h
      unfold f_X12_whens_K20 at h
      try dsimp only at h
      refine x_aload_n (pc := 95) dX12_whens_95 rfl ?_
      refine x_getI (pc := 96) dX12_whens_96 fX12_404 rfl (by decide) ?_
      have j144 : ∀ (m19 : mi_M), wo (f_X12_whens_J144 m19) Q0 → mi_X mX12_whens (6 + (n + 1)) 144 [] [] m19 QX := by
        intro m19 h
        unfold f_X12_whens_J144 at h
        exact x_ret (pc := 144) dX12_whens_144 rfl (by rw [hQX]; exact ⟨rfl, hq0 _ (wo_some h)⟩)
      have j110 : wo (f_X12_whens_J110 p0 e17 m18) Q0 → mi_X mX12_whens (6 + (n + 1)) 110 [(0, vr 12 0), (1, vi p0), (3, vi e17)] [] m18 QX := by
        intro h
        unfold f_X12_whens_J110 at h
        refine x_aload_n (pc := 110) dX12_whens_110 rfl ?_
        refine x_iload_n (pc := 111) dX12_whens_111 rfl ?_
        refine x_putI (pc := 112) dX12_whens_112 fX12_404 rfl (by decide) rfl rfl ?_
        refine x_letm h (fun m20 h => ?_)
        refine x_iconst (pc := 115) dX12_whens_115 (v := (0 : Int32)) (by decide) ?_
        refine x_istore (ls' := [(4, _), (0, _), (1, _), (3, _)]) (pc := 116) dX12_whens_116 rfl rfl ?_
        have k118_0 : ∀ (m21 : mi_M), wo (f_X12_whens_K118 m21) Q0 → mi_X mX12_whens (6 + (n + 1)) 144 [] [] m21 QX := by
          intro m21 h
          unfold f_X12_whens_K118 at h
          try dsimp only at h
          refine x_sub [] trivial ?_
          exact j144 _ h
        refine x_sub [(0, _), (1, _), (4, _)] ⟨rfl, rfl, rfl, trivial⟩ ?_
        obtain ⟨ea, eb, h⟩ := wo_bo h
        refine wo_lq (X := fun s => match s with | (l22, m23) => mi_X mX12_whens (6 + (n + 1)) 118 [(0, vr 12 0), (1, vi p0), (4, vi l22)] [] m23 QX) (E := fun e => wo (f_X12_whens_K118 e) Q0) ?_ _ ((0 : Int32), m20) ⟨_, eb, h⟩
        intro Q118 hb118 he118 s h
        obtain ⟨l22, m23⟩ := s
        show mi_X mX12_whens (6 + (n + 1)) 118 [(0, vr 12 0), (1, vi p0), (4, vi l22)] [] m23 QX
        unfold f_X12_whens_B118 at h
        try dsimp only at h
        refine x_iload (pc := 118) dX12_whens_118 rfl ?_
        refine x_iload_n (pc := 120) dX12_whens_120 rfl ?_
        refine x_icmp_ge (pc := 121) dX12_whens_121 (tgt := 144) (by decide) (fun c27 => ?_) (fun c27 => ?_)
        · replace h := wo_pos c27 h
          refine x_sub [] trivial ?_
          exact k118_0 _ (he118 m23 (wo_some h))
        · replace h := wo_neg c27 h
          refine x_aload_n (pc := 124) dX12_whens_124 rfl ?_
          refine x_getS (pc := 125) dX12_whens_125 fX12_135 rfl (by decide) ?_
          refine x_iload (pc := 128) dX12_whens_128 rfl ?_
          refine x_aload_n (pc := 130) dX12_whens_130 rfl ?_
          refine x_getS (pc := 131) dX12_whens_131 fX12_132 rfl (by decide) ?_
          refine x_iload (pc := 134) dX12_whens_134 rfl ?_
          obtain ⟨hx24, h⟩ := wo_g h
          refine x_ialdJ (pc := 136) dX12_whens_136 rfl rfl (by decide) hx24 ?_
          obtain ⟨hx25, h⟩ := wo_g h
          refine x_iastJ (pc := 137) dX12_whens_137 rfl rfl (by decide) rfl hx25 ?_
          refine x_letm h (fun m26 h => ?_)
          refine x_iinc (ls' := [(4, _), (0, _), (1, _)]) (pc := 138) dX12_whens_138 rfl (v := l22 + (1 : Int32)) rfl rfl rfl ?_
          refine x_goto (pc := 141) dX12_whens_141 (tgt := 118) (by decide) ?_
          refine x_sub [(0, _), (1, _), (4, _)] ⟨rfl, rfl, rfl, trivial⟩ ?_
          exact hb118 ((l22 + (1 : Int32)), m26) (wo_some h)
      refine x_if_lt (pc := 99) dX12_whens_99 (tgt := 110) (by decide) (fun c29 => ?_) (fun c29 => ?_)
      · replace h := wo_pos c29 h
        refine x_sub [(0, _), (1, _), (3, _)] ⟨rfl, rfl, rfl, trivial⟩ ?_
        exact j110 h
      · replace h := wo_neg c29 h
        refine x_iload_n (pc := 102) dX12_whens_102 rfl ?_
        refine x_aload_n (pc := 103) dX12_whens_103 rfl ?_
        refine x_getI (pc := 104) dX12_whens_104 fX12_404 rfl (by decide) ?_
        refine x_icmp_ge (pc := 107) dX12_whens_107 (tgt := 144) (by decide) (fun c28 => ?_) (fun c28 => ?_)
        · replace h := wo_pos c28 h
          refine x_sub [] trivial ?_
          exact j144 _ h
        · replace h := wo_neg c28 h
          refine x_sub [(0, _), (1, _), (3, _)] ⟨rfl, rfl, rfl, trivial⟩ ?_
          exact j110 h
    refine x_sub [(0, _), (1, _), (3, _), (4, _)] ⟨rfl, rfl, rfl, rfl, trivial⟩ ?_
    obtain ⟨ea, eb, h⟩ := wo_bo h
    refine wo_lq (X := fun s => match s with | (l30, l31, m32) => mi_X mX12_whens (6 + (n + 1)) 20 [(0, vr 12 0), (1, vi p0), (3, vi l30), (4, vi l31)] [] m32 QX) (E := fun e => wo (f_X12_whens_K20 p0 e) Q0) ?_ _ ((0 : Int32), (0 : Int32), m15) ⟨_, eb, h⟩
    intro Q20 hb20 he20 s h
    obtain ⟨l30, l31, m32⟩ := s
    show mi_X mX12_whens (6 + (n + 1)) 20 [(0, vr 12 0), (1, vi p0), (3, vi l30), (4, vi l31)] [] m32 QX
    unfold f_X12_whens_B20 at h
    try dsimp only at h
    refine x_iload (pc := 20) dX12_whens_20 rfl ?_
    refine x_iload_n (pc := 22) dX12_whens_22 rfl ?_
    refine x_icmp_ge (pc := 23) dX12_whens_23 (tgt := 95) (by decide) (fun c47 => ?_) (fun c47 => ?_)
    · replace h := wo_pos c47 h
      refine x_sub [(0, _), (1, _), (3, _)] ⟨rfl, rfl, rfl, trivial⟩ ?_
      exact k20_1 _ _ (he20 (.inr (l30, m32)) (wo_some h))
    · replace h := wo_neg c47 h
      refine x_aload_n (pc := 26) dX12_whens_26 rfl ?_
      refine x_getS (pc := 27) dX12_whens_27 fX12_132 rfl (by decide) ?_
      refine x_iload (pc := 30) dX12_whens_30 rfl ?_
      obtain ⟨hx33, h⟩ := wo_g h
      refine x_ialdJ (pc := 32) dX12_whens_32 rfl rfl (by decide) hx33 ?_
      have j54 : wo (f_X12_whens_J54 l30 l31 m32) Q20 → mi_X mX12_whens (6 + (n + 1)) 54 [(0, vr 12 0), (1, vi p0), (3, vi l30), (4, vi l31)] [] m32 QX := by
        intro h
        unfold f_X12_whens_J54 at h
        refine x_aload_n (pc := 54) dX12_whens_54 rfl ?_
        refine x_getS (pc := 55) dX12_whens_55 fX12_132 rfl (by decide) ?_
        refine x_iload (pc := 58) dX12_whens_58 rfl ?_
        obtain ⟨hx34, h⟩ := wo_g h
        refine x_ialdJ (pc := 60) dX12_whens_60 rfl rfl (by decide) hx34 ?_
        have j79 : ∀ (m35 : mi_M), wo (f_X12_whens_J79 l30 l31 m35) Q20 → mi_X mX12_whens (6 + (n + 1)) 79 [(0, vr 12 0), (1, vi p0), (3, vi l30), (4, vi l31)] [] m35 QX := by
          intro m35 h
          unfold f_X12_whens_J79 at h
          refine x_iload_n (pc := 79) dX12_whens_79 rfl ?_
          refine x_aload_n (pc := 80) dX12_whens_80 rfl ?_
          refine x_sipush (pc := 81) dX12_whens_81 (v := (1323 : Int32)) (by decide) ?_
          refine y_Vi1 (pc := 84) h dX12_whens_84 lX12_386 (by decide) (by omega) rfl (fun a e => w_X12_passes _ _ a e) (fun v36 m37 h => ?_)
          refine x_iadd (pc := 87) dX12_whens_87 ?_
          refine x_leti h (fun v38 h => ?_)
          refine x_istore_n (ls' := [(3, _), (0, _), (1, _), (4, _)]) (pc := 88) dX12_whens_88 rfl rfl rfl ?_
          refine x_iinc (ls' := [(4, _), (3, _), (0, _), (1, _)]) (pc := 89) dX12_whens_89 rfl (v := l31 + (1 : Int32)) rfl rfl rfl ?_
          refine x_goto (pc := 92) dX12_whens_92 (tgt := 20) (by decide) ?_
          refine x_sub [(0, _), (1, _), (3, _), (4, _)] ⟨rfl, rfl, rfl, rfl, trivial⟩ ?_
          exact hb20 (v38, (l31 + (1 : Int32)), m37) (wo_some h)
        refine x_if_lt (pc := 61) dX12_whens_61 (tgt := 79) (by decide) (fun c42 => ?_) (fun c42 => ?_)
        · replace h := wo_pos c42 h
          refine x_sub [(0, _), (1, _), (3, _), (4, _)] ⟨rfl, rfl, rfl, rfl, trivial⟩ ?_
          exact j79 _ h
        · replace h := wo_neg c42 h
          refine x_aload_n (pc := 64) dX12_whens_64 rfl ?_
          refine x_sipush (pc := 65) dX12_whens_65 (v := (1323 : Int32)) (by decide) ?_
          refine x_aload_n (pc := 68) dX12_whens_68 rfl ?_
          refine x_getS (pc := 69) dX12_whens_69 fX12_132 rfl (by decide) ?_
          refine x_iload (pc := 72) dX12_whens_72 rfl ?_
          obtain ⟨hx39, h⟩ := wo_g h
          refine x_ialdJ (pc := 74) dX12_whens_74 rfl rfl (by decide) hx39 ?_
          refine y_Vi2 (pc := 75) h dX12_whens_75 lX12_383 (by decide) (by omega) rfl (fun a e => w_X12_asks _ _ _ a e) (fun v40 m41 h => ?_)
          refine x_pop (pc := 78) dX12_whens_78 rfl ?_
          refine x_sub [(0, _), (1, _), (3, _), (4, _)] ⟨rfl, rfl, rfl, rfl, trivial⟩ ?_
          exact j79 _ h
      refine x_if_lt (pc := 33) dX12_whens_33 (tgt := 54) (by decide) (fun c46 => ?_) (fun c46 => ?_)
      · replace h := wo_pos c46 h
        refine x_sub [(0, _), (1, _), (3, _), (4, _)] ⟨rfl, rfl, rfl, rfl, trivial⟩ ?_
        exact j54 h
      · replace h := wo_neg c46 h
        refine x_aload_n (pc := 36) dX12_whens_36 rfl ?_
        refine x_sipush (pc := 37) dX12_whens_37 (v := (1323 : Int32)) (by decide) ?_
        refine x_aload_n (pc := 40) dX12_whens_40 rfl ?_
        refine x_getS (pc := 41) dX12_whens_41 fX12_132 rfl (by decide) ?_
        refine x_iload (pc := 44) dX12_whens_44 rfl ?_
        obtain ⟨hx43, h⟩ := wo_g h
        refine x_ialdJ (pc := 46) dX12_whens_46 rfl rfl (by decide) hx43 ?_
        refine z_Vi2 (pc := 47) h dX12_whens_47 lX12_319 (by decide) (by omega) rfl (fun a e => w_X12_isOpen _ _ _ a e) (fun v44 h => ?_)
        refine x_if_ne (pc := 50) dX12_whens_50 (tgt := 54) (by decide) (fun c45 => ?_) (fun c45 => ?_)
        · replace h := wo_neg c45 h
          refine x_sub [(0, _), (1, _), (3, _), (4, _)] ⟨rfl, rfl, rfl, rfl, trivial⟩ ?_
          exact j54 h
        · replace h := wo_pos c45 h
          refine x_sub [] trivial ?_
          exact k20_0 _ (he20 (.inl m32) (wo_some h))
noncomputable def fg_X12_whens : Nat → (Int32 → Int32 → mi_M → Option (mi_M))
  | 0 => (fun _ _ _ => none)
  | n + 1 => (f_X12_whens_ (fg_X12_whens n))
theorem wg_X12_whens : ∀ n : Nat, (∀ (p0 : Int32) (p1 : Int32) (mem : mi_M) (a : mi_M), (fg_X12_whens n) p0 p1 mem = some a → mi_Cv (6 + n) mX12_whens [vr 12 0, vi p0, vi p1] mem (fun m' => m' = a))
  | 0 => fun _ _ _ _ e => (by cases e)
  | n + 1 => w_X12_whens_ n (fg_X12_whens n) (wg_X12_whens n)
noncomputable def f_X12_whens (p0 : Int32) (p1 : Int32) (mem : mi_M) : Option (mi_M) := (fg_X12_whens mi_dp) p0 p1 mem
theorem w_X12_whens (p0 : Int32) (p1 : Int32) (mem : mi_M) (a : mi_M) (e : f_X12_whens p0 p1 mem = some a) : mi_Cv (46) mX12_whens [vr 12 0, vi p0, vi p1] mem (fun m' => m' = a) := (wg_X12_whens mi_dp) p0 p1 mem a e
noncomputable def f_X12_when_J23 (m1 : mi_M) : Option (Int32 × mi_M) := some ((-2 : Int32), m1)
noncomputable def f_X12_when_J56 (m5 : mi_M) (u6 : Int32) : Option (Int32 × mi_M) := some (u6, m5)
noncomputable def f_X12_when (p0 : Int32) (p1 : Int32) (mem : mi_M) : Option (Int32 × mi_M) := mi_let (mi_wI mem 12 0 0 (0 : Int32)) fun m1 => mi_bo (f_X12_within p0 (1 : Int32) (3 : Int32) m1) fun v2 => if v2 = 0 then f_X12_when_J23 m1 else mi_bo (f_X12_within p1 (0 : Int32) p0 m1) fun v3 => if v3 = 0 then f_X12_when_J23 m1 else mi_let (mi_wI m1 12 0 31 (-1 : Int32)) fun m4 => mi_bo (f_X12_whens p0 (0 : Int32) m4) fun m5 => if p1 = 0 then f_X12_when_J56 m5 (m5.1 12 0 31) else mi_g (vp_in (p1 - (1 : Int32)) 3) (f_X12_when_J56 m5 (m5.1 71 0 (p1 - (1 : Int32)).toNatClampNeg))
set_option maxRecDepth 100000 in
set_option maxHeartbeats 4000000 in
theorem w_X12_when (p0 : Int32) (p1 : Int32) (mem : mi_M) (a : Int32 × mi_M) (e : f_X12_when p0 p1 mem = some a) : mi_Ci (47) mX12_when [vr 12 0, vi p0, vi p1] mem (fun x m' => x = a.1 ∧ m' = a.2) := by
  unfold mi_Ci
  refine mi_C_intro (ls := [(0, vr 12 0), (1, vi p0), (2, vi p1)]) (by decide) rfl rfl ?_
  obtain ⟨Q0, hq0, h⟩ : ∃ Q0 : (Int32 × mi_M) → Prop, (∀ b, Q0 b → b = a) ∧ wo (f_X12_when p0 p1 mem) Q0 := ⟨fun b => b = a, fun _ h => h, wo_eq e⟩
  obtain ⟨QX, hQX⟩ : ∃ QX : Option mi_V → mi_M → Prop, QX = (fun r m' => ∃ x, r = some (vi x) ∧ x = a.1 ∧ m' = a.2) := ⟨_, rfl⟩
  rw [← hQX]
  unfold f_X12_when at h
  refine x_aload_n (pc := 0) dX12_when_0 rfl ?_
  refine x_iconst (pc := 1) dX12_when_1 (v := (0 : Int32)) (by decide) ?_
  refine x_putI (pc := 2) dX12_when_2 fX12_1 rfl (by decide) rfl rfl ?_
  refine x_letm h (fun m1 h => ?_)
  refine x_iload_n (pc := 5) dX12_when_5 rfl ?_
  refine x_iconst (pc := 6) dX12_when_6 (v := (1 : Int32)) (by decide) ?_
  refine x_iconst (pc := 7) dX12_when_7 (v := (3 : Int32)) (by decide) ?_
  refine z_Si3 (pc := 8) h dX12_when_8 lX12_362 (by omega) rfl (fun a e => w_X12_within _ _ _ _ a e) (fun v2 h => ?_)
  have j23 : wo (f_X12_when_J23 m1) Q0 → mi_X mX12_when (47) 23 [] [] m1 QX := by
    intro h
    unfold f_X12_when_J23 at h
    refine x_bipush (pc := 23) dX12_when_23 (v := (-2 : Int32)) (by decide) ?_
    exact x_iret (pc := 25) dX12_when_25 rfl (by rw [hQX]; exact ⟨_, rfl, congrArg Prod.fst (hq0 _ (wo_some h)), congrArg Prod.snd (hq0 _ (wo_some h))⟩)
  refine x_if_eq (pc := 11) dX12_when_11 (tgt := 23) (by decide) (fun c10 => ?_) (fun c10 => ?_)
  · replace h := wo_pos c10 h
    refine x_sub [] trivial ?_
    exact j23 h
  · replace h := wo_neg c10 h
    refine x_iload_n (pc := 14) dX12_when_14 rfl ?_
    refine x_iconst (pc := 15) dX12_when_15 (v := (0 : Int32)) (by decide) ?_
    refine x_iload_n (pc := 16) dX12_when_16 rfl ?_
    refine z_Si3 (pc := 17) h dX12_when_17 lX12_362 (by omega) rfl (fun a e => w_X12_within _ _ _ _ a e) (fun v3 h => ?_)
    refine x_if_ne (pc := 20) dX12_when_20 (tgt := 26) (by decide) (fun c9 => ?_) (fun c9 => ?_)
    · replace h := wo_neg c9 h
      refine x_aload_n (pc := 26) dX12_when_26 rfl ?_
      refine x_iconst (pc := 27) dX12_when_27 (v := (-1 : Int32)) (by decide) ?_
      refine x_putI (pc := 28) dX12_when_28 fX12_404 rfl (by decide) rfl rfl ?_
      refine x_letm h (fun m4 h => ?_)
      refine x_aload_n (pc := 31) dX12_when_31 rfl ?_
      refine x_iload_n (pc := 32) dX12_when_32 rfl ?_
      refine x_iconst (pc := 33) dX12_when_33 (v := (0 : Int32)) (by decide) ?_
      refine y_Vv2 (pc := 34) h dX12_when_34 lX12_407 (by decide) (by omega) rfl (fun a e => w_X12_whens _ _ _ a e) (fun m5 h => ?_)
      refine x_iload_n (pc := 37) dX12_when_37 rfl ?_
      have j56 : ∀ (u6 : Int32), wo (f_X12_when_J56 m5 u6) Q0 → mi_X mX12_when (47) 56 [] [vi u6] m5 QX := by
        intro u6 h
        unfold f_X12_when_J56 at h
        exact x_iret (pc := 56) dX12_when_56 rfl (by rw [hQX]; exact ⟨_, rfl, congrArg Prod.fst (hq0 _ (wo_some h)), congrArg Prod.snd (hq0 _ (wo_some h))⟩)
      refine x_if_ne (pc := 38) dX12_when_38 (tgt := 48) (by decide) (fun c8 => ?_) (fun c8 => ?_)
      · replace h := wo_neg c8 h
        refine x_aload_n (pc := 48) dX12_when_48 rfl ?_
        refine x_getS (pc := 49) dX12_when_49 fX12_135 rfl (by decide) ?_
        refine x_iload_n (pc := 52) dX12_when_52 rfl ?_
        refine x_iconst (pc := 53) dX12_when_53 (v := (1 : Int32)) (by decide) ?_
        refine x_isub (pc := 54) dX12_when_54 ?_
        obtain ⟨hx7, h⟩ := wo_g h
        refine x_ialdJ (pc := 55) dX12_when_55 rfl rfl (by decide) hx7 ?_
        refine x_sub [] trivial ?_
        exact j56 _ h
      · replace h := wo_pos c8 h
        refine x_aload_n (pc := 41) dX12_when_41 rfl ?_
        refine x_getI (pc := 42) dX12_when_42 fX12_404 rfl (by decide) ?_
        refine x_goto (pc := 45) dX12_when_45 (tgt := 56) (by decide) ?_
        refine x_sub [] trivial ?_
        exact j56 _ h
    · replace h := wo_pos c9 h
      refine x_sub [] trivial ?_
      exact j23 h
noncomputable def f_X12_wind_J165 (l9 : Int32) (u12 : Int64) (m13 : mi_M) : Option ((Int64 × Int32 × mi_M) ⊕ (Int64 × mi_M)) := some (.inl (u12, (l9 + (1 : Int32)), m13))
noncomputable def f_X12_wind_J150 (l19 : Int32) (u21 : Int64) : Option ((Int64 × Int32) ⊕ (Int64)) := some (.inl (u21, (l19 + (1 : Int32))))
noncomputable def f_X12_wind_J148 (l18 : Int64) (l19 : Int32) (u22 : Int32) : Option ((Int64 × Int32) ⊕ (Int64)) := f_X12_wind_J150 l19 (l18 * (u22).toInt64)
noncomputable def f_X12_wind_B94 (v3 : Int32) (l9 : Int32) (m15 : mi_M) : (Int64 × Int32) → Option ((Int64 × Int32) ⊕ (Int64)) := fun s => match s with | (l18, l19) => mi_bo (f_X12_people m15) fun v20 => if v20 ≤ l19 then some (.inr l18) else if ((v3 >>> (l19 &&& 31)) &&& (1 : Int32)) = 0 then f_X12_wind_J150 l19 l18 else if ((l9 >>> (l19 &&& 31)) &&& (1 : Int32)) = (1 : Int32) then mi_g (vp_in (5 : Int32) 200) (f_X12_wind_J148 l18 l19 ((10 : Int32) - (m15.1 56 0 (5 : Int32).toNatClampNeg))) else mi_g (vp_in (5 : Int32) 200) (f_X12_wind_J148 l18 l19 (m15.1 56 0 (5 : Int32).toNatClampNeg))
noncomputable def f_X12_wind_K94 (l8 : Int64) (l9 : Int32) (m15 : mi_M) : Int64 → Option ((Int64 × Int32 × mi_M) ⊕ (Int64 × mi_M)) := fun e16 => mi_let (l8 + e16) fun v17 => f_X12_wind_J165 l9 v17 m15
noncomputable def f_X12_wind_B57 (p0 : Int32) (p1 : Int32) (v3 : Int32) : (Int64 × Int32 × mi_M) → Option ((Int64 × Int32 × mi_M) ⊕ (Int64 × mi_M)) := fun s => match s with | (l8, l9, m10) => mi_bo (f_X12_people m10) fun v11 => if ((1 : Int32) <<< (v11 &&& 31)) ≤ l9 then some (.inr (l8, m10)) else if (l9 &&& (v3 ^^^ (-1 : Int32))) = 0 then mi_b (f_X12_isLit l9 p0 p1 m10) fun v14 m15 => if v14 = 0 then f_X12_wind_J165 l9 l8 m15 else mi_bo (mi_lp (f_X12_wind_B94 v3 l9 m15) mi_fu ((1 : Int64), (0 : Int32))) (f_X12_wind_K94 l8 l9 m15) else f_X12_wind_J165 l9 l8 m10
noncomputable def f_X12_wind_K57 (e4 : Int64) : (Int64 × mi_M) → Option (Int32 × mi_M) := fun e => match e with | (e5, m6) => mi_g (¬ e4 = 0) (some ((((e5 * (1000000 : Int64)) / e4)).toInt32, m6))
noncomputable def f_X12_wind_B31 (m1 : mi_M) (v3 : Int32) : (Int64 × Int32) → Option ((Int64 × Int32) ⊕ (Int64)) := fun s => match s with | (l31, l32) => mi_bo (f_X12_bits v3 m1) fun v33 => if v33 ≤ l32 then some (.inr l31) else mi_let (l31 * (10 : Int64)) fun v34 => some (.inl (v34, (l32 + (1 : Int32))))
noncomputable def f_X12_wind_K31 (p0 : Int32) (p1 : Int32) (m1 : mi_M) (v3 : Int32) : Int64 → Option (Int32 × mi_M) := fun e4 => mi_bo (mi_lp (f_X12_wind_B57 p0 p1 v3) mi_fu ((0 : Int64), (0 : Int32), m1)) (f_X12_wind_K57 e4)
noncomputable def f_X12_wind (p0 : Int32) (p1 : Int32) (mem : mi_M) : Option (Int32 × mi_M) := mi_let (mi_wI mem 12 0 0 (0 : Int32)) fun m1 => mi_bo (f_X12_areTwo p0 p1 m1) fun v2 => if v2 = 0 then some ((-1 : Int32), m1) else mi_bo (f_X12_lampsOf (0 : Int32) m1) fun v3 => mi_bo (mi_lp (f_X12_wind_B31 m1 v3) mi_fu ((1 : Int64), (0 : Int32))) (f_X12_wind_K31 p0 p1 m1 v3)
set_option maxRecDepth 100000 in
set_option maxHeartbeats 4000000 in
theorem w_X12_wind (p0 : Int32) (p1 : Int32) (mem : mi_M) (a : Int32 × mi_M) (e : f_X12_wind p0 p1 mem = some a) : mi_Ci (4) mX12_wind [vr 12 0, vi p0, vi p1] mem (fun x m' => x = a.1 ∧ m' = a.2) := by
  unfold mi_Ci
  refine mi_C_intro (ls := [(0, vr 12 0), (1, vi p0), (2, vi p1)]) (by decide) rfl rfl ?_
  obtain ⟨Q0, hq0, h⟩ : ∃ Q0 : (Int32 × mi_M) → Prop, (∀ b, Q0 b → b = a) ∧ wo (f_X12_wind p0 p1 mem) Q0 := ⟨fun b => b = a, fun _ h => h, wo_eq e⟩
  obtain ⟨QX, hQX⟩ : ∃ QX : Option mi_V → mi_M → Prop, QX = (fun r m' => ∃ x, r = some (vi x) ∧ x = a.1 ∧ m' = a.2) := ⟨_, rfl⟩
  rw [← hQX]
  unfold f_X12_wind at h
  refine x_aload_n (pc := 0) dX12_wind_0 rfl ?_
  refine x_iconst (pc := 1) dX12_wind_1 (v := (0 : Int32)) (by decide) ?_
  refine x_putI (pc := 2) dX12_wind_2 fX12_1 rfl (by decide) rfl rfl ?_
  refine x_letm h (fun m1 h => ?_)
  refine x_aload_n (pc := 5) dX12_wind_5 rfl ?_
  refine x_iload_n (pc := 6) dX12_wind_6 rfl ?_
  refine x_iload_n (pc := 7) dX12_wind_7 rfl ?_
  refine z_Vi2 (pc := 8) h dX12_wind_8 lX12_365 (by decide) (by omega) rfl (fun a e => w_X12_areTwo _ _ _ a e) (fun v2 h => ?_)
  refine x_if_ne (pc := 11) dX12_wind_11 (tgt := 16) (by decide) (fun c36 => ?_) (fun c36 => ?_)
  · replace h := wo_neg c36 h
    refine x_aload_n (pc := 16) dX12_wind_16 rfl ?_
    refine x_iconst (pc := 17) dX12_wind_17 (v := (0 : Int32)) (by decide) ?_
    refine z_Vi1 (pc := 18) h dX12_wind_18 lX12_353 (by decide) (by omega) rfl (fun a e => w_X12_lampsOf _ _ a e) (fun v3 h => ?_)
    refine x_istore_n (ls' := [(3, _), (0, _), (1, _), (2, _)]) (pc := 21) dX12_wind_21 rfl rfl rfl ?_
    refine x_lconst (pc := 22) dX12_wind_22 (v := (0 : Int64)) (by decide) ?_
    refine x_lstore (ls' := [(4, _), (3, _), (0, _), (1, _), (2, _)]) (pc := 23) dX12_wind_23 rfl rfl ?_
    refine x_lconst (pc := 25) dX12_wind_25 (v := (1 : Int64)) (by decide) ?_
    refine x_lstore (ls' := [(6, _), (4, _), (3, _), (0, _), (1, _), (2, _)]) (pc := 26) dX12_wind_26 rfl rfl ?_
    refine x_iconst (pc := 28) dX12_wind_28 (v := (0 : Int32)) (by decide) ?_
    refine x_istore (ls' := [(8, _), (6, _), (4, _), (3, _), (0, _), (1, _), (2, _)]) (pc := 29) dX12_wind_29 rfl rfl ?_
    have k31_0 : ∀ (e4 : Int64), wo (f_X12_wind_K31 p0 p1 m1 v3 e4) Q0 → mi_X mX12_wind (4) 54 [(0, vr 12 0), (1, vi p0), (2, vi p1), (3, vi v3), (4, vl (0 : Int64)), (6, vl e4)] [] m1 QX := by
      intro e4 h
      unfold f_X12_wind_K31 at h
      try dsimp only at h
      refine x_iconst (pc := 54) dX12_wind_54 (v := (0 : Int32)) (by decide) ?_
      refine x_istore (ls' := [(8, _), (0, _), (1, _), (2, _), (3, _), (4, _), (6, _)]) (pc := 55) dX12_wind_55 rfl rfl ?_
      have k57_0 : ∀ (e5 : Int64) (m6 : mi_M), wo (f_X12_wind_K57 e4 (e5, m6)) Q0 → mi_X mX12_wind (4) 171 [(4, vl e5), (6, vl e4)] [] m6 QX := by
        intro e5 m6 h
        unfold f_X12_wind_K57 at h
        try dsimp only at h
        refine x_lload (pc := 171) dX12_wind_171 rfl ?_
        refine x_ldc2 (pc := 173) dX12_wind_173 kX12_438 ?_
        refine x_lmul (pc := 176) dX12_wind_176 ?_
        refine x_lload (pc := 177) dX12_wind_177 rfl ?_
        obtain ⟨hz7, h⟩ := wo_g h
        refine x_ldiv (pc := 179) dX12_wind_179 hz7 ?_
        refine x_l2i (pc := 180) dX12_wind_180 rfl ?_
        exact x_iret (pc := 181) dX12_wind_181 rfl (by rw [hQX]; exact ⟨_, rfl, congrArg Prod.fst (hq0 _ (wo_some h)), congrArg Prod.snd (hq0 _ (wo_some h))⟩)
      refine x_sub [(0, _), (1, _), (2, _), (3, _), (4, _), (6, _), (8, _)] ⟨rfl, rfl, rfl, rfl, rfl, rfl, rfl, trivial⟩ ?_
      obtain ⟨ea, eb, h⟩ := wo_bo h
      refine wo_lq (X := fun s => match s with | (l8, l9, m10) => mi_X mX12_wind (4) 57 [(0, vr 12 0), (1, vi p0), (2, vi p1), (3, vi v3), (4, vl l8), (6, vl e4), (8, vi l9)] [] m10 QX) (E := fun e => wo (f_X12_wind_K57 e4 e) Q0) ?_ _ ((0 : Int64), (0 : Int32), m1) ⟨_, eb, h⟩
      intro Q57 hb57 he57 s h
      obtain ⟨l8, l9, m10⟩ := s
      show mi_X mX12_wind (4) 57 [(0, vr 12 0), (1, vi p0), (2, vi p1), (3, vi v3), (4, vl l8), (6, vl e4), (8, vi l9)] [] m10 QX
      unfold f_X12_wind_B57 at h
      try dsimp only at h
      refine x_iload (pc := 57) dX12_wind_57 rfl ?_
      refine x_iconst (pc := 59) dX12_wind_59 (v := (1 : Int32)) (by decide) ?_
      refine x_aload_n (pc := 60) dX12_wind_60 rfl ?_
      refine z_Vi0 (pc := 61) h dX12_wind_61 lX12_294 (by decide) (by omega) rfl (fun a e => w_X12_people _ a e) (fun v11 h => ?_)
      refine x_ishl (pc := 64) dX12_wind_64 ?_
      refine x_icmp_ge (pc := 65) dX12_wind_65 (tgt := 171) (by decide) (fun c30 => ?_) (fun c30 => ?_)
      · replace h := wo_pos c30 h
        refine x_sub [(4, _), (6, _)] ⟨rfl, rfl, trivial⟩ ?_
        exact k57_0 _ _ (he57 (l8, m10) (wo_some h))
      · replace h := wo_neg c30 h
        refine x_iload (pc := 68) dX12_wind_68 rfl ?_
        refine x_iload_n (pc := 70) dX12_wind_70 rfl ?_
        refine x_iconst (pc := 71) dX12_wind_71 (v := (-1 : Int32)) (by decide) ?_
        refine x_ixor (pc := 72) dX12_wind_72 ?_
        refine x_iand (pc := 73) dX12_wind_73 ?_
        have j165 : ∀ (u12 : Int64) (m13 : mi_M), wo (f_X12_wind_J165 l9 u12 m13) Q57 → mi_X mX12_wind (4) 165 [(0, vr 12 0), (1, vi p0), (2, vi p1), (3, vi v3), (4, vl u12), (6, vl e4), (8, vi l9)] [] m13 QX := by
          intro u12 m13 h
          unfold f_X12_wind_J165 at h
          refine x_iinc (ls' := [(8, _), (0, _), (1, _), (2, _), (3, _), (4, _), (6, _)]) (pc := 165) dX12_wind_165 rfl (v := l9 + (1 : Int32)) rfl rfl rfl ?_
          refine x_goto (pc := 168) dX12_wind_168 (tgt := 57) (by decide) ?_
          refine x_sub [(0, _), (1, _), (2, _), (3, _), (4, _), (6, _), (8, _)] ⟨rfl, rfl, rfl, rfl, rfl, rfl, rfl, trivial⟩ ?_
          exact hb57 (u12, (l9 + (1 : Int32)), m13) (wo_some h)
        refine x_if_ne (pc := 74) dX12_wind_74 (tgt := 165) (by decide) (fun c29 => ?_) (fun c29 => ?_)
        · replace h := wo_neg c29 h
          refine x_sub [(0, _), (1, _), (2, _), (3, _), (4, _), (6, _), (8, _)] ⟨rfl, rfl, rfl, rfl, rfl, rfl, rfl, trivial⟩ ?_
          exact j165 _ _ h
        · replace h := wo_pos c29 h
          refine x_aload_n (pc := 77) dX12_wind_77 rfl ?_
          refine x_iload (pc := 78) dX12_wind_78 rfl ?_
          refine x_iload_n (pc := 80) dX12_wind_80 rfl ?_
          refine x_iload_n (pc := 81) dX12_wind_81 rfl ?_
          refine y_Vi3 (pc := 82) h dX12_wind_82 lX12_401 (by decide) (by omega) rfl (fun a e => w_X12_isLit _ _ _ _ a e) (fun v14 m15 h => ?_)
          refine x_if_eq (pc := 85) dX12_wind_85 (tgt := 165) (by decide) (fun c28 => ?_) (fun c28 => ?_)
          · replace h := wo_pos c28 h
            refine x_sub [(0, _), (1, _), (2, _), (3, _), (4, _), (6, _), (8, _)] ⟨rfl, rfl, rfl, rfl, rfl, rfl, rfl, trivial⟩ ?_
            exact j165 _ _ h
          · replace h := wo_neg c28 h
            refine x_lconst (pc := 88) dX12_wind_88 (v := (1 : Int64)) (by decide) ?_
            refine x_lstore (ls' := [(9, _), (0, _), (1, _), (2, _), (3, _), (4, _), (6, _), (8, _)]) (pc := 89) dX12_wind_89 rfl rfl ?_
            refine x_iconst (pc := 91) dX12_wind_91 (v := (0 : Int32)) (by decide) ?_
            refine x_istore (ls' := [(11, _), (9, _), (0, _), (1, _), (2, _), (3, _), (4, _), (6, _), (8, _)]) (pc := 92) dX12_wind_92 rfl rfl ?_
            have k94_0 : ∀ (e16 : Int64), wo (f_X12_wind_K94 l8 l9 m15 e16) Q57 → mi_X mX12_wind (4) 158 [(0, vr 12 0), (1, vi p0), (2, vi p1), (3, vi v3), (4, vl l8), (6, vl e4), (8, vi l9), (9, vl e16)] [] m15 QX := by
              intro e16 h
              unfold f_X12_wind_K94 at h
              try dsimp only at h
              refine x_lload (pc := 158) dX12_wind_158 rfl ?_
              refine x_lload (pc := 160) dX12_wind_160 rfl ?_
              refine x_ladd (pc := 162) dX12_wind_162 ?_
              refine x_letl h (fun v17 h => ?_)
              refine x_lstore (ls' := [(4, _), (0, _), (1, _), (2, _), (3, _), (6, _), (8, _), (9, _)]) (pc := 163) dX12_wind_163 rfl rfl ?_
              refine x_sub [(0, _), (1, _), (2, _), (3, _), (4, _), (6, _), (8, _)] ⟨rfl, rfl, rfl, rfl, rfl, rfl, rfl, trivial⟩ ?_
              exact j165 _ _ h
            refine x_sub [(0, _), (1, _), (2, _), (3, _), (4, _), (6, _), (8, _), (9, _), (11, _)] ⟨rfl, rfl, rfl, rfl, rfl, rfl, rfl, rfl, rfl, trivial⟩ ?_
            obtain ⟨ea, eb, h⟩ := wo_bo h
            refine wo_lq (X := fun s => match s with | (l18, l19) => mi_X mX12_wind (4) 94 [(0, vr 12 0), (1, vi p0), (2, vi p1), (3, vi v3), (4, vl l8), (6, vl e4), (8, vi l9), (9, vl l18), (11, vi l19)] [] m15 QX) (E := fun e => wo (f_X12_wind_K94 l8 l9 m15 e) Q57) ?_ _ ((1 : Int64), (0 : Int32)) ⟨_, eb, h⟩
            intro Q94 hb94 he94 s h
            obtain ⟨l18, l19⟩ := s
            show mi_X mX12_wind (4) 94 [(0, vr 12 0), (1, vi p0), (2, vi p1), (3, vi v3), (4, vl l8), (6, vl e4), (8, vi l9), (9, vl l18), (11, vi l19)] [] m15 QX
            unfold f_X12_wind_B94 at h
            try dsimp only at h
            refine x_iload (pc := 94) dX12_wind_94 rfl ?_
            refine x_aload_n (pc := 96) dX12_wind_96 rfl ?_
            refine z_Vi0 (pc := 97) h dX12_wind_97 lX12_294 (by decide) (by omega) rfl (fun a e => w_X12_people _ a e) (fun v20 h => ?_)
            refine x_icmp_ge (pc := 100) dX12_wind_100 (tgt := 158) (by decide) (fun c27 => ?_) (fun c27 => ?_)
            · replace h := wo_pos c27 h
              refine x_sub [(0, _), (1, _), (2, _), (3, _), (4, _), (6, _), (8, _), (9, _)] ⟨rfl, rfl, rfl, rfl, rfl, rfl, rfl, rfl, trivial⟩ ?_
              exact k94_0 _ (he94 l18 (wo_some h))
            · replace h := wo_neg c27 h
              refine x_iload_n (pc := 103) dX12_wind_103 rfl ?_
              refine x_iload (pc := 104) dX12_wind_104 rfl ?_
              refine x_ishr (pc := 106) dX12_wind_106 ?_
              refine x_iconst (pc := 107) dX12_wind_107 (v := (1 : Int32)) (by decide) ?_
              refine x_iand (pc := 108) dX12_wind_108 ?_
              have j150 : ∀ (u21 : Int64), wo (f_X12_wind_J150 l19 u21) Q94 → mi_X mX12_wind (4) 150 [(0, vr 12 0), (1, vi p0), (2, vi p1), (3, vi v3), (4, vl l8), (6, vl e4), (8, vi l9), (11, vi l19)] [vl u21] m15 QX := by
                intro u21 h
                unfold f_X12_wind_J150 at h
                refine x_lstore (ls' := [(9, _), (0, _), (1, _), (2, _), (3, _), (4, _), (6, _), (8, _), (11, _)]) (pc := 150) dX12_wind_150 rfl rfl ?_
                refine x_iinc (ls' := [(11, _), (9, _), (0, _), (1, _), (2, _), (3, _), (4, _), (6, _), (8, _)]) (pc := 152) dX12_wind_152 rfl (v := l19 + (1 : Int32)) rfl rfl rfl ?_
                refine x_goto (pc := 155) dX12_wind_155 (tgt := 94) (by decide) ?_
                refine x_sub [(0, _), (1, _), (2, _), (3, _), (4, _), (6, _), (8, _), (9, _), (11, _)] ⟨rfl, rfl, rfl, rfl, rfl, rfl, rfl, rfl, rfl, trivial⟩ ?_
                exact hb94 (u21, (l19 + (1 : Int32))) (wo_some h)
              refine x_if_ne (pc := 109) dX12_wind_109 (tgt := 117) (by decide) (fun c26 => ?_) (fun c26 => ?_)
              · replace h := wo_neg c26 h
                refine x_lload (pc := 117) dX12_wind_117 rfl ?_
                refine x_iload (pc := 119) dX12_wind_119 rfl ?_
                refine x_iload (pc := 121) dX12_wind_121 rfl ?_
                refine x_ishr (pc := 123) dX12_wind_123 ?_
                refine x_iconst (pc := 124) dX12_wind_124 (v := (1 : Int32)) (by decide) ?_
                refine x_iand (pc := 125) dX12_wind_125 ?_
                refine x_iconst (pc := 126) dX12_wind_126 (v := (1 : Int32)) (by decide) ?_
                have j148 : ∀ (u22 : Int32), wo (f_X12_wind_J148 l18 l19 u22) Q94 → mi_X mX12_wind (4) 148 [(0, vr 12 0), (1, vi p0), (2, vi p1), (3, vi v3), (4, vl l8), (6, vl e4), (8, vi l9), (11, vi l19)] [vi u22, vl l18] m15 QX := by
                  intro u22 h
                  unfold f_X12_wind_J148 at h
                  refine x_i2l (pc := 148) dX12_wind_148 rfl ?_
                  refine x_lmul (pc := 149) dX12_wind_149 ?_
                  refine x_sub [(0, _), (1, _), (2, _), (3, _), (4, _), (6, _), (8, _), (11, _)] ⟨rfl, rfl, rfl, rfl, rfl, rfl, rfl, rfl, trivial⟩ ?_
                  exact j150 _ h
                refine x_icmp_ne (pc := 127) dX12_wind_127 (tgt := 142) (by decide) (fun c25 => ?_) (fun c25 => ?_)
                · replace h := wo_neg c25 h
                  refine x_aload_n (pc := 142) dX12_wind_142 rfl ?_
                  refine x_getS (pc := 143) dX12_wind_143 fX12_89 rfl (by decide) ?_
                  refine x_iconst (pc := 146) dX12_wind_146 (v := (5 : Int32)) (by decide) ?_
                  obtain ⟨hx23, h⟩ := wo_g h
                  refine x_ialdJ (pc := 147) dX12_wind_147 rfl rfl (by decide) hx23 ?_
                  refine x_sub [(0, _), (1, _), (2, _), (3, _), (4, _), (6, _), (8, _), (11, _)] ⟨rfl, rfl, rfl, rfl, rfl, rfl, rfl, rfl, trivial⟩ ?_
                  exact j148 _ h
                · replace h := wo_pos c25 h
                  refine x_bipush (pc := 130) dX12_wind_130 (v := (10 : Int32)) (by decide) ?_
                  refine x_aload_n (pc := 132) dX12_wind_132 rfl ?_
                  refine x_getS (pc := 133) dX12_wind_133 fX12_89 rfl (by decide) ?_
                  refine x_iconst (pc := 136) dX12_wind_136 (v := (5 : Int32)) (by decide) ?_
                  obtain ⟨hx24, h⟩ := wo_g h
                  refine x_ialdJ (pc := 137) dX12_wind_137 rfl rfl (by decide) hx24 ?_
                  refine x_isub (pc := 138) dX12_wind_138 ?_
                  refine x_goto (pc := 139) dX12_wind_139 (tgt := 148) (by decide) ?_
                  refine x_sub [(0, _), (1, _), (2, _), (3, _), (4, _), (6, _), (8, _), (11, _)] ⟨rfl, rfl, rfl, rfl, rfl, rfl, rfl, rfl, trivial⟩ ?_
                  exact j148 _ h
              · replace h := wo_pos c26 h
                refine x_lload (pc := 112) dX12_wind_112 rfl ?_
                refine x_goto (pc := 114) dX12_wind_114 (tgt := 150) (by decide) ?_
                refine x_sub [(0, _), (1, _), (2, _), (3, _), (4, _), (6, _), (8, _), (11, _)] ⟨rfl, rfl, rfl, rfl, rfl, rfl, rfl, rfl, trivial⟩ ?_
                exact j150 _ h
    refine x_sub [(0, _), (1, _), (2, _), (3, _), (4, _), (6, _), (8, _)] ⟨rfl, rfl, rfl, rfl, rfl, rfl, rfl, trivial⟩ ?_
    obtain ⟨ea, eb, h⟩ := wo_bo h
    refine wo_lq (X := fun s => match s with | (l31, l32) => mi_X mX12_wind (4) 31 [(0, vr 12 0), (1, vi p0), (2, vi p1), (3, vi v3), (4, vl (0 : Int64)), (6, vl l31), (8, vi l32)] [] m1 QX) (E := fun e => wo (f_X12_wind_K31 p0 p1 m1 v3 e) Q0) ?_ _ ((1 : Int64), (0 : Int32)) ⟨_, eb, h⟩
    intro Q31 hb31 he31 s h
    obtain ⟨l31, l32⟩ := s
    show mi_X mX12_wind (4) 31 [(0, vr 12 0), (1, vi p0), (2, vi p1), (3, vi v3), (4, vl (0 : Int64)), (6, vl l31), (8, vi l32)] [] m1 QX
    unfold f_X12_wind_B31 at h
    try dsimp only at h
    refine x_iload (pc := 31) dX12_wind_31 rfl ?_
    refine x_iload_n (pc := 33) dX12_wind_33 rfl ?_
    refine z_Si1 (pc := 34) h dX12_wind_34 lX12_429 (by omega) rfl (fun a e => w_X12_bits _ _ a e) (fun v33 h => ?_)
    refine x_icmp_ge (pc := 37) dX12_wind_37 (tgt := 54) (by decide) (fun c35 => ?_) (fun c35 => ?_)
    · replace h := wo_pos c35 h
      refine x_sub [(0, _), (1, _), (2, _), (3, _), (4, _), (6, _)] ⟨rfl, rfl, rfl, rfl, rfl, rfl, trivial⟩ ?_
      exact k31_0 _ (he31 l31 (wo_some h))
    · replace h := wo_neg c35 h
      refine x_lload (pc := 40) dX12_wind_40 rfl ?_
      refine x_ldc2 (pc := 42) dX12_wind_42 kX12_173 ?_
      refine x_lmul (pc := 45) dX12_wind_45 ?_
      refine x_letl h (fun v34 h => ?_)
      refine x_lstore (ls' := [(6, _), (0, _), (1, _), (2, _), (3, _), (4, _), (8, _)]) (pc := 46) dX12_wind_46 rfl rfl ?_
      refine x_iinc (ls' := [(8, _), (6, _), (0, _), (1, _), (2, _), (3, _), (4, _)]) (pc := 48) dX12_wind_48 rfl (v := l32 + (1 : Int32)) rfl rfl rfl ?_
      refine x_goto (pc := 51) dX12_wind_51 (tgt := 31) (by decide) ?_
      refine x_sub [(0, _), (1, _), (2, _), (3, _), (4, _), (6, _), (8, _)] ⟨rfl, rfl, rfl, rfl, rfl, rfl, rfl, trivial⟩ ?_
      exact hb31 (v34, (l32 + (1 : Int32))) (wo_some h)
  · replace h := wo_pos c36 h
    refine x_iconst (pc := 14) dX12_wind_14 (v := (-1 : Int32)) (by decide) ?_
    exact x_iret (pc := 15) dX12_wind_15 rfl (by rw [hQX]; exact ⟨_, rfl, congrArg Prod.fst (hq0 _ (wo_some h)), congrArg Prod.snd (hq0 _ (wo_some h))⟩)
noncomputable def f_X12_wrong__J23 (m1 : mi_M) : Option (Int32 × mi_M) := some ((-1 : Int32), m1)
noncomputable def f_X12_wrong_ (p0 : Int32) (p1 : Int32) (mem : mi_M) : Option (Int32 × mi_M) := mi_let (mi_wI mem 12 0 0 (0 : Int32)) fun m1 => mi_bo (f_X12_isWrong p0 m1) fun v2 => if v2 = 0 then f_X12_wrong__J23 m1 else mi_bo (f_X12_within p1 (0 : Int32) (6 : Int32) m1) fun v3 => if v3 = 0 then f_X12_wrong__J23 m1 else if p1 = (3 : Int32) then mi_g (vp_in ((14 : Int32) + p0) 1449) (some ((m1.1 64 0 ((14 : Int32) + p0).toNatClampNeg), m1)) else if p1 = (4 : Int32) then mi_g (vp_in ((22 : Int32) + p0) 1449) (some ((m1.1 64 0 ((22 : Int32) + p0).toNatClampNeg), m1)) else if p1 = (5 : Int32) then mi_g (vp_in ((30 : Int32) + p0) 1449) (some ((m1.1 64 0 ((30 : Int32) + p0).toNatClampNeg), m1)) else if p1 = (6 : Int32) then mi_bo (f_X12_barOf p0 m1) fun v11 => some (v11, m1) else mi_bo (f_X12_wrongOf p0 p1 m1) fun v12 => some (v12, m1)
set_option maxRecDepth 100000 in
set_option maxHeartbeats 4000000 in
theorem w_X12_wrong_ (p0 : Int32) (p1 : Int32) (mem : mi_M) (a : Int32 × mi_M) (e : f_X12_wrong_ p0 p1 mem = some a) : mi_Ci (3) mX12_wrong_ [vr 12 0, vi p0, vi p1] mem (fun x m' => x = a.1 ∧ m' = a.2) := by
  unfold mi_Ci
  refine mi_C_intro (ls := [(0, vr 12 0), (1, vi p0), (2, vi p1)]) (by decide) rfl rfl ?_
  obtain ⟨Q0, hq0, h⟩ : ∃ Q0 : (Int32 × mi_M) → Prop, (∀ b, Q0 b → b = a) ∧ wo (f_X12_wrong_ p0 p1 mem) Q0 := ⟨fun b => b = a, fun _ h => h, wo_eq e⟩
  obtain ⟨QX, hQX⟩ : ∃ QX : Option mi_V → mi_M → Prop, QX = (fun r m' => ∃ x, r = some (vi x) ∧ x = a.1 ∧ m' = a.2) := ⟨_, rfl⟩
  rw [← hQX]
  unfold f_X12_wrong_ at h
  refine x_aload_n (pc := 0) dX12_wrong__0 rfl ?_
  refine x_iconst (pc := 1) dX12_wrong__1 (v := (0 : Int32)) (by decide) ?_
  refine x_putI (pc := 2) dX12_wrong__2 fX12_1 rfl (by decide) rfl rfl ?_
  refine x_letm h (fun m1 h => ?_)
  refine x_aload_n (pc := 5) dX12_wrong__5 rfl ?_
  refine x_iload_n (pc := 6) dX12_wrong__6 rfl ?_
  refine z_Vi1 (pc := 7) h dX12_wrong__7 lX12_313 (by decide) (by omega) rfl (fun a e => w_X12_isWrong _ _ a e) (fun v2 h => ?_)
  have j23 : wo (f_X12_wrong__J23 m1) Q0 → mi_X mX12_wrong_ (3) 23 [] [] m1 QX := by
    intro h
    unfold f_X12_wrong__J23 at h
    refine x_iconst (pc := 23) dX12_wrong__23 (v := (-1 : Int32)) (by decide) ?_
    exact x_iret (pc := 24) dX12_wrong__24 rfl (by rw [hQX]; exact ⟨_, rfl, congrArg Prod.fst (hq0 _ (wo_some h)), congrArg Prod.snd (hq0 _ (wo_some h))⟩)
  refine x_if_eq (pc := 10) dX12_wrong__10 (tgt := 23) (by decide) (fun c14 => ?_) (fun c14 => ?_)
  · replace h := wo_pos c14 h
    refine x_sub [] trivial ?_
    exact j23 h
  · replace h := wo_neg c14 h
    refine x_iload_n (pc := 13) dX12_wrong__13 rfl ?_
    refine x_iconst (pc := 14) dX12_wrong__14 (v := (0 : Int32)) (by decide) ?_
    refine x_bipush (pc := 15) dX12_wrong__15 (v := (6 : Int32)) (by decide) ?_
    refine z_Si3 (pc := 17) h dX12_wrong__17 lX12_362 (by omega) rfl (fun a e => w_X12_within _ _ _ _ a e) (fun v3 h => ?_)
    refine x_if_ne (pc := 20) dX12_wrong__20 (tgt := 25) (by decide) (fun c13 => ?_) (fun c13 => ?_)
    · replace h := wo_neg c13 h
      refine x_iload_n (pc := 25) dX12_wrong__25 rfl ?_
      by_cases c4 : p1 = (3 : Int32)
      · replace h := wo_pos c4 h
        refine x_swT (pc := 26) (c := (3 : Int32)) c4 dX12_wrong__26 (by decide) (by decide) rfl (tgt := 56) (by decide) ?_
        refine x_aload_n (pc := 56) dX12_wrong__56 rfl ?_
        refine x_getS (pc := 57) dX12_wrong__57 fX12_113 rfl (by decide) ?_
        refine x_bipush (pc := 60) dX12_wrong__60 (v := (14 : Int32)) (by decide) ?_
        refine x_iload_n (pc := 62) dX12_wrong__62 rfl ?_
        refine x_iadd (pc := 63) dX12_wrong__63 ?_
        obtain ⟨hx5, h⟩ := wo_g h
        refine x_ialdJ (pc := 64) dX12_wrong__64 rfl rfl (by decide) hx5 ?_
        exact x_iret (pc := 65) dX12_wrong__65 rfl (by rw [hQX]; exact ⟨_, rfl, congrArg Prod.fst (hq0 _ (wo_some h)), congrArg Prod.snd (hq0 _ (wo_some h))⟩)
      · replace h := wo_neg c4 h
        by_cases c6 : p1 = (4 : Int32)
        · replace h := wo_pos c6 h
          refine x_swT (pc := 26) (c := (4 : Int32)) c6 dX12_wrong__26 (by decide) (by decide) rfl (tgt := 66) (by decide) ?_
          refine x_aload_n (pc := 66) dX12_wrong__66 rfl ?_
          refine x_getS (pc := 67) dX12_wrong__67 fX12_113 rfl (by decide) ?_
          refine x_bipush (pc := 70) dX12_wrong__70 (v := (22 : Int32)) (by decide) ?_
          refine x_iload_n (pc := 72) dX12_wrong__72 rfl ?_
          refine x_iadd (pc := 73) dX12_wrong__73 ?_
          obtain ⟨hx7, h⟩ := wo_g h
          refine x_ialdJ (pc := 74) dX12_wrong__74 rfl rfl (by decide) hx7 ?_
          exact x_iret (pc := 75) dX12_wrong__75 rfl (by rw [hQX]; exact ⟨_, rfl, congrArg Prod.fst (hq0 _ (wo_some h)), congrArg Prod.snd (hq0 _ (wo_some h))⟩)
        · replace h := wo_neg c6 h
          by_cases c8 : p1 = (5 : Int32)
          · replace h := wo_pos c8 h
            refine x_swT (pc := 26) (c := (5 : Int32)) c8 dX12_wrong__26 (by decide) (by decide) rfl (tgt := 76) (by decide) ?_
            refine x_aload_n (pc := 76) dX12_wrong__76 rfl ?_
            refine x_getS (pc := 77) dX12_wrong__77 fX12_113 rfl (by decide) ?_
            refine x_bipush (pc := 80) dX12_wrong__80 (v := (30 : Int32)) (by decide) ?_
            refine x_iload_n (pc := 82) dX12_wrong__82 rfl ?_
            refine x_iadd (pc := 83) dX12_wrong__83 ?_
            obtain ⟨hx9, h⟩ := wo_g h
            refine x_ialdJ (pc := 84) dX12_wrong__84 rfl rfl (by decide) hx9 ?_
            exact x_iret (pc := 85) dX12_wrong__85 rfl (by rw [hQX]; exact ⟨_, rfl, congrArg Prod.fst (hq0 _ (wo_some h)), congrArg Prod.snd (hq0 _ (wo_some h))⟩)
          · replace h := wo_neg c8 h
            by_cases c10 : p1 = (6 : Int32)
            · replace h := wo_pos c10 h
              refine x_swT (pc := 26) (c := (6 : Int32)) c10 dX12_wrong__26 (by decide) (by decide) rfl (tgt := 86) (by decide) ?_
              refine x_aload_n (pc := 86) dX12_wrong__86 rfl ?_
              refine x_iload_n (pc := 87) dX12_wrong__87 rfl ?_
              refine z_Vi1 (pc := 88) h dX12_wrong__88 lX12_323 (by decide) (by omega) rfl (fun a e => w_X12_barOf _ _ a e) (fun v11 h => ?_)
              exact x_iret (pc := 91) dX12_wrong__91 rfl (by rw [hQX]; exact ⟨_, rfl, congrArg Prod.fst (hq0 _ (wo_some h)), congrArg Prod.snd (hq0 _ (wo_some h))⟩)
            · replace h := wo_neg c10 h
              refine x_tableOut (pc := 26) dX12_wrong__26 (by have := lv_neT (a := 3) c4 (by decide); have := lv_neT (a := 4) c6 (by decide); have := lv_neT (a := 5) c8 (by decide); have := lv_neT (a := 6) c10 (by decide); omega) (tgt := 92) (by decide) ?_
              refine x_aload_n (pc := 92) dX12_wrong__92 rfl ?_
              refine x_iload_n (pc := 93) dX12_wrong__93 rfl ?_
              refine x_iload_n (pc := 94) dX12_wrong__94 rfl ?_
              refine z_Vi2 (pc := 95) h dX12_wrong__95 lX12_297 (by decide) (by omega) rfl (fun a e => w_X12_wrongOf _ _ _ a e) (fun v12 h => ?_)
              exact x_iret (pc := 98) dX12_wrong__98 rfl (by rw [hQX]; exact ⟨_, rfl, congrArg Prod.fst (hq0 _ (wo_some h)), congrArg Prod.snd (hq0 _ (wo_some h))⟩)
    · replace h := wo_pos c13 h
      refine x_sub [] trivial ?_
      exact j23 h
noncomputable def f_X12_year_B177 (e3 : Int32) : (Int32 × mi_M) → Option ((Int32 × mi_M) ⊕ (mi_M)) := fun s => match s with | (l8, m9) => if ((3 : Int32) * e3) ≤ l8 then some (.inr m9) else mi_g (vp_in ((100 : Int32) + l8) 200) (mi_g (vp_in ((1 : Int32) + l8) 200) (mi_let (mi_wI m9 61 0 ((1 : Int32) + l8).toNatClampNeg (m9.1 61 0 ((100 : Int32) + l8).toNatClampNeg)) fun m12 => some (.inl ((l8 + (1 : Int32)), m12))))
noncomputable def f_X12_year_K177 : mi_M → Option (Int32 × mi_M) := fun m7 => some ((0 : Int32), m7)
noncomputable def f_X12_year_J147 (u19 : Int32) (m20 : mi_M) : Option ((Int32 × mi_M) ⊕ (Int32 × mi_M)) := mi_bo (f_X12_takeSign (59 : Int32) m20) fun m21 => some (.inl (u19, m21))
noncomputable def f_X12_year_J143 (l15 : Int32) (u29 : Int32) (m30 : mi_M) : Option ((Int32 × mi_M) ⊕ (Int32 × mi_M)) := mi_g (vp_in ((102 : Int32) + ((3 : Int32) * l15)) 200) (mi_let (mi_wI m30 61 0 ((102 : Int32) + ((3 : Int32) * l15)).toNatClampNeg u29) fun m32 => f_X12_year_J147 (l15 + (1 : Int32)) m32)
noncomputable def f_X12_year_J116 (l15 : Int32) (v18 : Int32) (u25 : Int32) (m26 : mi_M) : Option ((Int32 × mi_M) ⊕ (Int32 × mi_M)) := mi_g (vp_in ((101 : Int32) + ((3 : Int32) * l15)) 200) (mi_let (mi_wI m26 61 0 ((101 : Int32) + ((3 : Int32) * l15)).toNatClampNeg u25) fun m28 => if v18 = (1 : Int32) then mi_b (f_X12_takeNumber (1 : Int32) (99 : Int32) m28) fun v33 m34 => f_X12_year_J143 l15 v33 m34 else f_X12_year_J143 l15 (0 : Int32) m28)
noncomputable def f_X12_year_B11 : (Int32 × mi_M) → Option ((Int32 × mi_M) ⊕ (Int32 × mi_M)) := fun s => match s with | (l15, m16) => if (m16.1 12 0 8) = 0 then mi_g (vp_in (m16.1 12 0 7) 1002) (if (m16.1 52 0 (m16.1 12 0 7).toNatClampNeg) = 0 then some (.inr (l15, m16)) else mi_bo (f_X12_wordHere (12 : Int32) (4 : Int32) m16) fun v18 => if 0 ≤ v18 then if l15 = (30 : Int32) then mi_bo (f_X12_wrong (5 : Int32) m16) fun m40 => f_X12_year_J147 l15 m40 else mi_let (mi_wI m16 12 0 7 ((m16.1 12 0 7) + (1 : Int32))) fun m22 => mi_g (vp_in ((100 : Int32) + ((3 : Int32) * l15)) 200) (mi_let (mi_wI m22 61 0 ((100 : Int32) + ((3 : Int32) * l15)).toNatClampNeg v18) fun m24 => if (3 : Int32) ≤ v18 then f_X12_year_J116 l15 v18 (0 : Int32) m24 else mi_bo (f_X12_wrongs m24) fun v36 => mi_b (f_X12_takeNumber (0 : Int32) (v36 - (1 : Int32)) m24) fun v37 m38 => f_X12_year_J116 l15 v18 v37 m38) else mi_bo (f_X12_wrong (1 : Int32) m16) fun m42 => f_X12_year_J147 l15 m42) else some (.inr (l15, m16))
noncomputable def f_X12_year_K11 : (Int32 × mi_M) → Option (Int32 × mi_M) := fun e => match e with | (e3, m4) => if (m4.1 12 0 8) ≤ 0 then mi_g (vp_in (0 : Int32) 200) (mi_let (mi_wI m4 61 0 (0 : Int32).toNatClampNeg e3) fun m6 => mi_bo (mi_lp (f_X12_year_B177 e3) mi_fu ((0 : Int32), m6)) (f_X12_year_K177)) else some ((m4.1 12 0 8), m4)
noncomputable def f_X12_year (mem : mi_M) : Option (Int32 × mi_M) := mi_let (mi_wI mem 12 0 0 (0 : Int32)) fun m1 => mi_bo (f_X12_cutAll m1) fun m2 => mi_bo (mi_lp (f_X12_year_B11) mi_fu ((0 : Int32), m2)) (f_X12_year_K11)
set_option maxRecDepth 100000 in
set_option maxHeartbeats 4000000 in
theorem w_X12_year (mem : mi_M) (a : Int32 × mi_M) (e : f_X12_year  mem = some a) : mi_Ci (4) mX12_year [vr 12 0] mem (fun x m' => x = a.1 ∧ m' = a.2) := by
  unfold mi_Ci
  refine mi_C_intro (ls := [(0, vr 12 0)]) (by decide) rfl rfl ?_
  obtain ⟨Q0, hq0, h⟩ : ∃ Q0 : (Int32 × mi_M) → Prop, (∀ b, Q0 b → b = a) ∧ wo (f_X12_year  mem) Q0 := ⟨fun b => b = a, fun _ h => h, wo_eq e⟩
  obtain ⟨QX, hQX⟩ : ∃ QX : Option mi_V → mi_M → Prop, QX = (fun r m' => ∃ x, r = some (vi x) ∧ x = a.1 ∧ m' = a.2) := ⟨_, rfl⟩
  rw [← hQX]
  unfold f_X12_year at h
  refine x_aload_n (pc := 0) dX12_year_0 rfl ?_
  refine x_iconst (pc := 1) dX12_year_1 (v := (0 : Int32)) (by decide) ?_
  refine x_putI (pc := 2) dX12_year_2 fX12_1 rfl (by decide) rfl rfl ?_
  refine x_letm h (fun m1 h => ?_)
  refine x_aload_n (pc := 5) dX12_year_5 rfl ?_
  refine y_Vv0 (pc := 6) h dX12_year_6 lX12_222 (by decide) (by omega) rfl (fun a e => w_X12_cutAll _ a e) (fun m2 h => ?_)
  refine x_iconst (pc := 9) dX12_year_9 (v := (0 : Int32)) (by decide) ?_
  refine x_istore_n (ls' := [(1, _), (0, _)]) (pc := 10) dX12_year_10 rfl rfl rfl ?_
  have k11_0 : ∀ (e3 : Int32) (m4 : mi_M), wo (f_X12_year_K11 (e3, m4)) Q0 → mi_X mX12_year (4) 156 [(0, vr 12 0), (1, vi e3)] [] m4 QX := by
    intro e3 m4 h
    unfold f_X12_year_K11 at h
    try dsimp only at h
    refine x_aload_n (pc := 156) dX12_year_156 rfl ?_
    refine x_getI (pc := 157) dX12_year_157 fX12_183 rfl (by decide) ?_
    refine x_if_le (pc := 160) dX12_year_160 (tgt := 168) (by decide) (fun c14 => ?_) (fun c14 => ?_)
    · replace h := wo_pos c14 h
      refine x_aload_n (pc := 168) dX12_year_168 rfl ?_
      refine x_getS (pc := 169) dX12_year_169 fX12_104 rfl (by decide) ?_
      refine x_iconst (pc := 172) dX12_year_172 (v := (0 : Int32)) (by decide) ?_
      refine x_iload_n (pc := 173) dX12_year_173 rfl ?_
      obtain ⟨hx5, h⟩ := wo_g h
      refine x_iastJ (pc := 174) dX12_year_174 rfl rfl (by decide) rfl hx5 ?_
      refine x_letm h (fun m6 h => ?_)
      refine x_iconst (pc := 175) dX12_year_175 (v := (0 : Int32)) (by decide) ?_
      refine x_istore_n (ls' := [(2, _), (0, _), (1, _)]) (pc := 176) dX12_year_176 rfl rfl rfl ?_
      have k177_0 : ∀ (m7 : mi_M), wo (f_X12_year_K177 m7) Q0 → mi_X mX12_year (4) 207 [] [] m7 QX := by
        intro m7 h
        unfold f_X12_year_K177 at h
        try dsimp only at h
        refine x_iconst (pc := 207) dX12_year_207 (v := (0 : Int32)) (by decide) ?_
        exact x_iret (pc := 208) dX12_year_208 rfl (by rw [hQX]; exact ⟨_, rfl, congrArg Prod.fst (hq0 _ (wo_some h)), congrArg Prod.snd (hq0 _ (wo_some h))⟩)
      refine x_sub [(0, _), (1, _), (2, _)] ⟨rfl, rfl, rfl, trivial⟩ ?_
      obtain ⟨ea, eb, h⟩ := wo_bo h
      refine wo_lq (X := fun s => match s with | (l8, m9) => mi_X mX12_year (4) 177 [(0, vr 12 0), (1, vi e3), (2, vi l8)] [] m9 QX) (E := fun e => wo (f_X12_year_K177 e) Q0) ?_ _ ((0 : Int32), m6) ⟨_, eb, h⟩
      intro Q177 hb177 he177 s h
      obtain ⟨l8, m9⟩ := s
      show mi_X mX12_year (4) 177 [(0, vr 12 0), (1, vi e3), (2, vi l8)] [] m9 QX
      unfold f_X12_year_B177 at h
      try dsimp only at h
      refine x_iload_n (pc := 177) dX12_year_177 rfl ?_
      refine x_iconst (pc := 178) dX12_year_178 (v := (3 : Int32)) (by decide) ?_
      refine x_iload_n (pc := 179) dX12_year_179 rfl ?_
      refine x_imul (pc := 180) dX12_year_180 ?_
      refine x_icmp_ge (pc := 181) dX12_year_181 (tgt := 207) (by decide) (fun c13 => ?_) (fun c13 => ?_)
      · replace h := wo_pos c13 h
        refine x_sub [] trivial ?_
        exact k177_0 _ (he177 m9 (wo_some h))
      · replace h := wo_neg c13 h
        refine x_aload_n (pc := 184) dX12_year_184 rfl ?_
        refine x_getS (pc := 185) dX12_year_185 fX12_104 rfl (by decide) ?_
        refine x_iconst (pc := 188) dX12_year_188 (v := (1 : Int32)) (by decide) ?_
        refine x_iload_n (pc := 189) dX12_year_189 rfl ?_
        refine x_iadd (pc := 190) dX12_year_190 ?_
        refine x_aload_n (pc := 191) dX12_year_191 rfl ?_
        refine x_getS (pc := 192) dX12_year_192 fX12_104 rfl (by decide) ?_
        refine x_bipush (pc := 195) dX12_year_195 (v := (100 : Int32)) (by decide) ?_
        refine x_iload_n (pc := 197) dX12_year_197 rfl ?_
        refine x_iadd (pc := 198) dX12_year_198 ?_
        obtain ⟨hx10, h⟩ := wo_g h
        refine x_ialdJ (pc := 199) dX12_year_199 rfl rfl (by decide) hx10 ?_
        obtain ⟨hx11, h⟩ := wo_g h
        refine x_iastJ (pc := 200) dX12_year_200 rfl rfl (by decide) rfl hx11 ?_
        refine x_letm h (fun m12 h => ?_)
        refine x_iinc (ls' := [(2, _), (0, _), (1, _)]) (pc := 201) dX12_year_201 rfl (v := l8 + (1 : Int32)) rfl rfl rfl ?_
        refine x_goto (pc := 204) dX12_year_204 (tgt := 177) (by decide) ?_
        refine x_sub [(0, _), (1, _), (2, _)] ⟨rfl, rfl, rfl, trivial⟩ ?_
        exact hb177 ((l8 + (1 : Int32)), m12) (wo_some h)
    · replace h := wo_neg c14 h
      refine x_aload_n (pc := 163) dX12_year_163 rfl ?_
      refine x_getI (pc := 164) dX12_year_164 fX12_183 rfl (by decide) ?_
      exact x_iret (pc := 167) dX12_year_167 rfl (by rw [hQX]; exact ⟨_, rfl, congrArg Prod.fst (hq0 _ (wo_some h)), congrArg Prod.snd (hq0 _ (wo_some h))⟩)
  refine x_sub [(0, _), (1, _)] ⟨rfl, rfl, trivial⟩ ?_
  obtain ⟨ea, eb, h⟩ := wo_bo h
  refine wo_lq (X := fun s => match s with | (l15, m16) => mi_X mX12_year (4) 11 [(0, vr 12 0), (1, vi l15)] [] m16 QX) (E := fun e => wo (f_X12_year_K11 e) Q0) ?_ _ ((0 : Int32), m2) ⟨_, eb, h⟩
  intro Q11 hb11 he11 s h
  obtain ⟨l15, m16⟩ := s
  show mi_X mX12_year (4) 11 [(0, vr 12 0), (1, vi l15)] [] m16 QX
  unfold f_X12_year_B11 at h
  try dsimp only at h
  refine x_aload_n (pc := 11) dX12_year_11 rfl ?_
  refine x_getI (pc := 12) dX12_year_12 fX12_183 rfl (by decide) ?_
  refine x_if_ne (pc := 15) dX12_year_15 (tgt := 156) (by decide) (fun c45 => ?_) (fun c45 => ?_)
  · replace h := wo_neg c45 h
    refine x_sub [(0, _), (1, _)] ⟨rfl, rfl, trivial⟩ ?_
    exact k11_0 _ _ (he11 (l15, m16) (wo_some h))
  · replace h := wo_pos c45 h
    refine x_aload_n (pc := 18) dX12_year_18 rfl ?_
    refine x_getS (pc := 19) dX12_year_19 fX12_24 rfl (by decide) ?_
    refine x_aload_n (pc := 22) dX12_year_22 rfl ?_
    refine x_getI (pc := 23) dX12_year_23 fX12_180 rfl (by decide) ?_
    obtain ⟨hx17, h⟩ := wo_g h
    refine x_ialdJ (pc := 26) dX12_year_26 rfl rfl (by decide) hx17 ?_
    refine x_if_eq (pc := 27) dX12_year_27 (tgt := 156) (by decide) (fun c44 => ?_) (fun c44 => ?_)
    · replace h := wo_pos c44 h
      refine x_sub [(0, _), (1, _)] ⟨rfl, rfl, trivial⟩ ?_
      exact k11_0 _ _ (he11 (l15, m16) (wo_some h))
    · replace h := wo_neg c44 h
      refine x_aload_n (pc := 30) dX12_year_30 rfl ?_
      refine x_bipush (pc := 31) dX12_year_31 (v := (12 : Int32)) (by decide) ?_
      refine x_iconst (pc := 33) dX12_year_33 (v := (4 : Int32)) (by decide) ?_
      refine z_Vi2 (pc := 34) h dX12_year_34 lX12_205 (by decide) (by omega) rfl (fun a e => w_X12_wordHere _ _ _ a e) (fun v18 h => ?_)
      refine x_istore_n (ls' := [(2, _), (0, _), (1, _)]) (pc := 37) dX12_year_37 rfl rfl rfl ?_
      refine x_iload_n (pc := 38) dX12_year_38 rfl ?_
      have j147 : ∀ (u19 : Int32) (m20 : mi_M), wo (f_X12_year_J147 u19 m20) Q11 → mi_X mX12_year (4) 147 [(0, vr 12 0), (1, vi u19)] [] m20 QX := by
        intro u19 m20 h
        unfold f_X12_year_J147 at h
        refine x_aload_n (pc := 147) dX12_year_147 rfl ?_
        refine x_bipush (pc := 148) dX12_year_148 (v := (59 : Int32)) (by decide) ?_
        refine y_Vv1 (pc := 150) h dX12_year_150 lX12_234 (by decide) (by omega) rfl (fun a e => w_X12_takeSign _ _ a e) (fun m21 h => ?_)
        refine x_goto (pc := 153) dX12_year_153 (tgt := 11) (by decide) ?_
        refine x_sub [(0, _), (1, _)] ⟨rfl, rfl, trivial⟩ ?_
        exact hb11 (u19, m21) (wo_some h)
      refine x_if_ge (pc := 39) dX12_year_39 (tgt := 50) (by decide) (fun c43 => ?_) (fun c43 => ?_)
      · replace h := wo_pos c43 h
        refine x_iload_n (pc := 50) dX12_year_50 rfl ?_
        refine x_bipush (pc := 51) dX12_year_51 (v := (30 : Int32)) (by decide) ?_
        refine x_icmp_ne (pc := 53) dX12_year_53 (tgt := 64) (by decide) (fun c41 => ?_) (fun c41 => ?_)
        · replace h := wo_neg c41 h
          refine x_aload_n (pc := 64) dX12_year_64 rfl ?_
          refine x_dup (pc := 65) dX12_year_65 rfl ?_
          refine x_getI (pc := 66) dX12_year_66 fX12_180 rfl (by decide) ?_
          refine x_iconst (pc := 69) dX12_year_69 (v := (1 : Int32)) (by decide) ?_
          refine x_iadd (pc := 70) dX12_year_70 ?_
          refine x_putI (pc := 71) dX12_year_71 fX12_180 rfl (by decide) rfl rfl ?_
          refine x_letm h (fun m22 h => ?_)
          refine x_aload_n (pc := 74) dX12_year_74 rfl ?_
          refine x_getS (pc := 75) dX12_year_75 fX12_104 rfl (by decide) ?_
          refine x_bipush (pc := 78) dX12_year_78 (v := (100 : Int32)) (by decide) ?_
          refine x_iconst (pc := 80) dX12_year_80 (v := (3 : Int32)) (by decide) ?_
          refine x_iload_n (pc := 81) dX12_year_81 rfl ?_
          refine x_imul (pc := 82) dX12_year_82 ?_
          refine x_iadd (pc := 83) dX12_year_83 ?_
          refine x_iload_n (pc := 84) dX12_year_84 rfl ?_
          obtain ⟨hx23, h⟩ := wo_g h
          refine x_iastJ (pc := 85) dX12_year_85 rfl rfl (by decide) rfl hx23 ?_
          refine x_letm h (fun m24 h => ?_)
          refine x_aload_n (pc := 86) dX12_year_86 rfl ?_
          refine x_getS (pc := 87) dX12_year_87 fX12_104 rfl (by decide) ?_
          refine x_bipush (pc := 90) dX12_year_90 (v := (101 : Int32)) (by decide) ?_
          refine x_iconst (pc := 92) dX12_year_92 (v := (3 : Int32)) (by decide) ?_
          refine x_iload_n (pc := 93) dX12_year_93 rfl ?_
          refine x_imul (pc := 94) dX12_year_94 ?_
          refine x_iadd (pc := 95) dX12_year_95 ?_
          refine x_iload_n (pc := 96) dX12_year_96 rfl ?_
          refine x_iconst (pc := 97) dX12_year_97 (v := (3 : Int32)) (by decide) ?_
          have j116 : ∀ (u25 : Int32) (m26 : mi_M), wo (f_X12_year_J116 l15 v18 u25 m26) Q11 → mi_X mX12_year (4) 116 [(0, vr 12 0), (1, vi l15), (2, vi v18)] [vi u25, vi ((101 : Int32) + ((3 : Int32) * l15)), vr 61 0] m26 QX := by
            intro u25 m26 h
            unfold f_X12_year_J116 at h
            obtain ⟨hx27, h⟩ := wo_g h
            refine x_iastJ (pc := 116) dX12_year_116 rfl rfl (by decide) rfl hx27 ?_
            refine x_letm h (fun m28 h => ?_)
            refine x_aload_n (pc := 117) dX12_year_117 rfl ?_
            refine x_getS (pc := 118) dX12_year_118 fX12_104 rfl (by decide) ?_
            refine x_bipush (pc := 121) dX12_year_121 (v := (102 : Int32)) (by decide) ?_
            refine x_iconst (pc := 123) dX12_year_123 (v := (3 : Int32)) (by decide) ?_
            refine x_iload_n (pc := 124) dX12_year_124 rfl ?_
            refine x_imul (pc := 125) dX12_year_125 ?_
            refine x_iadd (pc := 126) dX12_year_126 ?_
            refine x_iload_n (pc := 127) dX12_year_127 rfl ?_
            refine x_iconst (pc := 128) dX12_year_128 (v := (1 : Int32)) (by decide) ?_
            have j143 : ∀ (u29 : Int32) (m30 : mi_M), wo (f_X12_year_J143 l15 u29 m30) Q11 → mi_X mX12_year (4) 143 [(0, vr 12 0), (1, vi l15)] [vi u29, vi ((102 : Int32) + ((3 : Int32) * l15)), vr 61 0] m30 QX := by
              intro u29 m30 h
              unfold f_X12_year_J143 at h
              obtain ⟨hx31, h⟩ := wo_g h
              refine x_iastJ (pc := 143) dX12_year_143 rfl rfl (by decide) rfl hx31 ?_
              refine x_letm h (fun m32 h => ?_)
              refine x_iinc (ls' := [(1, _), (0, _)]) (pc := 144) dX12_year_144 rfl (v := l15 + (1 : Int32)) rfl rfl rfl ?_
              refine x_sub [(0, _), (1, _)] ⟨rfl, rfl, trivial⟩ ?_
              exact j147 _ _ h
            refine x_icmp_ne (pc := 129) dX12_year_129 (tgt := 142) (by decide) (fun c35 => ?_) (fun c35 => ?_)
            · replace h := wo_neg c35 h
              refine x_iconst (pc := 142) dX12_year_142 (v := (0 : Int32)) (by decide) ?_
              refine x_sub [(0, _), (1, _)] ⟨rfl, rfl, trivial⟩ ?_
              exact j143 _ _ h
            · replace h := wo_pos c35 h
              refine x_aload_n (pc := 132) dX12_year_132 rfl ?_
              refine x_iconst (pc := 133) dX12_year_133 (v := (1 : Int32)) (by decide) ?_
              refine x_bipush (pc := 134) dX12_year_134 (v := (99 : Int32)) (by decide) ?_
              refine y_Vi2 (pc := 136) h dX12_year_136 lX12_201 (by decide) (by omega) rfl (fun a e => w_X12_takeNumber _ _ _ a e) (fun v33 m34 h => ?_)
              refine x_goto (pc := 139) dX12_year_139 (tgt := 143) (by decide) ?_
              refine x_sub [(0, _), (1, _)] ⟨rfl, rfl, trivial⟩ ?_
              exact j143 _ _ h
          refine x_icmp_ge (pc := 98) dX12_year_98 (tgt := 115) (by decide) (fun c39 => ?_) (fun c39 => ?_)
          · replace h := wo_pos c39 h
            refine x_iconst (pc := 115) dX12_year_115 (v := (0 : Int32)) (by decide) ?_
            refine x_sub [(0, _), (1, _), (2, _)] ⟨rfl, rfl, rfl, trivial⟩ ?_
            exact j116 _ _ h
          · replace h := wo_neg c39 h
            refine x_aload_n (pc := 101) dX12_year_101 rfl ?_
            refine x_iconst (pc := 102) dX12_year_102 (v := (0 : Int32)) (by decide) ?_
            refine x_aload_n (pc := 103) dX12_year_103 rfl ?_
            refine z_Vi0 (pc := 104) h dX12_year_104 lX12_273 (by decide) (by omega) rfl (fun a e => w_X12_wrongs _ a e) (fun v36 h => ?_)
            refine x_iconst (pc := 107) dX12_year_107 (v := (1 : Int32)) (by decide) ?_
            refine x_isub (pc := 108) dX12_year_108 ?_
            refine y_Vi2 (pc := 109) h dX12_year_109 lX12_201 (by decide) (by omega) rfl (fun a e => w_X12_takeNumber _ _ _ a e) (fun v37 m38 h => ?_)
            refine x_goto (pc := 112) dX12_year_112 (tgt := 116) (by decide) ?_
            refine x_sub [(0, _), (1, _), (2, _)] ⟨rfl, rfl, rfl, trivial⟩ ?_
            exact j116 _ _ h
        · replace h := wo_pos c41 h
          refine x_aload_n (pc := 56) dX12_year_56 rfl ?_
          refine x_iconst (pc := 57) dX12_year_57 (v := (5 : Int32)) (by decide) ?_
          refine y_Vv1 (pc := 58) h dX12_year_58 lX12_189 (by decide) (by omega) rfl (fun a e => w_X12_wrong _ _ a e) (fun m40 h => ?_)
          refine x_goto (pc := 61) dX12_year_61 (tgt := 147) (by decide) ?_
          refine x_sub [(0, _), (1, _)] ⟨rfl, rfl, trivial⟩ ?_
          exact j147 _ _ h
      · replace h := wo_neg c43 h
        refine x_aload_n (pc := 42) dX12_year_42 rfl ?_
        refine x_iconst (pc := 43) dX12_year_43 (v := (1 : Int32)) (by decide) ?_
        refine y_Vv1 (pc := 44) h dX12_year_44 lX12_189 (by decide) (by omega) rfl (fun a e => w_X12_wrong _ _ a e) (fun m42 h => ?_)
        refine x_goto (pc := 47) dX12_year_47 (tgt := 147) (by decide) ?_
        refine x_sub [(0, _), (1, _)] ⟨rfl, rfl, trivial⟩ ?_
        exact j147 _ _ h
noncomputable def f_X12_years_J35 (m1 : mi_M) : Option (Int32 × mi_M) := some ((-1 : Int32), m1)
noncomputable def f_X12_years_J157 (m8 : mi_M) (u10 : Int32) : Option (Int32 × mi_M) := some (u10, m8)
noncomputable def f_X12_years_B100 (m8 : mi_M) : (Int32 × Int32) → Option ((Int32 × Int32) ⊕ (Int32)) := fun s => match s with | (l14, l15) => mi_bo (f_X12_people m8) fun v16 => if v16 ≤ l15 then some (.inr l14) else mi_g (vp_in ((1388 : Int32) + l15) 1449) (mi_let (l14 + (m8.1 64 0 ((1388 : Int32) + l15).toNatClampNeg)) fun v18 => some (.inl (v18, (l15 + (1 : Int32)))))
noncomputable def f_X12_years_K100 (p2 : Int32) (e7 : Int32) (m8 : mi_M) : Int32 → Option (Int32 × mi_M) := fun e9 => if p2 = 0 then f_X12_years_J157 m8 e7 else if p2 = (1 : Int32) then mi_bo (f_X12_overMany (1386 : Int32) m8) fun v11 => f_X12_years_J157 m8 v11 else f_X12_years_J157 m8 e9
noncomputable def f_X12_years_J76 (l20 : Int32) (l21 : Int32) (m24 : mi_M) : Option ((Int32 × Int32 × mi_M) ⊕ (Int32 × mi_M)) := mi_b (f_X12_passes (1386 : Int32) m24) fun v25 m26 => mi_let (l20 + v25) fun v27 => some (.inl (v27, (l21 + (1 : Int32)), m26))
noncomputable def f_X12_years_B59 (p1 : Int32) : (Int32 × Int32 × mi_M) → Option ((Int32 × Int32 × mi_M) ⊕ (Int32 × mi_M)) := fun s => match s with | (l20, l21, m22) => if p1 ≤ l21 then some (.inr (l20, m22)) else mi_bo (f_X12_wrongs m22) fun v23 => if v23 ≤ 0 then f_X12_years_J76 l20 l21 m22 else mi_bo (f_X12_drawsDeed m22) fun m28 => f_X12_years_J76 l20 l21 m28
noncomputable def f_X12_years_K59 (p2 : Int32) : (Int32 × mi_M) → Option (Int32 × mi_M) := fun e => match e with | (e7, m8) => mi_bo (mi_lp (f_X12_years_B100 m8) mi_fu ((0 : Int32), (0 : Int32))) (f_X12_years_K100 p2 e7 m8)
noncomputable def f_X12_years (p0 : Int32) (p1 : Int32) (p2 : Int32) (mem : mi_M) : Option (Int32 × mi_M) := mi_let (mi_wI mem 12 0 0 (0 : Int32)) fun m1 => mi_bo (f_X12_within p0 (0 : Int32) (9999 : Int32) m1) fun v2 => if v2 = 0 then f_X12_years_J35 m1 else mi_bo (f_X12_within p1 (1 : Int32) (100 : Int32) m1) fun v3 => if v3 = 0 then f_X12_years_J35 m1 else mi_bo (f_X12_within p2 (0 : Int32) (2 : Int32) m1) fun v4 => if v4 = 0 then f_X12_years_J35 m1 else mi_bo (f_X12_copies (0 : Int32) (1386 : Int32) (38 : Int32) m1) fun m5 => mi_let (mi_wL m5 12 0 39 ((p0).toInt64)) fun m6 => mi_bo (mi_lp (f_X12_years_B59 p1) mi_fu ((0 : Int32), (0 : Int32), m6)) (f_X12_years_K59 p2)
set_option maxRecDepth 100000 in
set_option maxHeartbeats 4000000 in
theorem w_X12_years (p0 : Int32) (p1 : Int32) (p2 : Int32) (mem : mi_M) (a : Int32 × mi_M) (e : f_X12_years p0 p1 p2 mem = some a) : mi_Ci (7) mX12_years [vr 12 0, vi p0, vi p1, vi p2] mem (fun x m' => x = a.1 ∧ m' = a.2) := by
  unfold mi_Ci
  refine mi_C_intro (ls := [(0, vr 12 0), (1, vi p0), (2, vi p1), (3, vi p2)]) (by decide) rfl rfl ?_
  obtain ⟨Q0, hq0, h⟩ : ∃ Q0 : (Int32 × mi_M) → Prop, (∀ b, Q0 b → b = a) ∧ wo (f_X12_years p0 p1 p2 mem) Q0 := ⟨fun b => b = a, fun _ h => h, wo_eq e⟩
  obtain ⟨QX, hQX⟩ : ∃ QX : Option mi_V → mi_M → Prop, QX = (fun r m' => ∃ x, r = some (vi x) ∧ x = a.1 ∧ m' = a.2) := ⟨_, rfl⟩
  rw [← hQX]
  unfold f_X12_years at h
  refine x_aload_n (pc := 0) dX12_years_0 rfl ?_
  refine x_iconst (pc := 1) dX12_years_1 (v := (0 : Int32)) (by decide) ?_
  refine x_putI (pc := 2) dX12_years_2 fX12_1 rfl (by decide) rfl rfl ?_
  refine x_letm h (fun m1 h => ?_)
  refine x_iload_n (pc := 5) dX12_years_5 rfl ?_
  refine x_iconst (pc := 6) dX12_years_6 (v := (0 : Int32)) (by decide) ?_
  refine x_sipush (pc := 7) dX12_years_7 (v := (9999 : Int32)) (by decide) ?_
  refine z_Si3 (pc := 10) h dX12_years_10 lX12_362 (by omega) rfl (fun a e => w_X12_within _ _ _ _ a e) (fun v2 h => ?_)
  have j35 : wo (f_X12_years_J35 m1) Q0 → mi_X mX12_years (7) 35 [] [] m1 QX := by
    intro h
    unfold f_X12_years_J35 at h
    refine x_iconst (pc := 35) dX12_years_35 (v := (-1 : Int32)) (by decide) ?_
    exact x_iret (pc := 36) dX12_years_36 rfl (by rw [hQX]; exact ⟨_, rfl, congrArg Prod.fst (hq0 _ (wo_some h)), congrArg Prod.snd (hq0 _ (wo_some h))⟩)
  refine x_if_eq (pc := 13) dX12_years_13 (tgt := 35) (by decide) (fun c33 => ?_) (fun c33 => ?_)
  · replace h := wo_pos c33 h
    refine x_sub [] trivial ?_
    exact j35 h
  · replace h := wo_neg c33 h
    refine x_iload_n (pc := 16) dX12_years_16 rfl ?_
    refine x_iconst (pc := 17) dX12_years_17 (v := (1 : Int32)) (by decide) ?_
    refine x_bipush (pc := 18) dX12_years_18 (v := (100 : Int32)) (by decide) ?_
    refine z_Si3 (pc := 20) h dX12_years_20 lX12_362 (by omega) rfl (fun a e => w_X12_within _ _ _ _ a e) (fun v3 h => ?_)
    refine x_if_eq (pc := 23) dX12_years_23 (tgt := 35) (by decide) (fun c32 => ?_) (fun c32 => ?_)
    · replace h := wo_pos c32 h
      refine x_sub [] trivial ?_
      exact j35 h
    · replace h := wo_neg c32 h
      refine x_iload_n (pc := 26) dX12_years_26 rfl ?_
      refine x_iconst (pc := 27) dX12_years_27 (v := (0 : Int32)) (by decide) ?_
      refine x_iconst (pc := 28) dX12_years_28 (v := (2 : Int32)) (by decide) ?_
      refine z_Si3 (pc := 29) h dX12_years_29 lX12_362 (by omega) rfl (fun a e => w_X12_within _ _ _ _ a e) (fun v4 h => ?_)
      refine x_if_ne (pc := 32) dX12_years_32 (tgt := 37) (by decide) (fun c31 => ?_) (fun c31 => ?_)
      · replace h := wo_neg c31 h
        refine x_aload_n (pc := 37) dX12_years_37 rfl ?_
        refine x_iconst (pc := 38) dX12_years_38 (v := (0 : Int32)) (by decide) ?_
        refine x_sipush (pc := 39) dX12_years_39 (v := (1386 : Int32)) (by decide) ?_
        refine x_bipush (pc := 42) dX12_years_42 (v := (38 : Int32)) (by decide) ?_
        refine y_Vv3 (pc := 44) h dX12_years_44 lX12_309 (by decide) (by omega) rfl (fun a e => w_X12_copies _ _ _ _ a e) (fun m5 h => ?_)
        refine x_aload_n (pc := 47) dX12_years_47 rfl ?_
        refine x_iload_n (pc := 48) dX12_years_48 rfl ?_
        refine x_i2l (pc := 49) dX12_years_49 rfl ?_
        refine x_putL (pc := 50) dX12_years_50 fX12_447 rfl (by decide) rfl rfl ?_
        refine x_letm h (fun m6 h => ?_)
        refine x_iconst (pc := 53) dX12_years_53 (v := (0 : Int32)) (by decide) ?_
        refine x_istore (ls' := [(4, _), (0, _), (1, _), (2, _), (3, _)]) (pc := 54) dX12_years_54 rfl rfl ?_
        refine x_iconst (pc := 56) dX12_years_56 (v := (0 : Int32)) (by decide) ?_
        refine x_istore (ls' := [(5, _), (4, _), (0, _), (1, _), (2, _), (3, _)]) (pc := 57) dX12_years_57 rfl rfl ?_
        have k59_0 : ∀ (e7 : Int32) (m8 : mi_M), wo (f_X12_years_K59 p2 (e7, m8)) Q0 → mi_X mX12_years (7) 94 [(0, vr 12 0), (3, vi p2), (4, vi e7)] [] m8 QX := by
          intro e7 m8 h
          unfold f_X12_years_K59 at h
          try dsimp only at h
          refine x_iconst (pc := 94) dX12_years_94 (v := (0 : Int32)) (by decide) ?_
          refine x_istore (ls' := [(5, _), (0, _), (3, _), (4, _)]) (pc := 95) dX12_years_95 rfl rfl ?_
          refine x_iconst (pc := 97) dX12_years_97 (v := (0 : Int32)) (by decide) ?_
          refine x_istore (ls' := [(6, _), (5, _), (0, _), (3, _), (4, _)]) (pc := 98) dX12_years_98 rfl rfl ?_
          have k100_0 : ∀ (e9 : Int32), wo (f_X12_years_K100 p2 e7 m8 e9) Q0 → mi_X mX12_years (7) 131 [(0, vr 12 0), (3, vi p2), (4, vi e7), (5, vi e9)] [] m8 QX := by
            intro e9 h
            unfold f_X12_years_K100 at h
            try dsimp only at h
            refine x_iload_n (pc := 131) dX12_years_131 rfl ?_
            have j157 : ∀ (u10 : Int32), wo (f_X12_years_J157 m8 u10) Q0 → mi_X mX12_years (7) 157 [] [vi u10] m8 QX := by
              intro u10 h
              unfold f_X12_years_J157 at h
              exact x_iret (pc := 157) dX12_years_157 rfl (by rw [hQX]; exact ⟨_, rfl, congrArg Prod.fst (hq0 _ (wo_some h)), congrArg Prod.snd (hq0 _ (wo_some h))⟩)
            refine x_if_ne (pc := 132) dX12_years_132 (tgt := 140) (by decide) (fun c13 => ?_) (fun c13 => ?_)
            · replace h := wo_neg c13 h
              refine x_iload_n (pc := 140) dX12_years_140 rfl ?_
              refine x_iconst (pc := 141) dX12_years_141 (v := (1 : Int32)) (by decide) ?_
              refine x_icmp_ne (pc := 142) dX12_years_142 (tgt := 155) (by decide) (fun c12 => ?_) (fun c12 => ?_)
              · replace h := wo_neg c12 h
                refine x_iload (pc := 155) dX12_years_155 rfl ?_
                refine x_sub [] trivial ?_
                exact j157 _ h
              · replace h := wo_pos c12 h
                refine x_aload_n (pc := 145) dX12_years_145 rfl ?_
                refine x_sipush (pc := 146) dX12_years_146 (v := (1386 : Int32)) (by decide) ?_
                refine z_Vi1 (pc := 149) h dX12_years_149 lX12_392 (by decide) (by omega) rfl (fun a e => w_X12_overMany _ _ a e) (fun v11 h => ?_)
                refine x_goto (pc := 152) dX12_years_152 (tgt := 157) (by decide) ?_
                refine x_sub [] trivial ?_
                exact j157 _ h
            · replace h := wo_pos c13 h
              refine x_iload (pc := 135) dX12_years_135 rfl ?_
              refine x_goto (pc := 137) dX12_years_137 (tgt := 157) (by decide) ?_
              refine x_sub [] trivial ?_
              exact j157 _ h
          refine x_sub [(0, _), (3, _), (4, _), (5, _), (6, _)] ⟨rfl, rfl, rfl, rfl, rfl, trivial⟩ ?_
          obtain ⟨ea, eb, h⟩ := wo_bo h
          refine wo_lq (X := fun s => match s with | (l14, l15) => mi_X mX12_years (7) 100 [(0, vr 12 0), (3, vi p2), (4, vi e7), (5, vi l14), (6, vi l15)] [] m8 QX) (E := fun e => wo (f_X12_years_K100 p2 e7 m8 e) Q0) ?_ _ ((0 : Int32), (0 : Int32)) ⟨_, eb, h⟩
          intro Q100 hb100 he100 s h
          obtain ⟨l14, l15⟩ := s
          show mi_X mX12_years (7) 100 [(0, vr 12 0), (3, vi p2), (4, vi e7), (5, vi l14), (6, vi l15)] [] m8 QX
          unfold f_X12_years_B100 at h
          try dsimp only at h
          refine x_iload (pc := 100) dX12_years_100 rfl ?_
          refine x_aload_n (pc := 102) dX12_years_102 rfl ?_
          refine z_Vi0 (pc := 103) h dX12_years_103 lX12_294 (by decide) (by omega) rfl (fun a e => w_X12_people _ a e) (fun v16 h => ?_)
          refine x_icmp_ge (pc := 106) dX12_years_106 (tgt := 131) (by decide) (fun c19 => ?_) (fun c19 => ?_)
          · replace h := wo_pos c19 h
            refine x_sub [(0, _), (3, _), (4, _), (5, _)] ⟨rfl, rfl, rfl, rfl, trivial⟩ ?_
            exact k100_0 _ (he100 l14 (wo_some h))
          · replace h := wo_neg c19 h
            refine x_iload (pc := 109) dX12_years_109 rfl ?_
            refine x_aload_n (pc := 111) dX12_years_111 rfl ?_
            refine x_getS (pc := 112) dX12_years_112 fX12_113 rfl (by decide) ?_
            refine x_sipush (pc := 115) dX12_years_115 (v := (1388 : Int32)) (by decide) ?_
            refine x_iload (pc := 118) dX12_years_118 rfl ?_
            refine x_iadd (pc := 120) dX12_years_120 ?_
            obtain ⟨hx17, h⟩ := wo_g h
            refine x_ialdJ (pc := 121) dX12_years_121 rfl rfl (by decide) hx17 ?_
            refine x_iadd (pc := 122) dX12_years_122 ?_
            refine x_leti h (fun v18 h => ?_)
            refine x_istore (ls' := [(5, _), (0, _), (3, _), (4, _), (6, _)]) (pc := 123) dX12_years_123 rfl rfl ?_
            refine x_iinc (ls' := [(6, _), (5, _), (0, _), (3, _), (4, _)]) (pc := 125) dX12_years_125 rfl (v := l15 + (1 : Int32)) rfl rfl rfl ?_
            refine x_goto (pc := 128) dX12_years_128 (tgt := 100) (by decide) ?_
            refine x_sub [(0, _), (3, _), (4, _), (5, _), (6, _)] ⟨rfl, rfl, rfl, rfl, rfl, trivial⟩ ?_
            exact hb100 (v18, (l15 + (1 : Int32))) (wo_some h)
        refine x_sub [(0, _), (2, _), (3, _), (4, _), (5, _)] ⟨rfl, rfl, rfl, rfl, rfl, trivial⟩ ?_
        obtain ⟨ea, eb, h⟩ := wo_bo h
        refine wo_lq (X := fun s => match s with | (l20, l21, m22) => mi_X mX12_years (7) 59 [(0, vr 12 0), (2, vi p1), (3, vi p2), (4, vi l20), (5, vi l21)] [] m22 QX) (E := fun e => wo (f_X12_years_K59 p2 e) Q0) ?_ _ ((0 : Int32), (0 : Int32), m6) ⟨_, eb, h⟩
        intro Q59 hb59 he59 s h
        obtain ⟨l20, l21, m22⟩ := s
        show mi_X mX12_years (7) 59 [(0, vr 12 0), (2, vi p1), (3, vi p2), (4, vi l20), (5, vi l21)] [] m22 QX
        unfold f_X12_years_B59 at h
        try dsimp only at h
        refine x_iload (pc := 59) dX12_years_59 rfl ?_
        refine x_iload_n (pc := 61) dX12_years_61 rfl ?_
        refine x_icmp_ge (pc := 62) dX12_years_62 (tgt := 94) (by decide) (fun c30 => ?_) (fun c30 => ?_)
        · replace h := wo_pos c30 h
          refine x_sub [(0, _), (3, _), (4, _)] ⟨rfl, rfl, rfl, trivial⟩ ?_
          exact k59_0 _ _ (he59 (l20, m22) (wo_some h))
        · replace h := wo_neg c30 h
          refine x_aload_n (pc := 65) dX12_years_65 rfl ?_
          refine z_Vi0 (pc := 66) h dX12_years_66 lX12_273 (by decide) (by omega) rfl (fun a e => w_X12_wrongs _ a e) (fun v23 h => ?_)
          have j76 : ∀ (m24 : mi_M), wo (f_X12_years_J76 l20 l21 m24) Q59 → mi_X mX12_years (7) 76 [(0, vr 12 0), (2, vi p1), (3, vi p2), (4, vi l20), (5, vi l21)] [] m24 QX := by
            intro m24 h
            unfold f_X12_years_J76 at h
            refine x_iload (pc := 76) dX12_years_76 rfl ?_
            refine x_aload_n (pc := 78) dX12_years_78 rfl ?_
            refine x_sipush (pc := 79) dX12_years_79 (v := (1386 : Int32)) (by decide) ?_
            refine y_Vi1 (pc := 82) h dX12_years_82 lX12_386 (by decide) (by omega) rfl (fun a e => w_X12_passes _ _ a e) (fun v25 m26 h => ?_)
            refine x_iadd (pc := 85) dX12_years_85 ?_
            refine x_leti h (fun v27 h => ?_)
            refine x_istore (ls' := [(4, _), (0, _), (2, _), (3, _), (5, _)]) (pc := 86) dX12_years_86 rfl rfl ?_
            refine x_iinc (ls' := [(5, _), (4, _), (0, _), (2, _), (3, _)]) (pc := 88) dX12_years_88 rfl (v := l21 + (1 : Int32)) rfl rfl rfl ?_
            refine x_goto (pc := 91) dX12_years_91 (tgt := 59) (by decide) ?_
            refine x_sub [(0, _), (2, _), (3, _), (4, _), (5, _)] ⟨rfl, rfl, rfl, rfl, rfl, trivial⟩ ?_
            exact hb59 (v27, (l21 + (1 : Int32)), m26) (wo_some h)
          refine x_if_le (pc := 69) dX12_years_69 (tgt := 76) (by decide) (fun c29 => ?_) (fun c29 => ?_)
          · replace h := wo_pos c29 h
            refine x_sub [(0, _), (2, _), (3, _), (4, _), (5, _)] ⟨rfl, rfl, rfl, rfl, rfl, trivial⟩ ?_
            exact j76 _ h
          · replace h := wo_neg c29 h
            refine x_aload_n (pc := 72) dX12_years_72 rfl ?_
            refine y_Vv0 (pc := 73) h dX12_years_73 lX12_462 (by decide) (by omega) rfl (fun a e => w_X12_drawsDeed _ a e) (fun m28 h => ?_)
            refine x_sub [(0, _), (2, _), (3, _), (4, _), (5, _)] ⟨rfl, rfl, rfl, rfl, rfl, trivial⟩ ?_
            exact j76 _ h
      · replace h := wo_pos c31 h
        refine x_sub [] trivial ?_
        exact j35 h
