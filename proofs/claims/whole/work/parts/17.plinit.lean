set_option maxRecDepth 100000 in
theorem zl_11_1 : Cond.methodLink RX11 1 objectInit ∈ mi_T := mi_in 142 (by decide +kernel) rfl
set_option maxRecDepth 100000 in
theorem zc_11_16 : Cond.classLink RX11 16 (mi_Cn 5) ∈ mi_T := mi_in 194 (by decide +kernel) rfl
set_option maxRecDepth 100000 in
theorem zl_11_18 : mi_lin RX11 18 "PardonLamps" mX5_init := ⟨by decide +kernel, ⟨mi_in 197 (by decide +kernel) rfl, mi_in 115 (by decide +kernel) rfl, mi_in 198 (by decide +kernel) rfl⟩, ⟨by decide +kernel, by decide +kernel, by decide +kernel⟩, by decide, rfl, rfl⟩
set_option maxRecDepth 100000 in
theorem zc_11_23 : Cond.classLink RX11 23 (mi_Cn 3) ∈ mi_T := mi_in 238 (by decide +kernel) rfl
set_option maxRecDepth 100000 in
theorem zi_3 : Cond.instantiable (mi_Cn 3) (mi_Cs 3) ∈ mi_T := mi_in 239 (by decide +kernel) rfl
set_option maxRecDepth 100000 in
theorem zn_3 : Cond.initialized (mi_Cn 3) ∈ mi_T := mi_in 116 (by decide +kernel) rfl
set_option maxRecDepth 100000 in
theorem zl_11_25 : mi_li RX11 25 mX3_init := ⟨mi_in 240 (by decide +kernel) rfl, ⟨mi_in 241 (by decide +kernel) rfl, mi_in 116 (by decide +kernel) rfl, mi_in 242 (by decide +kernel) rfl⟩, ⟨by decide +kernel, by decide +kernel, by decide +kernel⟩, by decide, rfl, rfl⟩
set_option maxRecDepth 100000 in
theorem zc_11_30 : Cond.classLink RX11 30 (mi_Cn 4) ∈ mi_T := mi_in 289 (by decide +kernel) rfl
set_option maxRecDepth 100000 in
theorem zl_11_32 : mi_lin RX11 32 "PardonLamps" mX4_init := ⟨by decide +kernel, ⟨mi_in 251 (by decide +kernel) rfl, mi_in 117 (by decide +kernel) rfl, mi_in 252 (by decide +kernel) rfl⟩, ⟨by decide +kernel, by decide +kernel, by decide +kernel⟩, by decide, rfl, rfl⟩
set_option maxRecDepth 100000 in
theorem zc_11_37 : Cond.classLink RX11 37 (mi_Cn 0) ∈ mi_T := mi_in 291 (by decide +kernel) rfl
set_option maxRecDepth 100000 in
theorem zi_0 : Cond.instantiable (mi_Cn 0) (mi_Cs 0) ∈ mi_T := mi_in 292 (by decide +kernel) rfl
set_option maxRecDepth 100000 in
theorem zn_0 : Cond.initialized (mi_Cn 0) ∈ mi_T := mi_in 118 (by decide +kernel) rfl
set_option maxRecDepth 100000 in
theorem zl_11_39 : mi_li RX11 39 mX0_init := ⟨mi_in 293 (by decide +kernel) rfl, ⟨mi_in 294 (by decide +kernel) rfl, mi_in 118 (by decide +kernel) rfl, mi_in 295 (by decide +kernel) rfl⟩, ⟨by decide +kernel, by decide +kernel, by decide +kernel⟩, by decide, rfl, rfl⟩
set_option maxRecDepth 100000 in
theorem zc_11_44 : Cond.classLink RX11 44 (mi_Cn 2) ∈ mi_T := mi_in 315 (by decide +kernel) rfl
set_option maxRecDepth 100000 in
theorem zi_2 : Cond.instantiable (mi_Cn 2) (mi_Cs 2) ∈ mi_T := mi_in 316 (by decide +kernel) rfl
set_option maxRecDepth 100000 in
theorem zn_2 : Cond.initialized (mi_Cn 2) ∈ mi_T := mi_in 119 (by decide +kernel) rfl
set_option maxRecDepth 100000 in
theorem zl_11_46 : mi_lin RX11 46 "PardonLamps" mX2_init := ⟨by decide +kernel, ⟨mi_in 318 (by decide +kernel) rfl, mi_in 119 (by decide +kernel) rfl, mi_in 319 (by decide +kernel) rfl⟩, ⟨by decide +kernel, by decide +kernel, by decide +kernel⟩, by decide, rfl, rfl⟩
set_option maxRecDepth 100000 in
theorem zc_11_51 : Cond.classLink RX11 51 (mi_Cn 8) ∈ mi_T := mi_in 346 (by decide +kernel) rfl
set_option maxRecDepth 100000 in
theorem zi_8 : Cond.instantiable (mi_Cn 8) (mi_Cs 8) ∈ mi_T := mi_in 347 (by decide +kernel) rfl
set_option maxRecDepth 100000 in
theorem zn_8 : Cond.initialized (mi_Cn 8) ∈ mi_T := mi_in 120 (by decide +kernel) rfl
set_option maxRecDepth 100000 in
theorem zl_11_53 : mi_lin RX11 53 "PardonLamps" mX8_init := ⟨by decide +kernel, ⟨mi_in 349 (by decide +kernel) rfl, mi_in 120 (by decide +kernel) rfl, mi_in 350 (by decide +kernel) rfl⟩, ⟨by decide +kernel, by decide +kernel, by decide +kernel⟩, by decide, rfl, rfl⟩
set_option maxRecDepth 100000 in
theorem zc_11_61 : Cond.classLink RX11 61 (mi_Cn 10) ∈ mi_T := mi_in 476 (by decide +kernel) rfl
set_option maxRecDepth 100000 in
theorem zi_10 : Cond.instantiable (mi_Cn 10) (mi_Cs 10) ∈ mi_T := mi_in 477 (by decide +kernel) rfl
set_option maxRecDepth 100000 in
theorem zn_10 : Cond.initialized (mi_Cn 10) ∈ mi_T := mi_in 123 (by decide +kernel) rfl
set_option maxRecDepth 100000 in
theorem zl_11_63 : mi_lin RX11 63 "PardonLamps" mX10_init := ⟨by decide +kernel, ⟨mi_in 479 (by decide +kernel) rfl, mi_in 123 (by decide +kernel) rfl, mi_in 480 (by decide +kernel) rfl⟩, ⟨by decide +kernel, by decide +kernel, by decide +kernel⟩, by decide, rfl, rfl⟩
set_option maxRecDepth 100000 in
theorem zc_11_7 : Cond.classLink RX11 7 (mi_Cn 7) ∈ mi_T := mi_in 145 (by decide +kernel) rfl
set_option maxRecDepth 100000 in
theorem zi_7 : Cond.instantiable (mi_Cn 7) (mi_Cs 7) ∈ mi_T := mi_in 146 (by decide +kernel) rfl
set_option maxRecDepth 100000 in
theorem zn_7 : Cond.initialized (mi_Cn 7) ∈ mi_T := mi_in 113 (by decide +kernel) rfl
set_option maxRecDepth 100000 in
theorem zl_11_9 : mi_lin RX11 9 "PardonLamps" mX7_init := ⟨by decide +kernel, ⟨mi_in 148 (by decide +kernel) rfl, mi_in 113 (by decide +kernel) rfl, mi_in 149 (by decide +kernel) rfl⟩, ⟨by decide +kernel, by decide +kernel, by decide +kernel⟩, by decide, rfl, rfl⟩
abbrev mX11_init : mi_MD := (yX11_init, cX11_init, 1, none)
def wd_11 (G : mi_G) (h sz : Nat) : va_W := (h, .inr (11, [.ref (sz), .ref (sz + 3), .ref (sz + 7), .ref (sz + 107), .ref (sz + 111), .ref (sz + 135), .ref (sz + 144), .ref (sz + 167), .ref (sz + 190), .ref (sz + 194)])) :: (wd_7 G (sz) (sz + 1) ++ (wd_5 G (sz + 3) (sz + 4) ++ (wd_3 G (sz + 7) (sz + 8) ++ (wd_4 G (sz + 107) (sz + 108) ++ (wd_0 G (sz + 111) (sz + 112) ++ (wd_2 G (sz + 135) (sz + 136) ++ (wd_8 G (sz + 144) (sz + 145) ++ (wd_8 G (sz + 167) (sz + 168) ++ (wd_10 G (sz + 190) (sz + 191) ++ (wd_10 G (sz + 194) (sz + 195) ++ []))))))))))
set_option maxRecDepth 100000 in
set_option maxHeartbeats 4000000 in
theorem ci_11 (G : mi_G) (h sz : Nat) : mi_CI G 3 mX11_init h [(h, .inr (11, [.null, .null, .null, .null, .null, .null, .null, .null, .null, .null]))] sz (wd_11 G h sz) 198 9513 := by
  refine mi_CI_intro (by decide) rfl rfl (by decide) ?_
  refine z_aload (pc := 0) dX11_init_0 0 rfl ?_
  refine z_objInit (pc := 1) dX11_init_1 zl_11_1 zo_in zo_co (by decide) (Nat.le_of_ble_eq_true rfl) ?_
  refine z_aload (pc := 4) dX11_init_4 0 rfl ?_
  refine z_new (ci := 7) (fs := [.null, .int 0]) (pc := 5) dX11_init_5 (by decide) zc_11_7 zi_7 zn_7 bl_7 (by decide) (by decide) ?_
  refine z_dup (pc := 8) dX11_init_8 rfl ?_
  refine z_initN (pc := 9) dX11_init_9 zl_11_9 (by decide) (Nat.le_of_ble_eq_true rfl) (by decide) (by decide) (ci_7 G (sz) (sz + 1)) ?_
  show mi_Z G mX11_init 3 198 9513 sz (fun ws => ws = wd_11 G h sz) 12 [(0, .ref h)] [.ref (sz), .ref (h)] ((h, .inr (11, [.null, .null, .null, .null, .null, .null, .null, .null, .null, .null])) :: (wd_7 G (sz) (sz + 1) ++ [])) (sz + 3) 3 1009
  refine z_putF (pc := 12) dX11_init_12 fX11_10 rfl rfl rfl rfl (Nat.le_of_ble_eq_true rfl) (by omega) 2 rfl (by omega) ?_
  show mi_Z G mX11_init 3 198 9513 sz (fun ws => ws = wd_11 G h sz) 15 [(0, .ref h)] [] ((h, .inr (11, [.ref (sz), .null, .null, .null, .null, .null, .null, .null, .null, .null])) :: (wd_7 G (sz) (sz + 1) ++ [])) (sz + 3) 3 1009
  refine z_aload (pc := 15) dX11_init_15 0 rfl ?_
  refine z_new (ci := 5) (fs := [.int 0, .int 0, .int 0, .int 0, .null, .null, .null]) (pc := 16) dX11_init_16 (by decide) zc_11_16 zi_5 zn_5 bl_5 (by decide) (by decide) ?_
  refine z_dup (pc := 19) dX11_init_19 rfl ?_
  refine z_initN (pc := 20) dX11_init_20 zl_11_18 (by decide) (Nat.le_of_ble_eq_true rfl) (by decide) (by decide) (ci_5 G (sz + 3) (sz + 4)) ?_
  show mi_Z G mX11_init 3 198 9513 sz (fun ws => ws = wd_11 G h sz) 23 [(0, .ref h)] [.ref (sz + 3), .ref (h)] ((h, .inr (11, [.ref (sz), .null, .null, .null, .null, .null, .null, .null, .null, .null])) :: (wd_7 G (sz) (sz + 1) ++ (wd_5 G (sz + 3) (sz + 4) ++ []))) (sz + 7) 7 1036
  refine z_putF (pc := 23) dX11_init_23 fX11_19 rfl rfl rfl rfl (Nat.le_of_ble_eq_true rfl) (by omega) 6 rfl (by omega) ?_
  show mi_Z G mX11_init 3 198 9513 sz (fun ws => ws = wd_11 G h sz) 26 [(0, .ref h)] [] ((h, .inr (11, [.ref (sz), .ref (sz + 3), .null, .null, .null, .null, .null, .null, .null, .null])) :: (wd_7 G (sz) (sz + 1) ++ (wd_5 G (sz + 3) (sz + 4) ++ []))) (sz + 7) 7 1036
  refine z_aload (pc := 26) dX11_init_26 0 rfl ?_
  refine z_new (ci := 3) (fs := [.int 0, .int 0, .int 0, .null, .null, .null]) (pc := 27) dX11_init_27 (by decide) zc_11_23 zi_3 zn_3 bl_3 (by decide) (by decide) ?_
  refine z_dup (pc := 30) dX11_init_30 rfl ?_
  refine z_init (pc := 31) dX11_init_31 zl_11_25 (by decide) (Nat.le_of_ble_eq_true rfl) (by decide) (by decide) (ci_3 G (sz + 7) (sz + 8)) ?_
  show mi_Z G mX11_init 3 198 9513 sz (fun ws => ws = wd_11 G h sz) 34 [(0, .ref h)] [.ref (sz + 7), .ref (h)] ((h, .inr (11, [.ref (sz), .ref (sz + 3), .null, .null, .null, .null, .null, .null, .null, .null])) :: (wd_7 G (sz) (sz + 1) ++ (wd_5 G (sz + 3) (sz + 4) ++ (wd_3 G (sz + 7) (sz + 8) ++ [])))) (sz + 107) 107 1718
  refine z_putF (pc := 34) dX11_init_34 fX11_26 rfl rfl rfl rfl (Nat.le_of_ble_eq_true rfl) (by omega) 106 rfl (by omega) ?_
  show mi_Z G mX11_init 3 198 9513 sz (fun ws => ws = wd_11 G h sz) 37 [(0, .ref h)] [] ((h, .inr (11, [.ref (sz), .ref (sz + 3), .ref (sz + 7), .null, .null, .null, .null, .null, .null, .null])) :: (wd_7 G (sz) (sz + 1) ++ (wd_5 G (sz + 3) (sz + 4) ++ (wd_3 G (sz + 7) (sz + 8) ++ [])))) (sz + 107) 107 1718
  refine z_aload (pc := 37) dX11_init_37 0 rfl ?_
  refine z_new (ci := 4) (fs := [.int 0, .null, .null, .null]) (pc := 38) dX11_init_38 (by decide) zc_11_30 zi_4 zn_4 bl_4 (by decide) (by decide) ?_
  refine z_dup (pc := 41) dX11_init_41 rfl ?_
  refine z_initN (pc := 42) dX11_init_42 zl_11_32 (by decide) (Nat.le_of_ble_eq_true rfl) (by decide) (by decide) (ci_4 G (sz + 107) (sz + 108)) ?_
  show mi_Z G mX11_init 3 198 9513 sz (fun ws => ws = wd_11 G h sz) 45 [(0, .ref h)] [.ref (sz + 107), .ref (h)] ((h, .inr (11, [.ref (sz), .ref (sz + 3), .ref (sz + 7), .null, .null, .null, .null, .null, .null, .null])) :: (wd_7 G (sz) (sz + 1) ++ (wd_5 G (sz + 3) (sz + 4) ++ (wd_3 G (sz + 7) (sz + 8) ++ (wd_4 G (sz + 107) (sz + 108) ++ []))))) (sz + 111) 111 1746
  refine z_putF (pc := 45) dX11_init_45 fX11_33 rfl rfl rfl rfl (Nat.le_of_ble_eq_true rfl) (by omega) 110 rfl (by omega) ?_
  show mi_Z G mX11_init 3 198 9513 sz (fun ws => ws = wd_11 G h sz) 48 [(0, .ref h)] [] ((h, .inr (11, [.ref (sz), .ref (sz + 3), .ref (sz + 7), .ref (sz + 107), .null, .null, .null, .null, .null, .null])) :: (wd_7 G (sz) (sz + 1) ++ (wd_5 G (sz + 3) (sz + 4) ++ (wd_3 G (sz + 7) (sz + 8) ++ (wd_4 G (sz + 107) (sz + 108) ++ []))))) (sz + 111) 111 1746
  refine z_aload (pc := 48) dX11_init_48 0 rfl ?_
  refine z_new (ci := 0) (fs := [.null, .null, .null, .null, .int 0]) (pc := 49) dX11_init_49 (by decide) zc_11_37 zi_0 zn_0 bl_0 (by decide) (by decide) ?_
  refine z_dup (pc := 52) dX11_init_52 rfl ?_
  refine z_init (pc := 53) dX11_init_53 zl_11_39 (by decide) (Nat.le_of_ble_eq_true rfl) (by decide) (by decide) (ci_0 G (sz + 111) (sz + 112)) ?_
  show mi_Z G mX11_init 3 198 9513 sz (fun ws => ws = wd_11 G h sz) 56 [(0, .ref h)] [.ref (sz + 111), .ref (h)] ((h, .inr (11, [.ref (sz), .ref (sz + 3), .ref (sz + 7), .ref (sz + 107), .null, .null, .null, .null, .null, .null])) :: (wd_7 G (sz) (sz + 1) ++ (wd_5 G (sz + 3) (sz + 4) ++ (wd_3 G (sz + 7) (sz + 8) ++ (wd_4 G (sz + 107) (sz + 108) ++ (wd_0 G (sz + 111) (sz + 112) ++ [])))))) (sz + 135) 135 1896
  refine z_putF (pc := 56) dX11_init_56 fX11_40 rfl rfl rfl rfl (Nat.le_of_ble_eq_true rfl) (by omega) 134 rfl (by omega) ?_
  show mi_Z G mX11_init 3 198 9513 sz (fun ws => ws = wd_11 G h sz) 59 [(0, .ref h)] [] ((h, .inr (11, [.ref (sz), .ref (sz + 3), .ref (sz + 7), .ref (sz + 107), .ref (sz + 111), .null, .null, .null, .null, .null])) :: (wd_7 G (sz) (sz + 1) ++ (wd_5 G (sz + 3) (sz + 4) ++ (wd_3 G (sz + 7) (sz + 8) ++ (wd_4 G (sz + 107) (sz + 108) ++ (wd_0 G (sz + 111) (sz + 112) ++ [])))))) (sz + 135) 135 1896
  refine z_aload (pc := 59) dX11_init_59 0 rfl ?_
  refine z_new (ci := 2) (fs := [.null, .null, .null, .null, .null, .null, .null, .null]) (pc := 60) dX11_init_60 (by decide) zc_11_44 zi_2 zn_2 bl_2 (by decide) (by decide) ?_
  refine z_dup (pc := 63) dX11_init_63 rfl ?_
  refine z_initN (pc := 64) dX11_init_64 zl_11_46 (by decide) (Nat.le_of_ble_eq_true rfl) (by decide) (by decide) (ci_2 G (sz + 135) (sz + 136)) ?_
  show mi_Z G mX11_init 3 198 9513 sz (fun ws => ws = wd_11 G h sz) 67 [(0, .ref h)] [.ref (sz + 135), .ref (h)] ((h, .inr (11, [.ref (sz), .ref (sz + 3), .ref (sz + 7), .ref (sz + 107), .ref (sz + 111), .null, .null, .null, .null, .null])) :: (wd_7 G (sz) (sz + 1) ++ (wd_5 G (sz + 3) (sz + 4) ++ (wd_3 G (sz + 7) (sz + 8) ++ (wd_4 G (sz + 107) (sz + 108) ++ (wd_0 G (sz + 111) (sz + 112) ++ (wd_2 G (sz + 135) (sz + 136) ++ []))))))) (sz + 144) 144 2385
  refine z_putF (pc := 67) dX11_init_67 fX11_47 rfl rfl rfl rfl (Nat.le_of_ble_eq_true rfl) (by omega) 143 rfl (by omega) ?_
  show mi_Z G mX11_init 3 198 9513 sz (fun ws => ws = wd_11 G h sz) 70 [(0, .ref h)] [] ((h, .inr (11, [.ref (sz), .ref (sz + 3), .ref (sz + 7), .ref (sz + 107), .ref (sz + 111), .ref (sz + 135), .null, .null, .null, .null])) :: (wd_7 G (sz) (sz + 1) ++ (wd_5 G (sz + 3) (sz + 4) ++ (wd_3 G (sz + 7) (sz + 8) ++ (wd_4 G (sz + 107) (sz + 108) ++ (wd_0 G (sz + 111) (sz + 112) ++ (wd_2 G (sz + 135) (sz + 136) ++ []))))))) (sz + 144) 144 2385
  refine z_aload (pc := 70) dX11_init_70 0 rfl ?_
  refine z_new (ci := 8) (fs := [.int 0, .int 0, .int 0, .int 0, .int 0, .null, .null, .null, .null, .null, .null, .null, .null]) (pc := 71) dX11_init_71 (by decide) zc_11_51 zi_8 zn_8 bl_8 (by decide) (by decide) ?_
  refine z_dup (pc := 74) dX11_init_74 rfl ?_
  refine z_initN (pc := 75) dX11_init_75 zl_11_53 (by decide) (Nat.le_of_ble_eq_true rfl) (by decide) (by decide) (ci_8 G (sz + 144) (sz + 145)) ?_
  show mi_Z G mX11_init 3 198 9513 sz (fun ws => ws = wd_11 G h sz) 78 [(0, .ref h)] [.ref (sz + 144), .ref (h)] ((h, .inr (11, [.ref (sz), .ref (sz + 3), .ref (sz + 7), .ref (sz + 107), .ref (sz + 111), .ref (sz + 135), .null, .null, .null, .null])) :: (wd_7 G (sz) (sz + 1) ++ (wd_5 G (sz + 3) (sz + 4) ++ (wd_3 G (sz + 7) (sz + 8) ++ (wd_4 G (sz + 107) (sz + 108) ++ (wd_0 G (sz + 111) (sz + 112) ++ (wd_2 G (sz + 135) (sz + 136) ++ (wd_8 G (sz + 144) (sz + 145) ++ [])))))))) (sz + 167) 167 5855
  refine z_putN (pc := 78) dX11_init_78 fX11_54 rfl rfl rfl (Nat.le_of_ble_eq_true rfl) (by omega) 166 rfl (by omega) ?_
  show mi_Z G mX11_init 3 198 9513 sz (fun ws => ws = wd_11 G h sz) 81 [(0, .ref h)] [] ((h, .inr (11, [.ref (sz), .ref (sz + 3), .ref (sz + 7), .ref (sz + 107), .ref (sz + 111), .ref (sz + 135), .ref (sz + 144), .null, .null, .null])) :: (wd_7 G (sz) (sz + 1) ++ (wd_5 G (sz + 3) (sz + 4) ++ (wd_3 G (sz + 7) (sz + 8) ++ (wd_4 G (sz + 107) (sz + 108) ++ (wd_0 G (sz + 111) (sz + 112) ++ (wd_2 G (sz + 135) (sz + 136) ++ (wd_8 G (sz + 144) (sz + 145) ++ [])))))))) (sz + 167) 167 5855
  refine z_aload (pc := 81) dX11_init_81 0 rfl ?_
  refine z_new (ci := 8) (fs := [.int 0, .int 0, .int 0, .int 0, .int 0, .null, .null, .null, .null, .null, .null, .null, .null]) (pc := 82) dX11_init_82 (by decide) zc_11_51 zi_8 zn_8 bl_8 (by decide) (by decide) ?_
  refine z_dup (pc := 85) dX11_init_85 rfl ?_
  refine z_initN (pc := 86) dX11_init_86 zl_11_53 (by decide) (Nat.le_of_ble_eq_true rfl) (by decide) (by decide) (ci_8 G (sz + 167) (sz + 168)) ?_
  show mi_Z G mX11_init 3 198 9513 sz (fun ws => ws = wd_11 G h sz) 89 [(0, .ref h)] [.ref (sz + 167), .ref (h)] ((h, .inr (11, [.ref (sz), .ref (sz + 3), .ref (sz + 7), .ref (sz + 107), .ref (sz + 111), .ref (sz + 135), .ref (sz + 144), .null, .null, .null])) :: (wd_7 G (sz) (sz + 1) ++ (wd_5 G (sz + 3) (sz + 4) ++ (wd_3 G (sz + 7) (sz + 8) ++ (wd_4 G (sz + 107) (sz + 108) ++ (wd_0 G (sz + 111) (sz + 112) ++ (wd_2 G (sz + 135) (sz + 136) ++ (wd_8 G (sz + 144) (sz + 145) ++ (wd_8 G (sz + 167) (sz + 168) ++ []))))))))) (sz + 190) 190 9325
  refine z_putN (pc := 89) dX11_init_89 fX11_58 rfl rfl rfl (Nat.le_of_ble_eq_true rfl) (by omega) 189 rfl (by omega) ?_
  show mi_Z G mX11_init 3 198 9513 sz (fun ws => ws = wd_11 G h sz) 92 [(0, .ref h)] [] ((h, .inr (11, [.ref (sz), .ref (sz + 3), .ref (sz + 7), .ref (sz + 107), .ref (sz + 111), .ref (sz + 135), .ref (sz + 144), .ref (sz + 167), .null, .null])) :: (wd_7 G (sz) (sz + 1) ++ (wd_5 G (sz + 3) (sz + 4) ++ (wd_3 G (sz + 7) (sz + 8) ++ (wd_4 G (sz + 107) (sz + 108) ++ (wd_0 G (sz + 111) (sz + 112) ++ (wd_2 G (sz + 135) (sz + 136) ++ (wd_8 G (sz + 144) (sz + 145) ++ (wd_8 G (sz + 167) (sz + 168) ++ []))))))))) (sz + 190) 190 9325
  refine z_aload (pc := 92) dX11_init_92 0 rfl ?_
  refine z_new (ci := 10) (fs := [.int 0, .null, .null, .null]) (pc := 93) dX11_init_93 (by decide) zc_11_61 zi_10 zn_10 bl_10 (by decide) (by decide) ?_
  refine z_dup (pc := 96) dX11_init_96 rfl ?_
  refine z_initN (pc := 97) dX11_init_97 zl_11_63 (by decide) (Nat.le_of_ble_eq_true rfl) (by decide) (by decide) (ci_10 G (sz + 190) (sz + 191)) ?_
  show mi_Z G mX11_init 3 198 9513 sz (fun ws => ws = wd_11 G h sz) 100 [(0, .ref h)] [.ref (sz + 190), .ref (h)] ((h, .inr (11, [.ref (sz), .ref (sz + 3), .ref (sz + 7), .ref (sz + 107), .ref (sz + 111), .ref (sz + 135), .ref (sz + 144), .ref (sz + 167), .null, .null])) :: (wd_7 G (sz) (sz + 1) ++ (wd_5 G (sz + 3) (sz + 4) ++ (wd_3 G (sz + 7) (sz + 8) ++ (wd_4 G (sz + 107) (sz + 108) ++ (wd_0 G (sz + 111) (sz + 112) ++ (wd_2 G (sz + 135) (sz + 136) ++ (wd_8 G (sz + 144) (sz + 145) ++ (wd_8 G (sz + 167) (sz + 168) ++ (wd_10 G (sz + 190) (sz + 191) ++ [])))))))))) (sz + 194) 194 9419
  refine z_putN (pc := 100) dX11_init_100 fX11_64 rfl rfl rfl (Nat.le_of_ble_eq_true rfl) (by omega) 193 rfl (by omega) ?_
  show mi_Z G mX11_init 3 198 9513 sz (fun ws => ws = wd_11 G h sz) 103 [(0, .ref h)] [] ((h, .inr (11, [.ref (sz), .ref (sz + 3), .ref (sz + 7), .ref (sz + 107), .ref (sz + 111), .ref (sz + 135), .ref (sz + 144), .ref (sz + 167), .ref (sz + 190), .null])) :: (wd_7 G (sz) (sz + 1) ++ (wd_5 G (sz + 3) (sz + 4) ++ (wd_3 G (sz + 7) (sz + 8) ++ (wd_4 G (sz + 107) (sz + 108) ++ (wd_0 G (sz + 111) (sz + 112) ++ (wd_2 G (sz + 135) (sz + 136) ++ (wd_8 G (sz + 144) (sz + 145) ++ (wd_8 G (sz + 167) (sz + 168) ++ (wd_10 G (sz + 190) (sz + 191) ++ [])))))))))) (sz + 194) 194 9419
  refine z_aload (pc := 103) dX11_init_103 0 rfl ?_
  refine z_new (ci := 10) (fs := [.int 0, .null, .null, .null]) (pc := 104) dX11_init_104 (by decide) zc_11_61 zi_10 zn_10 bl_10 (by decide) (by decide) ?_
  refine z_dup (pc := 107) dX11_init_107 rfl ?_
  refine z_initN (pc := 108) dX11_init_108 zl_11_63 (by decide) (Nat.le_of_ble_eq_true rfl) (by decide) (by decide) (ci_10 G (sz + 194) (sz + 195)) ?_
  show mi_Z G mX11_init 3 198 9513 sz (fun ws => ws = wd_11 G h sz) 111 [(0, .ref h)] [.ref (sz + 194), .ref (h)] ((h, .inr (11, [.ref (sz), .ref (sz + 3), .ref (sz + 7), .ref (sz + 107), .ref (sz + 111), .ref (sz + 135), .ref (sz + 144), .ref (sz + 167), .ref (sz + 190), .null])) :: (wd_7 G (sz) (sz + 1) ++ (wd_5 G (sz + 3) (sz + 4) ++ (wd_3 G (sz + 7) (sz + 8) ++ (wd_4 G (sz + 107) (sz + 108) ++ (wd_0 G (sz + 111) (sz + 112) ++ (wd_2 G (sz + 135) (sz + 136) ++ (wd_8 G (sz + 144) (sz + 145) ++ (wd_8 G (sz + 167) (sz + 168) ++ (wd_10 G (sz + 190) (sz + 191) ++ (wd_10 G (sz + 194) (sz + 195) ++ []))))))))))) (sz + 198) 198 9513
  refine z_putN (pc := 111) dX11_init_111 fX11_68 rfl rfl rfl (Nat.le_of_ble_eq_true rfl) (by omega) 197 rfl (by omega) ?_
  show mi_Z G mX11_init 3 198 9513 sz (fun ws => ws = wd_11 G h sz) 114 [(0, .ref h)] [] ((h, .inr (11, [.ref (sz), .ref (sz + 3), .ref (sz + 7), .ref (sz + 107), .ref (sz + 111), .ref (sz + 135), .ref (sz + 144), .ref (sz + 167), .ref (sz + 190), .ref (sz + 194)])) :: (wd_7 G (sz) (sz + 1) ++ (wd_5 G (sz + 3) (sz + 4) ++ (wd_3 G (sz + 7) (sz + 8) ++ (wd_4 G (sz + 107) (sz + 108) ++ (wd_0 G (sz + 111) (sz + 112) ++ (wd_2 G (sz + 135) (sz + 136) ++ (wd_8 G (sz + 144) (sz + 145) ++ (wd_8 G (sz + 167) (sz + 168) ++ (wd_10 G (sz + 190) (sz + 191) ++ (wd_10 G (sz + 194) (sz + 195) ++ []))))))))))) (sz + 198) 198 9513
  exact z_ret (pc := 114) dX11_init_114 (by decide) (by decide) (by omega) rfl
