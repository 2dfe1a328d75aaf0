set_option maxRecDepth 100000 in
theorem zo_in : Cond.instanceMethod objectInit ∈ mi_T := mi_in 143 (by decide +kernel) rfl
set_option maxRecDepth 100000 in
theorem zo_co : Cond.code objectInit ⟨#[0xb1]⟩ 1 none ∈ mi_T := mi_in 144 (by decide +kernel) rfl
set_option maxRecDepth 100000 in
theorem za_byte : Cond.arrayClass .byte ∈ mi_T := mi_in 185 (by decide +kernel) rfl
set_option maxRecDepth 100000 in
theorem za_int : Cond.arrayClass .int ∈ mi_T := mi_in 237 (by decide +kernel) rfl
set_option maxRecDepth 100000 in
theorem za_boolean : Cond.arrayClass .boolean ∈ mi_T := mi_in 268 (by decide +kernel) rfl
set_option maxRecDepth 100000 in
theorem za_long : Cond.arrayClass .long ∈ mi_T := mi_in 374 (by decide +kernel) rfl
abbrev ai (G : mi_G) (n : Nat) : va_E := .inl (G.2.2 0, n, .inl (fun _ => 0))
abbrev al (G : mi_G) (n : Nat) : va_E := .inl (G.2.2 1, n, .inr (.inl (fun _ => 0)))
abbrev ab (G : mi_G) (n : Nat) : va_E := .inl (G.2.2 2, n, .inl (fun _ => 0))
abbrev az (G : mi_G) (n : Nat) : va_E := .inl (G.2.2 3, n, .inl (fun _ => 0))
theorem bl_5 : ∀ j, j < 7 → defaultValue (mi_Ty 5 j) = vp_V [.int 0, .int 0, .int 0, .int 0, .null, .null, .null] j
  | 0, _ => rfl
  | 1, _ => rfl
  | 2, _ => rfl
  | 3, _ => rfl
  | 4, _ => rfl
  | 5, _ => rfl
  | 6, _ => rfl
  | _ + 7, h => absurd h (by omega)
theorem bl_4 : ∀ j, j < 4 → defaultValue (mi_Ty 4 j) = vp_V [.int 0, .null, .null, .null] j
  | 0, _ => rfl
  | 1, _ => rfl
  | 2, _ => rfl
  | 3, _ => rfl
  | _ + 4, h => absurd h (by omega)
theorem bl_6 : ∀ j, j < 7 → defaultValue (mi_Ty 6 j) = vp_V [.int 0, .int 0, .int 0, .int 0, .long 0, .null, .int 0] j
  | 0, _ => rfl
  | 1, _ => rfl
  | 2, _ => rfl
  | 3, _ => rfl
  | 4, _ => rfl
  | 5, _ => rfl
  | 6, _ => rfl
  | _ + 7, h => absurd h (by omega)
theorem bl_7 : ∀ j, j < 2 → defaultValue (mi_Ty 7 j) = vp_V [.null, .int 0] j
  | 0, _ => rfl
  | 1, _ => rfl
  | _ + 2, h => absurd h (by omega)
theorem bl_1 : ∀ j, j < 5 → defaultValue (mi_Ty 1 j) = vp_V [.null, .null, .null, .null, .int 0] j
  | 0, _ => rfl
  | 1, _ => rfl
  | 2, _ => rfl
  | 3, _ => rfl
  | 4, _ => rfl
  | _ + 5, h => absurd h (by omega)
theorem bl_9 : ∀ j, j < 7 → defaultValue (mi_Ty 9 j) = vp_V [.int 0, .int 0, .null, .null, .null, .null, .long 0] j
  | 0, _ => rfl
  | 1, _ => rfl
  | 2, _ => rfl
  | 3, _ => rfl
  | 4, _ => rfl
  | 5, _ => rfl
  | 6, _ => rfl
  | _ + 7, h => absurd h (by omega)
theorem bl_8 : ∀ j, j < 13 → defaultValue (mi_Ty 8 j) = vp_V [.int 0, .int 0, .int 0, .int 0, .int 0, .null, .null, .null, .null, .null, .null, .null, .null] j
  | 0, _ => rfl
  | 1, _ => rfl
  | 2, _ => rfl
  | 3, _ => rfl
  | 4, _ => rfl
  | 5, _ => rfl
  | 6, _ => rfl
  | 7, _ => rfl
  | 8, _ => rfl
  | 9, _ => rfl
  | 10, _ => rfl
  | 11, _ => rfl
  | 12, _ => rfl
  | _ + 13, h => absurd h (by omega)
theorem bl_10 : ∀ j, j < 4 → defaultValue (mi_Ty 10 j) = vp_V [.int 0, .null, .null, .null] j
  | 0, _ => rfl
  | 1, _ => rfl
  | 2, _ => rfl
  | 3, _ => rfl
  | _ + 4, h => absurd h (by omega)
theorem bl_2 : ∀ j, j < 8 → defaultValue (mi_Ty 2 j) = vp_V [.null, .null, .null, .null, .null, .null, .null, .null] j
  | 0, _ => rfl
  | 1, _ => rfl
  | 2, _ => rfl
  | 3, _ => rfl
  | 4, _ => rfl
  | 5, _ => rfl
  | 6, _ => rfl
  | 7, _ => rfl
  | _ + 8, h => absurd h (by omega)
theorem bl_0 : ∀ j, j < 5 → defaultValue (mi_Ty 0 j) = vp_V [.null, .null, .null, .null, .int 0] j
  | 0, _ => rfl
  | 1, _ => rfl
  | 2, _ => rfl
  | 3, _ => rfl
  | 4, _ => rfl
  | _ + 5, h => absurd h (by omega)
theorem bl_3 : ∀ j, j < 6 → defaultValue (mi_Ty 3 j) = vp_V [.int 0, .int 0, .int 0, .null, .null, .null] j
  | 0, _ => rfl
  | 1, _ => rfl
  | 2, _ => rfl
  | 3, _ => rfl
  | 4, _ => rfl
  | 5, _ => rfl
  | _ + 6, h => absurd h (by omega)
theorem bl_11 : ∀ j, j < 10 → defaultValue (mi_Ty 11 j) = vp_V [.null, .null, .null, .null, .null, .null, .null, .null, .null, .null] j
  | 0, _ => rfl
  | 1, _ => rfl
  | 2, _ => rfl
  | 3, _ => rfl
  | 4, _ => rfl
  | 5, _ => rfl
  | 6, _ => rfl
  | 7, _ => rfl
  | 8, _ => rfl
  | 9, _ => rfl
  | _ + 10, h => absurd h (by omega)
set_option maxRecDepth 100000 in
theorem zl_5_3 : Cond.methodLink RX5 3 objectInit ∈ mi_T := mi_in 199 (by decide +kernel) rfl
abbrev mX5_init : mi_MD := (yX5_init, cX5_init, 1, none)
def wd_5 (G : mi_G) (h sz : Nat) : va_W := (h, .inr (5, [.int 0, .int 0, .int 0, .int 0, .ref (sz), .ref (sz + 1), .ref (sz + 2)])) :: ([(sz, ai G 8)] ++ ([(sz + 1, ai G 6)] ++ ([(sz + 2, ai G 6)] ++ [])))
set_option maxRecDepth 100000 in
set_option maxHeartbeats 4000000 in
theorem ci_5 (G : mi_G) (h sz : Nat) : mi_CI G 1 mX5_init h [(h, .inr (5, [.int 0, .int 0, .int 0, .int 0, .null, .null, .null]))] sz (wd_5 G h sz) 3 20 := by
  refine mi_CI_intro (by decide) rfl rfl (by decide) ?_
  refine z_aload (pc := 0) dX5_init_0 0 rfl ?_
  refine z_objInit (pc := 1) dX5_init_1 zl_5_3 zo_in zo_co (by decide) (Nat.le_of_ble_eq_true rfl) ?_
  refine z_aload (pc := 4) dX5_init_4 0 rfl ?_
  refine z_bipush (pc := 5) dX5_init_5 (v := (8 : Int32)) (by decide) ?_
  refine z_newarr (t0 := 0) (N := 8) (a0 := (8, .inl (fun _ => 0))) (pc := 7) dX5_init_7 rfl za_int rfl (by intro C h; cases h) (fun _ => rfl) (by decide) (by decide) (by decide) (by decide) (by decide) ?_
  show mi_Z G mX5_init 1 3 20 sz (fun ws => ws = wd_5 G h sz) 9 [(0, .ref h)] [.ref (sz), .ref (h)] ((h, .inr (5, [.int 0, .int 0, .int 0, .int 0, .null, .null, .null])) :: ([(sz, ai G 8)] ++ [])) (sz + 1) 1 8
  refine z_putF (pc := 9) dX5_init_9 fX5_9 rfl rfl rfl rfl (Nat.le_of_ble_eq_true rfl) (by omega) 0 rfl (by omega) ?_
  show mi_Z G mX5_init 1 3 20 sz (fun ws => ws = wd_5 G h sz) 12 [(0, .ref h)] [] ((h, .inr (5, [.int 0, .int 0, .int 0, .int 0, .ref (sz), .null, .null])) :: ([(sz, ai G 8)] ++ [])) (sz + 1) 1 8
  refine z_aload (pc := 12) dX5_init_12 0 rfl ?_
  refine z_bipush (pc := 13) dX5_init_13 (v := (6 : Int32)) (by decide) ?_
  refine z_newarr (t0 := 0) (N := 6) (a0 := (6, .inl (fun _ => 0))) (pc := 15) dX5_init_15 rfl za_int rfl (by intro C h; cases h) (fun _ => rfl) (by decide) (by decide) (by decide) (by decide) (by decide) ?_
  show mi_Z G mX5_init 1 3 20 sz (fun ws => ws = wd_5 G h sz) 17 [(0, .ref h)] [.ref (sz + 1), .ref (h)] ((h, .inr (5, [.int 0, .int 0, .int 0, .int 0, .ref (sz), .null, .null])) :: ([(sz, ai G 8)] ++ ([(sz + 1, ai G 6)] ++ []))) (sz + 2) 2 14
  refine z_putF (pc := 17) dX5_init_17 fX5_15 rfl rfl rfl rfl (Nat.le_of_ble_eq_true rfl) (by omega) 1 rfl (by omega) ?_
  show mi_Z G mX5_init 1 3 20 sz (fun ws => ws = wd_5 G h sz) 20 [(0, .ref h)] [] ((h, .inr (5, [.int 0, .int 0, .int 0, .int 0, .ref (sz), .ref (sz + 1), .null])) :: ([(sz, ai G 8)] ++ ([(sz + 1, ai G 6)] ++ []))) (sz + 2) 2 14
  refine z_aload (pc := 20) dX5_init_20 0 rfl ?_
  refine z_bipush (pc := 21) dX5_init_21 (v := (6 : Int32)) (by decide) ?_
  refine z_newarr (t0 := 0) (N := 6) (a0 := (6, .inl (fun _ => 0))) (pc := 23) dX5_init_23 rfl za_int rfl (by intro C h; cases h) (fun _ => rfl) (by decide) (by decide) (by decide) (by decide) (by decide) ?_
  show mi_Z G mX5_init 1 3 20 sz (fun ws => ws = wd_5 G h sz) 25 [(0, .ref h)] [.ref (sz + 2), .ref (h)] ((h, .inr (5, [.int 0, .int 0, .int 0, .int 0, .ref (sz), .ref (sz + 1), .null])) :: ([(sz, ai G 8)] ++ ([(sz + 1, ai G 6)] ++ ([(sz + 2, ai G 6)] ++ [])))) (sz + 3) 3 20
  refine z_putF (pc := 25) dX5_init_25 fX5_18 rfl rfl rfl rfl (Nat.le_of_ble_eq_true rfl) (by omega) 2 rfl (by omega) ?_
  show mi_Z G mX5_init 1 3 20 sz (fun ws => ws = wd_5 G h sz) 28 [(0, .ref h)] [] ((h, .inr (5, [.int 0, .int 0, .int 0, .int 0, .ref (sz), .ref (sz + 1), .ref (sz + 2)])) :: ([(sz, ai G 8)] ++ ([(sz + 1, ai G 6)] ++ ([(sz + 2, ai G 6)] ++ [])))) (sz + 3) 3 20
  exact z_ret (pc := 28) dX5_init_28 (by decide) (by decide) (by omega) rfl
set_option maxRecDepth 100000 in
theorem zl_4_3 : Cond.methodLink RX4 3 objectInit ∈ mi_T := mi_in 253 (by decide +kernel) rfl
abbrev mX4_init : mi_MD := (yX4_init, cX4_init, 1, none)
def wd_4 (G : mi_G) (h sz : Nat) : va_W := (h, .inr (4, [.int 0, .ref (sz), .ref (sz + 1), .ref (sz + 2)])) :: ([(sz, ai G 8)] ++ ([(sz + 1, ai G 8)] ++ ([(sz + 2, az G 8)] ++ [])))
set_option maxRecDepth 100000 in
set_option maxHeartbeats 4000000 in
theorem ci_4 (G : mi_G) (h sz : Nat) : mi_CI G 1 mX4_init h [(h, .inr (4, [.int 0, .null, .null, .null]))] sz (wd_4 G h sz) 3 24 := by
  refine mi_CI_intro (by decide) rfl rfl (by decide) ?_
  refine z_aload (pc := 0) dX4_init_0 0 rfl ?_
  refine z_objInit (pc := 1) dX4_init_1 zl_4_3 zo_in zo_co (by decide) (Nat.le_of_ble_eq_true rfl) ?_
  refine z_aload (pc := 4) dX4_init_4 0 rfl ?_
  refine z_bipush (pc := 5) dX4_init_5 (v := (8 : Int32)) (by decide) ?_
  refine z_newarr (t0 := 0) (N := 8) (a0 := (8, .inl (fun _ => 0))) (pc := 7) dX4_init_7 rfl za_int rfl (by intro C h; cases h) (fun _ => rfl) (by decide) (by decide) (by decide) (by decide) (by decide) ?_
  show mi_Z G mX4_init 1 3 24 sz (fun ws => ws = wd_4 G h sz) 9 [(0, .ref h)] [.ref (sz), .ref (h)] ((h, .inr (4, [.int 0, .null, .null, .null])) :: ([(sz, ai G 8)] ++ [])) (sz + 1) 1 8
  refine z_putF (pc := 9) dX4_init_9 fX4_9 rfl rfl rfl rfl (Nat.le_of_ble_eq_true rfl) (by omega) 0 rfl (by omega) ?_
  show mi_Z G mX4_init 1 3 24 sz (fun ws => ws = wd_4 G h sz) 12 [(0, .ref h)] [] ((h, .inr (4, [.int 0, .ref (sz), .null, .null])) :: ([(sz, ai G 8)] ++ [])) (sz + 1) 1 8
  refine z_aload (pc := 12) dX4_init_12 0 rfl ?_
  refine z_bipush (pc := 13) dX4_init_13 (v := (8 : Int32)) (by decide) ?_
  refine z_newarr (t0 := 0) (N := 8) (a0 := (8, .inl (fun _ => 0))) (pc := 15) dX4_init_15 rfl za_int rfl (by intro C h; cases h) (fun _ => rfl) (by decide) (by decide) (by decide) (by decide) (by decide) ?_
  show mi_Z G mX4_init 1 3 24 sz (fun ws => ws = wd_4 G h sz) 17 [(0, .ref h)] [.ref (sz + 1), .ref (h)] ((h, .inr (4, [.int 0, .ref (sz), .null, .null])) :: ([(sz, ai G 8)] ++ ([(sz + 1, ai G 8)] ++ []))) (sz + 2) 2 16
  refine z_putF (pc := 17) dX4_init_17 fX4_15 rfl rfl rfl rfl (Nat.le_of_ble_eq_true rfl) (by omega) 1 rfl (by omega) ?_
  show mi_Z G mX4_init 1 3 24 sz (fun ws => ws = wd_4 G h sz) 20 [(0, .ref h)] [] ((h, .inr (4, [.int 0, .ref (sz), .ref (sz + 1), .null])) :: ([(sz, ai G 8)] ++ ([(sz + 1, ai G 8)] ++ []))) (sz + 2) 2 16
  refine z_aload (pc := 20) dX4_init_20 0 rfl ?_
  refine z_bipush (pc := 21) dX4_init_21 (v := (8 : Int32)) (by decide) ?_
  refine z_newarr (t0 := 3) (N := 8) (a0 := (8, .inl (fun _ => 0))) (pc := 23) dX4_init_23 rfl za_boolean rfl (by intro C h; cases h) (fun _ => rfl) (by decide) (by decide) (by decide) (by decide) (by decide) ?_
  show mi_Z G mX4_init 1 3 24 sz (fun ws => ws = wd_4 G h sz) 25 [(0, .ref h)] [.ref (sz + 2), .ref (h)] ((h, .inr (4, [.int 0, .ref (sz), .ref (sz + 1), .null])) :: ([(sz, ai G 8)] ++ ([(sz + 1, ai G 8)] ++ ([(sz + 2, az G 8)] ++ [])))) (sz + 3) 3 24
  refine z_putF (pc := 25) dX4_init_25 fX4_18 rfl rfl rfl rfl (Nat.le_of_ble_eq_true rfl) (by omega) 2 rfl (by omega) ?_
  show mi_Z G mX4_init 1 3 24 sz (fun ws => ws = wd_4 G h sz) 28 [(0, .ref h)] [] ((h, .inr (4, [.int 0, .ref (sz), .ref (sz + 1), .ref (sz + 2)])) :: ([(sz, ai G 8)] ++ ([(sz + 1, ai G 8)] ++ ([(sz + 2, az G 8)] ++ [])))) (sz + 3) 3 24
  exact z_ret (pc := 28) dX4_init_28 (by decide) (by decide) (by omega) rfl
set_option maxRecDepth 100000 in
theorem zl_6_3 : Cond.methodLink RX6 3 objectInit ∈ mi_T := mi_in 156 (by decide +kernel) rfl
abbrev mX6_init : mi_MD := (yX6_init, cX6_init, 1, none)
def wd_6 (G : mi_G) (h sz : Nat) : va_W := (h, .inr (6, [.int 0, .int 0, .int 0, .int 0, .long 0, .ref (sz), .int 0])) :: ([(sz, ab G 1000)] ++ [])
set_option maxRecDepth 100000 in
set_option maxHeartbeats 4000000 in
theorem ci_6 (G : mi_G) (h sz : Nat) : mi_CI G 1 mX6_init h [(h, .inr (6, [.int 0, .int 0, .int 0, .int 0, .long 0, .null, .int 0]))] sz (wd_6 G h sz) 1 1000 := by
  refine mi_CI_intro (by decide) rfl rfl (by decide) ?_
  refine z_aload (pc := 0) dX6_init_0 0 rfl ?_
  refine z_objInit (pc := 1) dX6_init_1 zl_6_3 zo_in zo_co (by decide) (Nat.le_of_ble_eq_true rfl) ?_
  refine z_aload (pc := 4) dX6_init_4 0 rfl ?_
  refine z_sipush (pc := 5) dX6_init_5 (v := (1000 : Int32)) (by decide) ?_
  refine z_newarr (t0 := 2) (N := 1000) (a0 := (1000, .inl (fun _ => 0))) (pc := 8) dX6_init_8 rfl za_byte rfl (by intro C h; cases h) (fun _ => rfl) (by decide) (by decide) (by decide) (by decide) (by decide) ?_
  show mi_Z G mX6_init 1 1 1000 sz (fun ws => ws = wd_6 G h sz) 10 [(0, .ref h)] [.ref (sz), .ref (h)] ((h, .inr (6, [.int 0, .int 0, .int 0, .int 0, .long 0, .null, .int 0])) :: ([(sz, ab G 1000)] ++ [])) (sz + 1) 1 1000
  refine z_putF (pc := 10) dX6_init_10 fX6_11 rfl rfl rfl rfl (Nat.le_of_ble_eq_true rfl) (by omega) 0 rfl (by omega) ?_
  show mi_Z G mX6_init 1 1 1000 sz (fun ws => ws = wd_6 G h sz) 13 [(0, .ref h)] [] ((h, .inr (6, [.int 0, .int 0, .int 0, .int 0, .long 0, .ref (sz), .int 0])) :: ([(sz, ab G 1000)] ++ [])) (sz + 1) 1 1000
  exact z_ret (pc := 13) dX6_init_13 (by decide) (by decide) (by omega) rfl
set_option maxRecDepth 100000 in
theorem zl_7_11 : mi_lin RX7 11 "PardonLamps" mX6_init := ⟨by decide +kernel, ⟨mi_in 154 (by decide +kernel) rfl, mi_in 114 (by decide +kernel) rfl, mi_in 155 (by decide +kernel) rfl⟩, ⟨by decide +kernel, by decide +kernel, by decide +kernel⟩, by decide, rfl, rfl⟩
set_option maxRecDepth 100000 in
theorem zl_7_3 : Cond.methodLink RX7 3 objectInit ∈ mi_T := mi_in 150 (by decide +kernel) rfl
set_option maxRecDepth 100000 in
theorem zc_7_9 : Cond.classLink RX7 9 (mi_Cn 6) ∈ mi_T := mi_in 151 (by decide +kernel) rfl
set_option maxRecDepth 100000 in
theorem zi_6 : Cond.instantiable (mi_Cn 6) (mi_Cs 6) ∈ mi_T := mi_in 152 (by decide +kernel) rfl
set_option maxRecDepth 100000 in
theorem zn_6 : Cond.initialized (mi_Cn 6) ∈ mi_T := mi_in 114 (by decide +kernel) rfl
abbrev mX7_init : mi_MD := (yX7_init, cX7_init, 1, none)
def wd_7 (G : mi_G) (h sz : Nat) : va_W := (h, .inr (7, [.ref (sz), .int 0])) :: (wd_6 G (sz) (sz + 1) ++ [])
set_option maxRecDepth 100000 in
set_option maxHeartbeats 4000000 in
theorem ci_7 (G : mi_G) (h sz : Nat) : mi_CI G 2 mX7_init h [(h, .inr (7, [.null, .int 0]))] sz (wd_7 G h sz) 2 1007 := by
  refine mi_CI_intro (by decide) rfl rfl (by decide) ?_
  refine z_aload (pc := 0) dX7_init_0 0 rfl ?_
  refine z_objInit (pc := 1) dX7_init_1 zl_7_3 zo_in zo_co (by decide) (Nat.le_of_ble_eq_true rfl) ?_
  refine z_aload (pc := 4) dX7_init_4 0 rfl ?_
  refine z_new (ci := 6) (fs := [.int 0, .int 0, .int 0, .int 0, .long 0, .null, .int 0]) (pc := 5) dX7_init_5 (by decide) zc_7_9 zi_6 zn_6 bl_6 (by decide) (by decide) ?_
  refine z_dup (pc := 8) dX7_init_8 rfl ?_
  refine z_initN (pc := 9) dX7_init_9 zl_7_11 (by decide) (Nat.le_of_ble_eq_true rfl) (by decide) (by decide) (ci_6 G (sz) (sz + 1)) ?_
  show mi_Z G mX7_init 2 2 1007 sz (fun ws => ws = wd_7 G h sz) 12 [(0, .ref h)] [.ref (sz), .ref (h)] ((h, .inr (7, [.null, .int 0])) :: (wd_6 G (sz) (sz + 1) ++ [])) (sz + 2) 2 1007
  refine z_putF (pc := 12) dX7_init_12 fX7_12 rfl rfl rfl rfl (Nat.le_of_ble_eq_true rfl) (by omega) 1 rfl (by omega) ?_
  show mi_Z G mX7_init 2 2 1007 sz (fun ws => ws = wd_7 G h sz) 15 [(0, .ref h)] [] ((h, .inr (7, [.ref (sz), .int 0])) :: (wd_6 G (sz) (sz + 1) ++ [])) (sz + 2) 2 1007
  exact z_ret (pc := 15) dX7_init_15 (by decide) (by decide) (by omega) rfl
set_option maxRecDepth 100000 in
theorem zl_1_1 : Cond.methodLink RX1 1 objectInit ∈ mi_T := mi_in 357 (by decide +kernel) rfl
abbrev mX1_init : mi_MD := (yX1_init, cX1_init, 1, none)
def wd_1 (G : mi_G) (h sz : Nat) : va_W := (h, .inr (1, [.ref (sz), .ref (sz + 1), .ref (sz + 2), .ref (sz + 3), .int 0])) :: ([(sz, ai G 1003)] ++ ([(sz + 1, ai G 3)] ++ ([(sz + 2, ai G 3)] ++ ([(sz + 3, ai G 40)] ++ []))))
set_option maxRecDepth 100000 in
set_option maxHeartbeats 4000000 in
theorem ci_1 (G : mi_G) (h sz : Nat) : mi_CI G 1 mX1_init h [(h, .inr (1, [.null, .null, .null, .null, .int 0]))] sz (wd_1 G h sz) 4 1049 := by
  refine mi_CI_intro (by decide) rfl rfl (by decide) ?_
  refine z_aload (pc := 0) dX1_init_0 0 rfl ?_
  refine z_objInit (pc := 1) dX1_init_1 zl_1_1 zo_in zo_co (by decide) (Nat.le_of_ble_eq_true rfl) ?_
  refine z_aload (pc := 4) dX1_init_4 0 rfl ?_
  refine z_sipush (pc := 5) dX1_init_5 (v := (1003 : Int32)) (by decide) ?_
  refine z_newarr (t0 := 0) (N := 1003) (a0 := (1003, .inl (fun _ => 0))) (pc := 8) dX1_init_8 rfl za_int rfl (by intro C h; cases h) (fun _ => rfl) (by decide) (by decide) (by decide) (by decide) (by decide) ?_
  show mi_Z G mX1_init 1 4 1049 sz (fun ws => ws = wd_1 G h sz) 10 [(0, .ref h)] [.ref (sz), .ref (h)] ((h, .inr (1, [.null, .null, .null, .null, .int 0])) :: ([(sz, ai G 1003)] ++ [])) (sz + 1) 1 1003
  refine z_putF (pc := 10) dX1_init_10 fX1_11 rfl rfl rfl rfl (Nat.le_of_ble_eq_true rfl) (by omega) 0 rfl (by omega) ?_
  show mi_Z G mX1_init 1 4 1049 sz (fun ws => ws = wd_1 G h sz) 13 [(0, .ref h)] [] ((h, .inr (1, [.ref (sz), .null, .null, .null, .int 0])) :: ([(sz, ai G 1003)] ++ [])) (sz + 1) 1 1003
  refine z_aload (pc := 13) dX1_init_13 0 rfl ?_
  refine z_iconst (pc := 14) dX1_init_14 (v := (3 : Int32)) (by decide) ?_
  refine z_newarr (t0 := 0) (N := 3) (a0 := (3, .inl (fun _ => 0))) (pc := 15) dX1_init_15 rfl za_int rfl (by intro C h; cases h) (fun _ => rfl) (by decide) (by decide) (by decide) (by decide) (by decide) ?_
  show mi_Z G mX1_init 1 4 1049 sz (fun ws => ws = wd_1 G h sz) 17 [(0, .ref h)] [.ref (sz + 1), .ref (h)] ((h, .inr (1, [.ref (sz), .null, .null, .null, .int 0])) :: ([(sz, ai G 1003)] ++ ([(sz + 1, ai G 3)] ++ []))) (sz + 2) 2 1006
  refine z_putF (pc := 17) dX1_init_17 fX1_15 rfl rfl rfl rfl (Nat.le_of_ble_eq_true rfl) (by omega) 1 rfl (by omega) ?_
  show mi_Z G mX1_init 1 4 1049 sz (fun ws => ws = wd_1 G h sz) 20 [(0, .ref h)] [] ((h, .inr (1, [.ref (sz), .ref (sz + 1), .null, .null, .int 0])) :: ([(sz, ai G 1003)] ++ ([(sz + 1, ai G 3)] ++ []))) (sz + 2) 2 1006
  refine z_aload (pc := 20) dX1_init_20 0 rfl ?_
  refine z_iconst (pc := 21) dX1_init_21 (v := (3 : Int32)) (by decide) ?_
  refine z_newarr (t0 := 0) (N := 3) (a0 := (3, .inl (fun _ => 0))) (pc := 22) dX1_init_22 rfl za_int rfl (by intro C h; cases h) (fun _ => rfl) (by decide) (by decide) (by decide) (by decide) (by decide) ?_
  show mi_Z G mX1_init 1 4 1049 sz (fun ws => ws = wd_1 G h sz) 24 [(0, .ref h)] [.ref (sz + 2), .ref (h)] ((h, .inr (1, [.ref (sz), .ref (sz + 1), .null, .null, .int 0])) :: ([(sz, ai G 1003)] ++ ([(sz + 1, ai G 3)] ++ ([(sz + 2, ai G 3)] ++ [])))) (sz + 3) 3 1009
  refine z_putF (pc := 24) dX1_init_24 fX1_18 rfl rfl rfl rfl (Nat.le_of_ble_eq_true rfl) (by omega) 2 rfl (by omega) ?_
  show mi_Z G mX1_init 1 4 1049 sz (fun ws => ws = wd_1 G h sz) 27 [(0, .ref h)] [] ((h, .inr (1, [.ref (sz), .ref (sz + 1), .ref (sz + 2), .null, .int 0])) :: ([(sz, ai G 1003)] ++ ([(sz + 1, ai G 3)] ++ ([(sz + 2, ai G 3)] ++ [])))) (sz + 3) 3 1009
  refine z_aload (pc := 27) dX1_init_27 0 rfl ?_
  refine z_bipush (pc := 28) dX1_init_28 (v := (40 : Int32)) (by decide) ?_
  refine z_newarr (t0 := 0) (N := 40) (a0 := (40, .inl (fun _ => 0))) (pc := 30) dX1_init_30 rfl za_int rfl (by intro C h; cases h) (fun _ => rfl) (by decide) (by decide) (by decide) (by decide) (by decide) ?_
  show mi_Z G mX1_init 1 4 1049 sz (fun ws => ws = wd_1 G h sz) 32 [(0, .ref h)] [.ref (sz + 3), .ref (h)] ((h, .inr (1, [.ref (sz), .ref (sz + 1), .ref (sz + 2), .null, .int 0])) :: ([(sz, ai G 1003)] ++ ([(sz + 1, ai G 3)] ++ ([(sz + 2, ai G 3)] ++ ([(sz + 3, ai G 40)] ++ []))))) (sz + 4) 4 1049
  refine z_putF (pc := 32) dX1_init_32 fX1_21 rfl rfl rfl rfl (Nat.le_of_ble_eq_true rfl) (by omega) 3 rfl (by omega) ?_
  show mi_Z G mX1_init 1 4 1049 sz (fun ws => ws = wd_1 G h sz) 35 [(0, .ref h)] [] ((h, .inr (1, [.ref (sz), .ref (sz + 1), .ref (sz + 2), .ref (sz + 3), .int 0])) :: ([(sz, ai G 1003)] ++ ([(sz + 1, ai G 3)] ++ ([(sz + 2, ai G 3)] ++ ([(sz + 3, ai G 40)] ++ []))))) (sz + 4) 4 1049
  exact z_ret (pc := 35) dX1_init_35 (by decide) (by decide) (by omega) rfl
set_option maxRecDepth 100000 in
theorem zl_10_3 : Cond.methodLink RX10 3 objectInit ∈ mi_T := mi_in 481 (by decide +kernel) rfl
abbrev mX10_init : mi_MD := (yX10_init, cX10_init, 1, none)
def wd_10 (G : mi_G) (h sz : Nat) : va_W := (h, .inr (10, [.int 0, .ref (sz), .ref (sz + 1), .ref (sz + 2)])) :: ([(sz, ai G 30)] ++ ([(sz + 1, ai G 30)] ++ ([(sz + 2, ai G 30)] ++ [])))
set_option maxRecDepth 100000 in
set_option maxHeartbeats 4000000 in
theorem ci_10 (G : mi_G) (h sz : Nat) : mi_CI G 1 mX10_init h [(h, .inr (10, [.int 0, .null, .null, .null]))] sz (wd_10 G h sz) 3 90 := by
  refine mi_CI_intro (by decide) rfl rfl (by decide) ?_
  refine z_aload (pc := 0) dX10_init_0 0 rfl ?_
  refine z_objInit (pc := 1) dX10_init_1 zl_10_3 zo_in zo_co (by decide) (Nat.le_of_ble_eq_true rfl) ?_
  refine z_aload (pc := 4) dX10_init_4 0 rfl ?_
  refine z_bipush (pc := 5) dX10_init_5 (v := (30 : Int32)) (by decide) ?_
  refine z_newarr (t0 := 0) (N := 30) (a0 := (30, .inl (fun _ => 0))) (pc := 7) dX10_init_7 rfl za_int rfl (by intro C h; cases h) (fun _ => rfl) (by decide) (by decide) (by decide) (by decide) (by decide) ?_
  show mi_Z G mX10_init 1 3 90 sz (fun ws => ws = wd_10 G h sz) 9 [(0, .ref h)] [.ref (sz), .ref (h)] ((h, .inr (10, [.int 0, .null, .null, .null])) :: ([(sz, ai G 30)] ++ [])) (sz + 1) 1 30
  refine z_putF (pc := 9) dX10_init_9 fX10_9 rfl rfl rfl rfl (Nat.le_of_ble_eq_true rfl) (by omega) 0 rfl (by omega) ?_
  show mi_Z G mX10_init 1 3 90 sz (fun ws => ws = wd_10 G h sz) 12 [(0, .ref h)] [] ((h, .inr (10, [.int 0, .ref (sz), .null, .null])) :: ([(sz, ai G 30)] ++ [])) (sz + 1) 1 30
  refine z_aload (pc := 12) dX10_init_12 0 rfl ?_
  refine z_bipush (pc := 13) dX10_init_13 (v := (30 : Int32)) (by decide) ?_
  refine z_newarr (t0 := 0) (N := 30) (a0 := (30, .inl (fun _ => 0))) (pc := 15) dX10_init_15 rfl za_int rfl (by intro C h; cases h) (fun _ => rfl) (by decide) (by decide) (by decide) (by decide) (by decide) ?_
  show mi_Z G mX10_init 1 3 90 sz (fun ws => ws = wd_10 G h sz) 17 [(0, .ref h)] [.ref (sz + 1), .ref (h)] ((h, .inr (10, [.int 0, .ref (sz), .null, .null])) :: ([(sz, ai G 30)] ++ ([(sz + 1, ai G 30)] ++ []))) (sz + 2) 2 60
  refine z_putF (pc := 17) dX10_init_17 fX10_15 rfl rfl rfl rfl (Nat.le_of_ble_eq_true rfl) (by omega) 1 rfl (by omega) ?_
  show mi_Z G mX10_init 1 3 90 sz (fun ws => ws = wd_10 G h sz) 20 [(0, .ref h)] [] ((h, .inr (10, [.int 0, .ref (sz), .ref (sz + 1), .null])) :: ([(sz, ai G 30)] ++ ([(sz + 1, ai G 30)] ++ []))) (sz + 2) 2 60
  refine z_aload (pc := 20) dX10_init_20 0 rfl ?_
  refine z_bipush (pc := 21) dX10_init_21 (v := (30 : Int32)) (by decide) ?_
  refine z_newarr (t0 := 0) (N := 30) (a0 := (30, .inl (fun _ => 0))) (pc := 23) dX10_init_23 rfl za_int rfl (by intro C h; cases h) (fun _ => rfl) (by decide) (by decide) (by decide) (by decide) (by decide) ?_
  show mi_Z G mX10_init 1 3 90 sz (fun ws => ws = wd_10 G h sz) 25 [(0, .ref h)] [.ref (sz + 2), .ref (h)] ((h, .inr (10, [.int 0, .ref (sz), .ref (sz + 1), .null])) :: ([(sz, ai G 30)] ++ ([(sz + 1, ai G 30)] ++ ([(sz + 2, ai G 30)] ++ [])))) (sz + 3) 3 90
  refine z_putF (pc := 25) dX10_init_25 fX10_18 rfl rfl rfl rfl (Nat.le_of_ble_eq_true rfl) (by omega) 2 rfl (by omega) ?_
  show mi_Z G mX10_init 1 3 90 sz (fun ws => ws = wd_10 G h sz) 28 [(0, .ref h)] [] ((h, .inr (10, [.int 0, .ref (sz), .ref (sz + 1), .ref (sz + 2)])) :: ([(sz, ai G 30)] ++ ([(sz + 1, ai G 30)] ++ ([(sz + 2, ai G 30)] ++ [])))) (sz + 3) 3 90
  exact z_ret (pc := 28) dX10_init_28 (by decide) (by decide) (by omega) rfl
set_option maxRecDepth 100000 in
theorem zl_2_3 : Cond.methodLink RX2 3 objectInit ∈ mi_T := mi_in 320 (by decide +kernel) rfl
abbrev mX2_init : mi_MD := (yX2_init, cX2_init, 1, none)
def wd_2 (G : mi_G) (h sz : Nat) : va_W := (h, .inr (2, [.ref (sz), .ref (sz + 1), .ref (sz + 2), .ref (sz + 3), .ref (sz + 4), .ref (sz + 5), .ref (sz + 6), .ref (sz + 7)])) :: ([(sz, ai G 8)] ++ ([(sz + 1, ai G 8)] ++ ([(sz + 2, ai G 6)] ++ ([(sz + 3, ai G 6)] ++ ([(sz + 4, ai G 6)] ++ ([(sz + 5, ai G 384)] ++ ([(sz + 6, ai G 60)] ++ ([(sz + 7, ai G 3)] ++ []))))))))
set_option maxRecDepth 100000 in
set_option maxHeartbeats 4000000 in
theorem ci_2 (G : mi_G) (h sz : Nat) : mi_CI G 1 mX2_init h [(h, .inr (2, [.null, .null, .null, .null, .null, .null, .null, .null]))] sz (wd_2 G h sz) 8 481 := by
  refine mi_CI_intro (by decide) rfl rfl (by decide) ?_
  refine z_aload (pc := 0) dX2_init_0 0 rfl ?_
  refine z_objInit (pc := 1) dX2_init_1 zl_2_3 zo_in zo_co (by decide) (Nat.le_of_ble_eq_true rfl) ?_
  refine z_aload (pc := 4) dX2_init_4 0 rfl ?_
  refine z_bipush (pc := 5) dX2_init_5 (v := (8 : Int32)) (by decide) ?_
  refine z_newarr (t0 := 0) (N := 8) (a0 := (8, .inl (fun _ => 0))) (pc := 7) dX2_init_7 rfl za_int rfl (by intro C h; cases h) (fun _ => rfl) (by decide) (by decide) (by decide) (by decide) (by decide) ?_
  show mi_Z G mX2_init 1 8 481 sz (fun ws => ws = wd_2 G h sz) 9 [(0, .ref h)] [.ref (sz), .ref (h)] ((h, .inr (2, [.null, .null, .null, .null, .null, .null, .null, .null])) :: ([(sz, ai G 8)] ++ [])) (sz + 1) 1 8
  refine z_putF (pc := 9) dX2_init_9 fX2_9 rfl rfl rfl rfl (Nat.le_of_ble_eq_true rfl) (by omega) 0 rfl (by omega) ?_
  show mi_Z G mX2_init 1 8 481 sz (fun ws => ws = wd_2 G h sz) 12 [(0, .ref h)] [] ((h, .inr (2, [.ref (sz), .null, .null, .null, .null, .null, .null, .null])) :: ([(sz, ai G 8)] ++ [])) (sz + 1) 1 8
  refine z_aload (pc := 12) dX2_init_12 0 rfl ?_
  refine z_bipush (pc := 13) dX2_init_13 (v := (8 : Int32)) (by decide) ?_
  refine z_newarr (t0 := 0) (N := 8) (a0 := (8, .inl (fun _ => 0))) (pc := 15) dX2_init_15 rfl za_int rfl (by intro C h; cases h) (fun _ => rfl) (by decide) (by decide) (by decide) (by decide) (by decide) ?_
  show mi_Z G mX2_init 1 8 481 sz (fun ws => ws = wd_2 G h sz) 17 [(0, .ref h)] [.ref (sz + 1), .ref (h)] ((h, .inr (2, [.ref (sz), .null, .null, .null, .null, .null, .null, .null])) :: ([(sz, ai G 8)] ++ ([(sz + 1, ai G 8)] ++ []))) (sz + 2) 2 16
  refine z_putF (pc := 17) dX2_init_17 fX2_15 rfl rfl rfl rfl (Nat.le_of_ble_eq_true rfl) (by omega) 1 rfl (by omega) ?_
  show mi_Z G mX2_init 1 8 481 sz (fun ws => ws = wd_2 G h sz) 20 [(0, .ref h)] [] ((h, .inr (2, [.ref (sz), .ref (sz + 1), .null, .null, .null, .null, .null, .null])) :: ([(sz, ai G 8)] ++ ([(sz + 1, ai G 8)] ++ []))) (sz + 2) 2 16
  refine z_aload (pc := 20) dX2_init_20 0 rfl ?_
  refine z_bipush (pc := 21) dX2_init_21 (v := (6 : Int32)) (by decide) ?_
  refine z_newarr (t0 := 0) (N := 6) (a0 := (6, .inl (fun _ => 0))) (pc := 23) dX2_init_23 rfl za_int rfl (by intro C h; cases h) (fun _ => rfl) (by decide) (by decide) (by decide) (by decide) (by decide) ?_
  show mi_Z G mX2_init 1 8 481 sz (fun ws => ws = wd_2 G h sz) 25 [(0, .ref h)] [.ref (sz + 2), .ref (h)] ((h, .inr (2, [.ref (sz), .ref (sz + 1), .null, .null, .null, .null, .null, .null])) :: ([(sz, ai G 8)] ++ ([(sz + 1, ai G 8)] ++ ([(sz + 2, ai G 6)] ++ [])))) (sz + 3) 3 22
  refine z_putF (pc := 25) dX2_init_25 fX2_18 rfl rfl rfl rfl (Nat.le_of_ble_eq_true rfl) (by omega) 2 rfl (by omega) ?_
  show mi_Z G mX2_init 1 8 481 sz (fun ws => ws = wd_2 G h sz) 28 [(0, .ref h)] [] ((h, .inr (2, [.ref (sz), .ref (sz + 1), .ref (sz + 2), .null, .null, .null, .null, .null])) :: ([(sz, ai G 8)] ++ ([(sz + 1, ai G 8)] ++ ([(sz + 2, ai G 6)] ++ [])))) (sz + 3) 3 22
  refine z_aload (pc := 28) dX2_init_28 0 rfl ?_
  refine z_bipush (pc := 29) dX2_init_29 (v := (6 : Int32)) (by decide) ?_
  refine z_newarr (t0 := 0) (N := 6) (a0 := (6, .inl (fun _ => 0))) (pc := 31) dX2_init_31 rfl za_int rfl (by intro C h; cases h) (fun _ => rfl) (by decide) (by decide) (by decide) (by decide) (by decide) ?_
  show mi_Z G mX2_init 1 8 481 sz (fun ws => ws = wd_2 G h sz) 33 [(0, .ref h)] [.ref (sz + 3), .ref (h)] ((h, .inr (2, [.ref (sz), .ref (sz + 1), .ref (sz + 2), .null, .null, .null, .null, .null])) :: ([(sz, ai G 8)] ++ ([(sz + 1, ai G 8)] ++ ([(sz + 2, ai G 6)] ++ ([(sz + 3, ai G 6)] ++ []))))) (sz + 4) 4 28
  refine z_putF (pc := 33) dX2_init_33 fX2_21 rfl rfl rfl rfl (Nat.le_of_ble_eq_true rfl) (by omega) 3 rfl (by omega) ?_
  show mi_Z G mX2_init 1 8 481 sz (fun ws => ws = wd_2 G h sz) 36 [(0, .ref h)] [] ((h, .inr (2, [.ref (sz), .ref (sz + 1), .ref (sz + 2), .ref (sz + 3), .null, .null, .null, .null])) :: ([(sz, ai G 8)] ++ ([(sz + 1, ai G 8)] ++ ([(sz + 2, ai G 6)] ++ ([(sz + 3, ai G 6)] ++ []))))) (sz + 4) 4 28
  refine z_aload (pc := 36) dX2_init_36 0 rfl ?_
  refine z_bipush (pc := 37) dX2_init_37 (v := (6 : Int32)) (by decide) ?_
  refine z_newarr (t0 := 0) (N := 6) (a0 := (6, .inl (fun _ => 0))) (pc := 39) dX2_init_39 rfl za_int rfl (by intro C h; cases h) (fun _ => rfl) (by decide) (by decide) (by decide) (by decide) (by decide) ?_
  show mi_Z G mX2_init 1 8 481 sz (fun ws => ws = wd_2 G h sz) 41 [(0, .ref h)] [.ref (sz + 4), .ref (h)] ((h, .inr (2, [.ref (sz), .ref (sz + 1), .ref (sz + 2), .ref (sz + 3), .null, .null, .null, .null])) :: ([(sz, ai G 8)] ++ ([(sz + 1, ai G 8)] ++ ([(sz + 2, ai G 6)] ++ ([(sz + 3, ai G 6)] ++ ([(sz + 4, ai G 6)] ++ [])))))) (sz + 5) 5 34
  refine z_putF (pc := 41) dX2_init_41 fX2_24 rfl rfl rfl rfl (Nat.le_of_ble_eq_true rfl) (by omega) 4 rfl (by omega) ?_
  show mi_Z G mX2_init 1 8 481 sz (fun ws => ws = wd_2 G h sz) 44 [(0, .ref h)] [] ((h, .inr (2, [.ref (sz), .ref (sz + 1), .ref (sz + 2), .ref (sz + 3), .ref (sz + 4), .null, .null, .null])) :: ([(sz, ai G 8)] ++ ([(sz + 1, ai G 8)] ++ ([(sz + 2, ai G 6)] ++ ([(sz + 3, ai G 6)] ++ ([(sz + 4, ai G 6)] ++ [])))))) (sz + 5) 5 34
  refine z_aload (pc := 44) dX2_init_44 0 rfl ?_
  refine z_sipush (pc := 45) dX2_init_45 (v := (384 : Int32)) (by decide) ?_
  refine z_newarr (t0 := 0) (N := 384) (a0 := (384, .inl (fun _ => 0))) (pc := 48) dX2_init_48 rfl za_int rfl (by intro C h; cases h) (fun _ => rfl) (by decide) (by decide) (by decide) (by decide) (by decide) ?_
  show mi_Z G mX2_init 1 8 481 sz (fun ws => ws = wd_2 G h sz) 50 [(0, .ref h)] [.ref (sz + 5), .ref (h)] ((h, .inr (2, [.ref (sz), .ref (sz + 1), .ref (sz + 2), .ref (sz + 3), .ref (sz + 4), .null, .null, .null])) :: ([(sz, ai G 8)] ++ ([(sz + 1, ai G 8)] ++ ([(sz + 2, ai G 6)] ++ ([(sz + 3, ai G 6)] ++ ([(sz + 4, ai G 6)] ++ ([(sz + 5, ai G 384)] ++ []))))))) (sz + 6) 6 418
  refine z_putF (pc := 50) dX2_init_50 fX2_27 rfl rfl rfl rfl (Nat.le_of_ble_eq_true rfl) (by omega) 5 rfl (by omega) ?_
  show mi_Z G mX2_init 1 8 481 sz (fun ws => ws = wd_2 G h sz) 53 [(0, .ref h)] [] ((h, .inr (2, [.ref (sz), .ref (sz + 1), .ref (sz + 2), .ref (sz + 3), .ref (sz + 4), .ref (sz + 5), .null, .null])) :: ([(sz, ai G 8)] ++ ([(sz + 1, ai G 8)] ++ ([(sz + 2, ai G 6)] ++ ([(sz + 3, ai G 6)] ++ ([(sz + 4, ai G 6)] ++ ([(sz + 5, ai G 384)] ++ []))))))) (sz + 6) 6 418
  refine z_aload (pc := 53) dX2_init_53 0 rfl ?_
  refine z_bipush (pc := 54) dX2_init_54 (v := (60 : Int32)) (by decide) ?_
  refine z_newarr (t0 := 0) (N := 60) (a0 := (60, .inl (fun _ => 0))) (pc := 56) dX2_init_56 rfl za_int rfl (by intro C h; cases h) (fun _ => rfl) (by decide) (by decide) (by decide) (by decide) (by decide) ?_
  show mi_Z G mX2_init 1 8 481 sz (fun ws => ws = wd_2 G h sz) 58 [(0, .ref h)] [.ref (sz + 6), .ref (h)] ((h, .inr (2, [.ref (sz), .ref (sz + 1), .ref (sz + 2), .ref (sz + 3), .ref (sz + 4), .ref (sz + 5), .null, .null])) :: ([(sz, ai G 8)] ++ ([(sz + 1, ai G 8)] ++ ([(sz + 2, ai G 6)] ++ ([(sz + 3, ai G 6)] ++ ([(sz + 4, ai G 6)] ++ ([(sz + 5, ai G 384)] ++ ([(sz + 6, ai G 60)] ++ [])))))))) (sz + 7) 7 478
  refine z_putF (pc := 58) dX2_init_58 fX2_30 rfl rfl rfl rfl (Nat.le_of_ble_eq_true rfl) (by omega) 6 rfl (by omega) ?_
  show mi_Z G mX2_init 1 8 481 sz (fun ws => ws = wd_2 G h sz) 61 [(0, .ref h)] [] ((h, .inr (2, [.ref (sz), .ref (sz + 1), .ref (sz + 2), .ref (sz + 3), .ref (sz + 4), .ref (sz + 5), .ref (sz + 6), .null])) :: ([(sz, ai G 8)] ++ ([(sz + 1, ai G 8)] ++ ([(sz + 2, ai G 6)] ++ ([(sz + 3, ai G 6)] ++ ([(sz + 4, ai G 6)] ++ ([(sz + 5, ai G 384)] ++ ([(sz + 6, ai G 60)] ++ [])))))))) (sz + 7) 7 478
  refine z_aload (pc := 61) dX2_init_61 0 rfl ?_
  refine z_iconst (pc := 62) dX2_init_62 (v := (3 : Int32)) (by decide) ?_
  refine z_newarr (t0 := 0) (N := 3) (a0 := (3, .inl (fun _ => 0))) (pc := 63) dX2_init_63 rfl za_int rfl (by intro C h; cases h) (fun _ => rfl) (by decide) (by decide) (by decide) (by decide) (by decide) ?_
  show mi_Z G mX2_init 1 8 481 sz (fun ws => ws = wd_2 G h sz) 65 [(0, .ref h)] [.ref (sz + 7), .ref (h)] ((h, .inr (2, [.ref (sz), .ref (sz + 1), .ref (sz + 2), .ref (sz + 3), .ref (sz + 4), .ref (sz + 5), .ref (sz + 6), .null])) :: ([(sz, ai G 8)] ++ ([(sz + 1, ai G 8)] ++ ([(sz + 2, ai G 6)] ++ ([(sz + 3, ai G 6)] ++ ([(sz + 4, ai G 6)] ++ ([(sz + 5, ai G 384)] ++ ([(sz + 6, ai G 60)] ++ ([(sz + 7, ai G 3)] ++ []))))))))) (sz + 8) 8 481
  refine z_putF (pc := 65) dX2_init_65 fX2_33 rfl rfl rfl rfl (Nat.le_of_ble_eq_true rfl) (by omega) 7 rfl (by omega) ?_
  show mi_Z G mX2_init 1 8 481 sz (fun ws => ws = wd_2 G h sz) 68 [(0, .ref h)] [] ((h, .inr (2, [.ref (sz), .ref (sz + 1), .ref (sz + 2), .ref (sz + 3), .ref (sz + 4), .ref (sz + 5), .ref (sz + 6), .ref (sz + 7)])) :: ([(sz, ai G 8)] ++ ([(sz + 1, ai G 8)] ++ ([(sz + 2, ai G 6)] ++ ([(sz + 3, ai G 6)] ++ ([(sz + 4, ai G 6)] ++ ([(sz + 5, ai G 384)] ++ ([(sz + 6, ai G 60)] ++ ([(sz + 7, ai G 3)] ++ []))))))))) (sz + 8) 8 481
  exact z_ret (pc := 68) dX2_init_68 (by decide) (by decide) (by omega) rfl
set_option maxRecDepth 100000 in
theorem zl_9_3 : Cond.methodLink RX9 3 objectInit ∈ mi_T := mi_in 380 (by decide +kernel) rfl
set_option maxRecDepth 100000 in
theorem zc_9_9 : Cond.classLink RX9 9 "[[I" ∈ mi_T := mi_in 381 (by decide +kernel) rfl
abbrev mX9_init : mi_MD := (yX9_init, cX9_init, 1, none)
def wd_9 (G : mi_G) (h sz : Nat) : va_W := (h, .inr (9, [.int 0, .int 0, .ref (sz), .ref (sz + 7), .ref (sz + 8), .ref (sz + 9), .long 0])) :: ([(sz, .inl (G.2.2 6, 6, .inr (.inr (.inr (.inr (fun i => if i < 6 then some (sz + 1 + i) else none))))))] ++ ([(sz + 1, ai G 6), (sz + 2, ai G 6), (sz + 3, ai G 6), (sz + 4, ai G 6), (sz + 5, ai G 6), (sz + 6, ai G 6)] ++ ([(sz + 7, ai G 4)] ++ ([(sz + 8, ai G 4)] ++ ([(sz + 9, ai G 2304)] ++ [])))))
set_option maxRecDepth 100000 in
set_option maxHeartbeats 4000000 in
theorem ci_9 (G : mi_G) (h sz : Nat) : mi_CI G 1 mX9_init h [(h, .inr (9, [.int 0, .int 0, .null, .null, .null, .null, .long 0]))] sz (wd_9 G h sz) 10 2354 := by
  refine mi_CI_intro (by decide) rfl rfl (by decide) ?_
  refine z_aload (pc := 0) dX9_init_0 0 rfl ?_
  refine z_objInit (pc := 1) dX9_init_1 zl_9_3 zo_in zo_co (by decide) (Nat.le_of_ble_eq_true rfl) ?_
  refine z_aload (pc := 4) dX9_init_4 0 rfl ?_
  refine z_bipush (pc := 5) dX9_init_5 (v := (6 : Int32)) (by decide) ?_
  refine z_bipush (pc := 7) dX9_init_7 (v := (6 : Int32)) (by decide) ?_
  refine z_mnew (N := 6) (K := 6) (pc := 9) dX9_init_9 zc_9_9 za_int (by decide) (by decide) (by decide) (by decide) (by decide) (by decide) (by decide) (by decide) (by decide) ?_
  show mi_Z G mX9_init 1 10 2354 sz (fun ws => ws = wd_9 G h sz) 13 [(0, .ref h)] [.ref (sz), .ref (h)] ((h, .inr (9, [.int 0, .int 0, .null, .null, .null, .null, .long 0])) :: ([(sz, .inl (G.2.2 6, 6, .inr (.inr (.inr (.inr (fun i => if i < 6 then some (sz + 1 + i) else none))))))] ++ ([(sz + 1, ai G 6), (sz + 2, ai G 6), (sz + 3, ai G 6), (sz + 4, ai G 6), (sz + 5, ai G 6), (sz + 6, ai G 6)] ++ []))) (sz + 7) 7 42
  refine z_putF (pc := 13) dX9_init_13 fX9_11 rfl rfl rfl rfl (Nat.le_of_ble_eq_true rfl) (by omega) 6 rfl (by omega) ?_
  show mi_Z G mX9_init 1 10 2354 sz (fun ws => ws = wd_9 G h sz) 16 [(0, .ref h)] [] ((h, .inr (9, [.int 0, .int 0, .ref (sz), .null, .null, .null, .long 0])) :: ([(sz, .inl (G.2.2 6, 6, .inr (.inr (.inr (.inr (fun i => if i < 6 then some (sz + 1 + i) else none))))))] ++ ([(sz + 1, ai G 6), (sz + 2, ai G 6), (sz + 3, ai G 6), (sz + 4, ai G 6), (sz + 5, ai G 6), (sz + 6, ai G 6)] ++ []))) (sz + 7) 7 42
  refine z_aload (pc := 16) dX9_init_16 0 rfl ?_
  refine z_iconst (pc := 17) dX9_init_17 (v := (4 : Int32)) (by decide) ?_
  refine z_newarr (t0 := 0) (N := 4) (a0 := (4, .inl (fun _ => 0))) (pc := 18) dX9_init_18 rfl za_int rfl (by intro C h; cases h) (fun _ => rfl) (by decide) (by decide) (by decide) (by decide) (by decide) ?_
  show mi_Z G mX9_init 1 10 2354 sz (fun ws => ws = wd_9 G h sz) 20 [(0, .ref h)] [.ref (sz + 7), .ref (h)] ((h, .inr (9, [.int 0, .int 0, .ref (sz), .null, .null, .null, .long 0])) :: ([(sz, .inl (G.2.2 6, 6, .inr (.inr (.inr (.inr (fun i => if i < 6 then some (sz + 1 + i) else none))))))] ++ ([(sz + 1, ai G 6), (sz + 2, ai G 6), (sz + 3, ai G 6), (sz + 4, ai G 6), (sz + 5, ai G 6), (sz + 6, ai G 6)] ++ ([(sz + 7, ai G 4)] ++ [])))) (sz + 8) 8 46
  refine z_putF (pc := 20) dX9_init_20 fX9_16 rfl rfl rfl rfl (Nat.le_of_ble_eq_true rfl) (by omega) 7 rfl (by omega) ?_
  show mi_Z G mX9_init 1 10 2354 sz (fun ws => ws = wd_9 G h sz) 23 [(0, .ref h)] [] ((h, .inr (9, [.int 0, .int 0, .ref (sz), .ref (sz + 7), .null, .null, .long 0])) :: ([(sz, .inl (G.2.2 6, 6, .inr (.inr (.inr (.inr (fun i => if i < 6 then some (sz + 1 + i) else none))))))] ++ ([(sz + 1, ai G 6), (sz + 2, ai G 6), (sz + 3, ai G 6), (sz + 4, ai G 6), (sz + 5, ai G 6), (sz + 6, ai G 6)] ++ ([(sz + 7, ai G 4)] ++ [])))) (sz + 8) 8 46
  refine z_aload (pc := 23) dX9_init_23 0 rfl ?_
  refine z_iconst (pc := 24) dX9_init_24 (v := (4 : Int32)) (by decide) ?_
  refine z_newarr (t0 := 0) (N := 4) (a0 := (4, .inl (fun _ => 0))) (pc := 25) dX9_init_25 rfl za_int rfl (by intro C h; cases h) (fun _ => rfl) (by decide) (by decide) (by decide) (by decide) (by decide) ?_
  show mi_Z G mX9_init 1 10 2354 sz (fun ws => ws = wd_9 G h sz) 27 [(0, .ref h)] [.ref (sz + 8), .ref (h)] ((h, .inr (9, [.int 0, .int 0, .ref (sz), .ref (sz + 7), .null, .null, .long 0])) :: ([(sz, .inl (G.2.2 6, 6, .inr (.inr (.inr (.inr (fun i => if i < 6 then some (sz + 1 + i) else none))))))] ++ ([(sz + 1, ai G 6), (sz + 2, ai G 6), (sz + 3, ai G 6), (sz + 4, ai G 6), (sz + 5, ai G 6), (sz + 6, ai G 6)] ++ ([(sz + 7, ai G 4)] ++ ([(sz + 8, ai G 4)] ++ []))))) (sz + 9) 9 50
  refine z_putF (pc := 27) dX9_init_27 fX9_20 rfl rfl rfl rfl (Nat.le_of_ble_eq_true rfl) (by omega) 8 rfl (by omega) ?_
  show mi_Z G mX9_init 1 10 2354 sz (fun ws => ws = wd_9 G h sz) 30 [(0, .ref h)] [] ((h, .inr (9, [.int 0, .int 0, .ref (sz), .ref (sz + 7), .ref (sz + 8), .null, .long 0])) :: ([(sz, .inl (G.2.2 6, 6, .inr (.inr (.inr (.inr (fun i => if i < 6 then some (sz + 1 + i) else none))))))] ++ ([(sz + 1, ai G 6), (sz + 2, ai G 6), (sz + 3, ai G 6), (sz + 4, ai G 6), (sz + 5, ai G 6), (sz + 6, ai G 6)] ++ ([(sz + 7, ai G 4)] ++ ([(sz + 8, ai G 4)] ++ []))))) (sz + 9) 9 50
  refine z_aload (pc := 30) dX9_init_30 0 rfl ?_
  refine z_sipush (pc := 31) dX9_init_31 (v := (2304 : Int32)) (by decide) ?_
  refine z_newarr (t0 := 0) (N := 2304) (a0 := (2304, .inl (fun _ => 0))) (pc := 34) dX9_init_34 rfl za_int rfl (by intro C h; cases h) (fun _ => rfl) (by decide) (by decide) (by decide) (by decide) (by decide) ?_
  show mi_Z G mX9_init 1 10 2354 sz (fun ws => ws = wd_9 G h sz) 36 [(0, .ref h)] [.ref (sz + 9), .ref (h)] ((h, .inr (9, [.int 0, .int 0, .ref (sz), .ref (sz + 7), .ref (sz + 8), .null, .long 0])) :: ([(sz, .inl (G.2.2 6, 6, .inr (.inr (.inr (.inr (fun i => if i < 6 then some (sz + 1 + i) else none))))))] ++ ([(sz + 1, ai G 6), (sz + 2, ai G 6), (sz + 3, ai G 6), (sz + 4, ai G 6), (sz + 5, ai G 6), (sz + 6, ai G 6)] ++ ([(sz + 7, ai G 4)] ++ ([(sz + 8, ai G 4)] ++ ([(sz + 9, ai G 2304)] ++ [])))))) (sz + 10) 10 2354
  refine z_putF (pc := 36) dX9_init_36 fX9_23 rfl rfl rfl rfl (Nat.le_of_ble_eq_true rfl) (by omega) 9 rfl (by omega) ?_
  show mi_Z G mX9_init 1 10 2354 sz (fun ws => ws = wd_9 G h sz) 39 [(0, .ref h)] [] ((h, .inr (9, [.int 0, .int 0, .ref (sz), .ref (sz + 7), .ref (sz + 8), .ref (sz + 9), .long 0])) :: ([(sz, .inl (G.2.2 6, 6, .inr (.inr (.inr (.inr (fun i => if i < 6 then some (sz + 1 + i) else none))))))] ++ ([(sz + 1, ai G 6), (sz + 2, ai G 6), (sz + 3, ai G 6), (sz + 4, ai G 6), (sz + 5, ai G 6), (sz + 6, ai G 6)] ++ ([(sz + 7, ai G 4)] ++ ([(sz + 8, ai G 4)] ++ ([(sz + 9, ai G 2304)] ++ [])))))) (sz + 10) 10 2354
  exact z_ret (pc := 39) dX9_init_39 (by decide) (by decide) (by omega) rfl
set_option maxRecDepth 100000 in
theorem zl_8_3 : Cond.methodLink RX8 3 objectInit ∈ mi_T := mi_in 351 (by decide +kernel) rfl
set_option maxRecDepth 100000 in
theorem zc_8_31 : Cond.classLink RX8 31 (mi_Cn 1) ∈ mi_T := mi_in 352 (by decide +kernel) rfl
set_option maxRecDepth 100000 in
theorem zi_1 : Cond.instantiable (mi_Cn 1) (mi_Cs 1) ∈ mi_T := mi_in 353 (by decide +kernel) rfl
set_option maxRecDepth 100000 in
theorem zn_1 : Cond.initialized (mi_Cn 1) ∈ mi_T := mi_in 121 (by decide +kernel) rfl
set_option maxRecDepth 100000 in
theorem zl_8_33 : mi_lin RX8 33 "PardonLamps" mX1_init := ⟨by decide +kernel, ⟨mi_in 355 (by decide +kernel) rfl, mi_in 121 (by decide +kernel) rfl, mi_in 356 (by decide +kernel) rfl⟩, ⟨by decide +kernel, by decide +kernel, by decide +kernel⟩, by decide, rfl, rfl⟩
set_option maxRecDepth 100000 in
theorem zc_8_38 : Cond.classLink RX8 38 (mi_Cn 9) ∈ mi_T := mi_in 375 (by decide +kernel) rfl
set_option maxRecDepth 100000 in
theorem zi_9 : Cond.instantiable (mi_Cn 9) (mi_Cs 9) ∈ mi_T := mi_in 376 (by decide +kernel) rfl
set_option maxRecDepth 100000 in
theorem zn_9 : Cond.initialized (mi_Cn 9) ∈ mi_T := mi_in 122 (by decide +kernel) rfl
set_option maxRecDepth 100000 in
theorem zl_8_40 : mi_lin RX8 40 "PardonLamps" mX9_init := ⟨by decide +kernel, ⟨mi_in 378 (by decide +kernel) rfl, mi_in 122 (by decide +kernel) rfl, mi_in 379 (by decide +kernel) rfl⟩, ⟨by decide +kernel, by decide +kernel, by decide +kernel⟩, by decide, rfl, rfl⟩
abbrev mX8_init : mi_MD := (yX8_init, cX8_init, 1, none)
def wd_8 (G : mi_G) (h sz : Nat) : va_W := (h, .inr (8, [.int 0, .int 0, .int 0, .int 0, .int 0, .ref (sz), .ref (sz + 1), .ref (sz + 2), .ref (sz + 3), .ref (sz + 4), .ref (sz + 5), .ref (sz + 6), .ref (sz + 11)])) :: ([(sz, al G 6)] ++ ([(sz + 1, ai G 6)] ++ ([(sz + 2, ai G 6)] ++ ([(sz + 3, ai G 8)] ++ ([(sz + 4, ai G 8)] ++ ([(sz + 5, ai G 8)] ++ (wd_1 G (sz + 6) (sz + 7) ++ (wd_9 G (sz + 11) (sz + 12) ++ []))))))))
set_option maxRecDepth 100000 in
set_option maxHeartbeats 4000000 in
theorem ci_8 (G : mi_G) (h sz : Nat) : mi_CI G 2 mX8_init h [(h, .inr (8, [.int 0, .int 0, .int 0, .int 0, .int 0, .null, .null, .null, .null, .null, .null, .null, .null]))] sz (wd_8 G h sz) 22 3457 := by
  refine mi_CI_intro (by decide) rfl rfl (by decide) ?_
  refine z_aload (pc := 0) dX8_init_0 0 rfl ?_
  refine z_objInit (pc := 1) dX8_init_1 zl_8_3 zo_in zo_co (by decide) (Nat.le_of_ble_eq_true rfl) ?_
  refine z_aload (pc := 4) dX8_init_4 0 rfl ?_
  refine z_bipush (pc := 5) dX8_init_5 (v := (6 : Int32)) (by decide) ?_
  refine z_newarr (t0 := 1) (N := 6) (a0 := (6, .inr (.inl (fun _ => 0)))) (pc := 7) dX8_init_7 rfl za_long rfl (by intro C h; cases h) (fun _ => rfl) (by decide) (by decide) (by decide) (by decide) (by decide) ?_
  show mi_Z G mX8_init 2 22 3457 sz (fun ws => ws = wd_8 G h sz) 9 [(0, .ref h)] [.ref (sz), .ref (h)] ((h, .inr (8, [.int 0, .int 0, .int 0, .int 0, .int 0, .null, .null, .null, .null, .null, .null, .null, .null])) :: ([(sz, al G 6)] ++ [])) (sz + 1) 1 6
  refine z_putF (pc := 9) dX8_init_9 fX8_9 rfl rfl rfl rfl (Nat.le_of_ble_eq_true rfl) (by omega) 0 rfl (by omega) ?_
  show mi_Z G mX8_init 2 22 3457 sz (fun ws => ws = wd_8 G h sz) 12 [(0, .ref h)] [] ((h, .inr (8, [.int 0, .int 0, .int 0, .int 0, .int 0, .ref (sz), .null, .null, .null, .null, .null, .null, .null])) :: ([(sz, al G 6)] ++ [])) (sz + 1) 1 6
  refine z_aload (pc := 12) dX8_init_12 0 rfl ?_
  refine z_bipush (pc := 13) dX8_init_13 (v := (6 : Int32)) (by decide) ?_
  refine z_newarr (t0 := 0) (N := 6) (a0 := (6, .inl (fun _ => 0))) (pc := 15) dX8_init_15 rfl za_int rfl (by intro C h; cases h) (fun _ => rfl) (by decide) (by decide) (by decide) (by decide) (by decide) ?_
  show mi_Z G mX8_init 2 22 3457 sz (fun ws => ws = wd_8 G h sz) 17 [(0, .ref h)] [.ref (sz + 1), .ref (h)] ((h, .inr (8, [.int 0, .int 0, .int 0, .int 0, .int 0, .ref (sz), .null, .null, .null, .null, .null, .null, .null])) :: ([(sz, al G 6)] ++ ([(sz + 1, ai G 6)] ++ []))) (sz + 2) 2 12
  refine z_putF (pc := 17) dX8_init_17 fX8_15 rfl rfl rfl rfl (Nat.le_of_ble_eq_true rfl) (by omega) 1 rfl (by omega) ?_
  show mi_Z G mX8_init 2 22 3457 sz (fun ws => ws = wd_8 G h sz) 20 [(0, .ref h)] [] ((h, .inr (8, [.int 0, .int 0, .int 0, .int 0, .int 0, .ref (sz), .ref (sz + 1), .null, .null, .null, .null, .null, .null])) :: ([(sz, al G 6)] ++ ([(sz + 1, ai G 6)] ++ []))) (sz + 2) 2 12
  refine z_aload (pc := 20) dX8_init_20 0 rfl ?_
  refine z_bipush (pc := 21) dX8_init_21 (v := (6 : Int32)) (by decide) ?_
  refine z_newarr (t0 := 0) (N := 6) (a0 := (6, .inl (fun _ => 0))) (pc := 23) dX8_init_23 rfl za_int rfl (by intro C h; cases h) (fun _ => rfl) (by decide) (by decide) (by decide) (by decide) (by decide) ?_
  show mi_Z G mX8_init 2 22 3457 sz (fun ws => ws = wd_8 G h sz) 25 [(0, .ref h)] [.ref (sz + 2), .ref (h)] ((h, .inr (8, [.int 0, .int 0, .int 0, .int 0, .int 0, .ref (sz), .ref (sz + 1), .null, .null, .null, .null, .null, .null])) :: ([(sz, al G 6)] ++ ([(sz + 1, ai G 6)] ++ ([(sz + 2, ai G 6)] ++ [])))) (sz + 3) 3 18
  refine z_putF (pc := 25) dX8_init_25 fX8_19 rfl rfl rfl rfl (Nat.le_of_ble_eq_true rfl) (by omega) 2 rfl (by omega) ?_
  show mi_Z G mX8_init 2 22 3457 sz (fun ws => ws = wd_8 G h sz) 28 [(0, .ref h)] [] ((h, .inr (8, [.int 0, .int 0, .int 0, .int 0, .int 0, .ref (sz), .ref (sz + 1), .ref (sz + 2), .null, .null, .null, .null, .null])) :: ([(sz, al G 6)] ++ ([(sz + 1, ai G 6)] ++ ([(sz + 2, ai G 6)] ++ [])))) (sz + 3) 3 18
  refine z_aload (pc := 28) dX8_init_28 0 rfl ?_
  refine z_bipush (pc := 29) dX8_init_29 (v := (8 : Int32)) (by decide) ?_
  refine z_newarr (t0 := 0) (N := 8) (a0 := (8, .inl (fun _ => 0))) (pc := 31) dX8_init_31 rfl za_int rfl (by intro C h; cases h) (fun _ => rfl) (by decide) (by decide) (by decide) (by decide) (by decide) ?_
  show mi_Z G mX8_init 2 22 3457 sz (fun ws => ws = wd_8 G h sz) 33 [(0, .ref h)] [.ref (sz + 3), .ref (h)] ((h, .inr (8, [.int 0, .int 0, .int 0, .int 0, .int 0, .ref (sz), .ref (sz + 1), .ref (sz + 2), .null, .null, .null, .null, .null])) :: ([(sz, al G 6)] ++ ([(sz + 1, ai G 6)] ++ ([(sz + 2, ai G 6)] ++ ([(sz + 3, ai G 8)] ++ []))))) (sz + 4) 4 26
  refine z_putF (pc := 33) dX8_init_33 fX8_22 rfl rfl rfl rfl (Nat.le_of_ble_eq_true rfl) (by omega) 3 rfl (by omega) ?_
  show mi_Z G mX8_init 2 22 3457 sz (fun ws => ws = wd_8 G h sz) 36 [(0, .ref h)] [] ((h, .inr (8, [.int 0, .int 0, .int 0, .int 0, .int 0, .ref (sz), .ref (sz + 1), .ref (sz + 2), .ref (sz + 3), .null, .null, .null, .null])) :: ([(sz, al G 6)] ++ ([(sz + 1, ai G 6)] ++ ([(sz + 2, ai G 6)] ++ ([(sz + 3, ai G 8)] ++ []))))) (sz + 4) 4 26
  refine z_aload (pc := 36) dX8_init_36 0 rfl ?_
  refine z_bipush (pc := 37) dX8_init_37 (v := (8 : Int32)) (by decide) ?_
  refine z_newarr (t0 := 0) (N := 8) (a0 := (8, .inl (fun _ => 0))) (pc := 39) dX8_init_39 rfl za_int rfl (by intro C h; cases h) (fun _ => rfl) (by decide) (by decide) (by decide) (by decide) (by decide) ?_
  show mi_Z G mX8_init 2 22 3457 sz (fun ws => ws = wd_8 G h sz) 41 [(0, .ref h)] [.ref (sz + 4), .ref (h)] ((h, .inr (8, [.int 0, .int 0, .int 0, .int 0, .int 0, .ref (sz), .ref (sz + 1), .ref (sz + 2), .ref (sz + 3), .null, .null, .null, .null])) :: ([(sz, al G 6)] ++ ([(sz + 1, ai G 6)] ++ ([(sz + 2, ai G 6)] ++ ([(sz + 3, ai G 8)] ++ ([(sz + 4, ai G 8)] ++ [])))))) (sz + 5) 5 34
  refine z_putF (pc := 41) dX8_init_41 fX8_25 rfl rfl rfl rfl (Nat.le_of_ble_eq_true rfl) (by omega) 4 rfl (by omega) ?_
  show mi_Z G mX8_init 2 22 3457 sz (fun ws => ws = wd_8 G h sz) 44 [(0, .ref h)] [] ((h, .inr (8, [.int 0, .int 0, .int 0, .int 0, .int 0, .ref (sz), .ref (sz + 1), .ref (sz + 2), .ref (sz + 3), .ref (sz + 4), .null, .null, .null])) :: ([(sz, al G 6)] ++ ([(sz + 1, ai G 6)] ++ ([(sz + 2, ai G 6)] ++ ([(sz + 3, ai G 8)] ++ ([(sz + 4, ai G 8)] ++ [])))))) (sz + 5) 5 34
  refine z_aload (pc := 44) dX8_init_44 0 rfl ?_
  refine z_bipush (pc := 45) dX8_init_45 (v := (8 : Int32)) (by decide) ?_
  refine z_newarr (t0 := 0) (N := 8) (a0 := (8, .inl (fun _ => 0))) (pc := 47) dX8_init_47 rfl za_int rfl (by intro C h; cases h) (fun _ => rfl) (by decide) (by decide) (by decide) (by decide) (by decide) ?_
  show mi_Z G mX8_init 2 22 3457 sz (fun ws => ws = wd_8 G h sz) 49 [(0, .ref h)] [.ref (sz + 5), .ref (h)] ((h, .inr (8, [.int 0, .int 0, .int 0, .int 0, .int 0, .ref (sz), .ref (sz + 1), .ref (sz + 2), .ref (sz + 3), .ref (sz + 4), .null, .null, .null])) :: ([(sz, al G 6)] ++ ([(sz + 1, ai G 6)] ++ ([(sz + 2, ai G 6)] ++ ([(sz + 3, ai G 8)] ++ ([(sz + 4, ai G 8)] ++ ([(sz + 5, ai G 8)] ++ []))))))) (sz + 6) 6 42
  refine z_putF (pc := 49) dX8_init_49 fX8_28 rfl rfl rfl rfl (Nat.le_of_ble_eq_true rfl) (by omega) 5 rfl (by omega) ?_
  show mi_Z G mX8_init 2 22 3457 sz (fun ws => ws = wd_8 G h sz) 52 [(0, .ref h)] [] ((h, .inr (8, [.int 0, .int 0, .int 0, .int 0, .int 0, .ref (sz), .ref (sz + 1), .ref (sz + 2), .ref (sz + 3), .ref (sz + 4), .ref (sz + 5), .null, .null])) :: ([(sz, al G 6)] ++ ([(sz + 1, ai G 6)] ++ ([(sz + 2, ai G 6)] ++ ([(sz + 3, ai G 8)] ++ ([(sz + 4, ai G 8)] ++ ([(sz + 5, ai G 8)] ++ []))))))) (sz + 6) 6 42
  refine z_aload (pc := 52) dX8_init_52 0 rfl ?_
  refine z_new (ci := 1) (fs := [.null, .null, .null, .null, .int 0]) (pc := 53) dX8_init_53 (by decide) zc_8_31 zi_1 zn_1 bl_1 (by decide) (by decide) ?_
  refine z_dup (pc := 56) dX8_init_56 rfl ?_
  refine z_initN (pc := 57) dX8_init_57 zl_8_33 (by decide) (Nat.le_of_ble_eq_true rfl) (by decide) (by decide) (ci_1 G (sz + 6) (sz + 7)) ?_
  show mi_Z G mX8_init 2 22 3457 sz (fun ws => ws = wd_8 G h sz) 60 [(0, .ref h)] [.ref (sz + 6), .ref (h)] ((h, .inr (8, [.int 0, .int 0, .int 0, .int 0, .int 0, .ref (sz), .ref (sz + 1), .ref (sz + 2), .ref (sz + 3), .ref (sz + 4), .ref (sz + 5), .null, .null])) :: ([(sz, al G 6)] ++ ([(sz + 1, ai G 6)] ++ ([(sz + 2, ai G 6)] ++ ([(sz + 3, ai G 8)] ++ ([(sz + 4, ai G 8)] ++ ([(sz + 5, ai G 8)] ++ (wd_1 G (sz + 6) (sz + 7) ++ [])))))))) (sz + 11) 11 1096
  refine z_putF (pc := 60) dX8_init_60 fX8_34 rfl rfl rfl rfl (Nat.le_of_ble_eq_true rfl) (by omega) 10 rfl (by omega) ?_
  show mi_Z G mX8_init 2 22 3457 sz (fun ws => ws = wd_8 G h sz) 63 [(0, .ref h)] [] ((h, .inr (8, [.int 0, .int 0, .int 0, .int 0, .int 0, .ref (sz), .ref (sz + 1), .ref (sz + 2), .ref (sz + 3), .ref (sz + 4), .ref (sz + 5), .ref (sz + 6), .null])) :: ([(sz, al G 6)] ++ ([(sz + 1, ai G 6)] ++ ([(sz + 2, ai G 6)] ++ ([(sz + 3, ai G 8)] ++ ([(sz + 4, ai G 8)] ++ ([(sz + 5, ai G 8)] ++ (wd_1 G (sz + 6) (sz + 7) ++ [])))))))) (sz + 11) 11 1096
  refine z_aload (pc := 63) dX8_init_63 0 rfl ?_
  refine z_new (ci := 9) (fs := [.int 0, .int 0, .null, .null, .null, .null, .long 0]) (pc := 64) dX8_init_64 (by decide) zc_8_38 zi_9 zn_9 bl_9 (by decide) (by decide) ?_
  refine z_dup (pc := 67) dX8_init_67 rfl ?_
  refine z_initN (pc := 68) dX8_init_68 zl_8_40 (by decide) (Nat.le_of_ble_eq_true rfl) (by decide) (by decide) (ci_9 G (sz + 11) (sz + 12)) ?_
  show mi_Z G mX8_init 2 22 3457 sz (fun ws => ws = wd_8 G h sz) 71 [(0, .ref h)] [.ref (sz + 11), .ref (h)] ((h, .inr (8, [.int 0, .int 0, .int 0, .int 0, .int 0, .ref (sz), .ref (sz + 1), .ref (sz + 2), .ref (sz + 3), .ref (sz + 4), .ref (sz + 5), .ref (sz + 6), .null])) :: ([(sz, al G 6)] ++ ([(sz + 1, ai G 6)] ++ ([(sz + 2, ai G 6)] ++ ([(sz + 3, ai G 8)] ++ ([(sz + 4, ai G 8)] ++ ([(sz + 5, ai G 8)] ++ (wd_1 G (sz + 6) (sz + 7) ++ (wd_9 G (sz + 11) (sz + 12) ++ []))))))))) (sz + 22) 22 3457
  refine z_putF (pc := 71) dX8_init_71 fX8_41 rfl rfl rfl rfl (Nat.le_of_ble_eq_true rfl) (by omega) 21 rfl (by omega) ?_
  show mi_Z G mX8_init 2 22 3457 sz (fun ws => ws = wd_8 G h sz) 74 [(0, .ref h)] [] ((h, .inr (8, [.int 0, .int 0, .int 0, .int 0, .int 0, .ref (sz), .ref (sz + 1), .ref (sz + 2), .ref (sz + 3), .ref (sz + 4), .ref (sz + 5), .ref (sz + 6), .ref (sz + 11)])) :: ([(sz, al G 6)] ++ ([(sz + 1, ai G 6)] ++ ([(sz + 2, ai G 6)] ++ ([(sz + 3, ai G 8)] ++ ([(sz + 4, ai G 8)] ++ ([(sz + 5, ai G 8)] ++ (wd_1 G (sz + 6) (sz + 7) ++ (wd_9 G (sz + 11) (sz + 12) ++ []))))))))) (sz + 22) 22 3457
  exact z_ret (pc := 74) dX8_init_74 (by decide) (by decide) (by omega) rfl
set_option maxRecDepth 100000 in
theorem zl_0_11 : mi_lin RX0 11 "PardonLamps" mX5_init := ⟨by decide +kernel, ⟨mi_in 197 (by decide +kernel) rfl, mi_in 115 (by decide +kernel) rfl, mi_in 198 (by decide +kernel) rfl⟩, ⟨by decide +kernel, by decide +kernel, by decide +kernel⟩, by decide, rfl, rfl⟩
set_option maxRecDepth 100000 in
theorem zl_0_3 : Cond.methodLink RX0 3 objectInit ∈ mi_T := mi_in 296 (by decide +kernel) rfl
set_option maxRecDepth 100000 in
theorem zc_0_9 : Cond.classLink RX0 9 (mi_Cn 5) ∈ mi_T := mi_in 297 (by decide +kernel) rfl
set_option maxRecDepth 100000 in
theorem zi_5 : Cond.instantiable (mi_Cn 5) (mi_Cs 5) ∈ mi_T := mi_in 195 (by decide +kernel) rfl
set_option maxRecDepth 100000 in
theorem zn_5 : Cond.initialized (mi_Cn 5) ∈ mi_T := mi_in 115 (by decide +kernel) rfl
abbrev mX0_init : mi_MD := (yX0_init, cX0_init, 2, none)
def wd_0 (G : mi_G) (h sz : Nat) : va_W := (h, .inr (0, [.ref (sz), .ref (sz + 4), .ref (sz + 5), .ref (sz + 6), .int 0])) :: (wd_5 G (sz) (sz + 1) ++ ([(sz + 4, .inl (G.2.2 4, 4, .inr (.inr (.inr (.inr (va_up (va_up (va_up (va_up (fun _ => none) 0 (some (sz + 7))) 1 (some (sz + 11))) 2 (some (sz + 15))) 3 (some (sz + 19))))))))] ++ ([(sz + 5, ai G 3)] ++ ([(sz + 6, ai G 3)] ++ (wd_5 G (sz + 7) (sz + 8) ++ (wd_5 G (sz + 11) (sz + 12) ++ (wd_5 G (sz + 15) (sz + 16) ++ (wd_5 G (sz + 19) (sz + 20) ++ []))))))))
set_option maxRecDepth 100000 in
set_option maxHeartbeats 4000000 in
theorem ci_0 (G : mi_G) (h sz : Nat) : mi_CI G 2 mX0_init h [(h, .inr (0, [.null, .null, .null, .null, .int 0]))] sz (wd_0 G h sz) 23 145 := by
  refine mi_CI_intro (by decide) rfl rfl (by decide) ?_
  refine z_aload (pc := 0) dX0_init_0 0 rfl ?_
  refine z_objInit (pc := 1) dX0_init_1 zl_0_3 zo_in zo_co (by decide) (Nat.le_of_ble_eq_true rfl) ?_
  refine z_aload (pc := 4) dX0_init_4 0 rfl ?_
  refine z_new (ci := 5) (fs := [.int 0, .int 0, .int 0, .int 0, .null, .null, .null]) (pc := 5) dX0_init_5 (by decide) zc_0_9 zi_5 zn_5 bl_5 (by decide) (by decide) ?_
  refine z_dup (pc := 8) dX0_init_8 rfl ?_
  refine z_initN (pc := 9) dX0_init_9 zl_0_11 (by decide) (Nat.le_of_ble_eq_true rfl) (by decide) (by decide) (ci_5 G (sz) (sz + 1)) ?_
  show mi_Z G mX0_init 2 23 145 sz (fun ws => ws = wd_0 G h sz) 12 [(0, .ref h)] [.ref (sz), .ref (h)] ((h, .inr (0, [.null, .null, .null, .null, .int 0])) :: (wd_5 G (sz) (sz + 1) ++ [])) (sz + 4) 4 27
  refine z_putF (pc := 12) dX0_init_12 fX0_12 rfl rfl rfl rfl (Nat.le_of_ble_eq_true rfl) (by omega) 3 rfl (by omega) ?_
  show mi_Z G mX0_init 2 23 145 sz (fun ws => ws = wd_0 G h sz) 15 [(0, .ref h)] [] ((h, .inr (0, [.ref (sz), .null, .null, .null, .int 0])) :: (wd_5 G (sz) (sz + 1) ++ [])) (sz + 4) 4 27
  refine z_aload (pc := 15) dX0_init_15 0 rfl ?_
  refine z_iconst (pc := 16) dX0_init_16 (v := (4 : Int32)) (by decide) ?_
  refine z_anew (t0 := 4) (N := 4) (pc := 17) dX0_init_17 zc_0_9 (fun s h => h.2.1) rfl (by decide) (by decide) (by decide) (by decide) (by decide) ?_
  show mi_Z G mX0_init 2 23 145 sz (fun ws => ws = wd_0 G h sz) 20 [(0, .ref h)] [.ref (sz + 4), .ref (h)] ((h, .inr (0, [.ref (sz), .null, .null, .null, .int 0])) :: (wd_5 G (sz) (sz + 1) ++ ([(sz + 4, .inl (G.2.2 4, 4, .inr (.inr (.inr (.inr (fun _ => none))))))] ++ []))) (sz + 5) 5 31
  refine z_putF (pc := 20) dX0_init_20 fX0_18 rfl rfl rfl rfl (Nat.le_of_ble_eq_true rfl) (by omega) 4 rfl (by omega) ?_
  show mi_Z G mX0_init 2 23 145 sz (fun ws => ws = wd_0 G h sz) 23 [(0, .ref h)] [] ((h, .inr (0, [.ref (sz), .ref (sz + 4), .null, .null, .int 0])) :: (wd_5 G (sz) (sz + 1) ++ ([(sz + 4, .inl (G.2.2 4, 4, .inr (.inr (.inr (.inr (fun _ => none))))))] ++ []))) (sz + 5) 5 31
  refine z_aload (pc := 23) dX0_init_23 0 rfl ?_
  refine z_iconst (pc := 24) dX0_init_24 (v := (3 : Int32)) (by decide) ?_
  refine z_newarr (t0 := 0) (N := 3) (a0 := (3, .inl (fun _ => 0))) (pc := 25) dX0_init_25 rfl za_int rfl (by intro C h; cases h) (fun _ => rfl) (by decide) (by decide) (by decide) (by decide) (by decide) ?_
  show mi_Z G mX0_init 2 23 145 sz (fun ws => ws = wd_0 G h sz) 27 [(0, .ref h)] [.ref (sz + 5), .ref (h)] ((h, .inr (0, [.ref (sz), .ref (sz + 4), .null, .null, .int 0])) :: (wd_5 G (sz) (sz + 1) ++ ([(sz + 4, .inl (G.2.2 4, 4, .inr (.inr (.inr (.inr (fun _ => none))))))] ++ ([(sz + 5, ai G 3)] ++ [])))) (sz + 6) 6 34
  refine z_putF (pc := 27) dX0_init_27 fX0_22 rfl rfl rfl rfl (Nat.le_of_ble_eq_true rfl) (by omega) 5 rfl (by omega) ?_
  show mi_Z G mX0_init 2 23 145 sz (fun ws => ws = wd_0 G h sz) 30 [(0, .ref h)] [] ((h, .inr (0, [.ref (sz), .ref (sz + 4), .ref (sz + 5), .null, .int 0])) :: (wd_5 G (sz) (sz + 1) ++ ([(sz + 4, .inl (G.2.2 4, 4, .inr (.inr (.inr (.inr (fun _ => none))))))] ++ ([(sz + 5, ai G 3)] ++ [])))) (sz + 6) 6 34
  refine z_aload (pc := 30) dX0_init_30 0 rfl ?_
  refine z_iconst (pc := 31) dX0_init_31 (v := (3 : Int32)) (by decide) ?_
  refine z_newarr (t0 := 0) (N := 3) (a0 := (3, .inl (fun _ => 0))) (pc := 32) dX0_init_32 rfl za_int rfl (by intro C h; cases h) (fun _ => rfl) (by decide) (by decide) (by decide) (by decide) (by decide) ?_
  show mi_Z G mX0_init 2 23 145 sz (fun ws => ws = wd_0 G h sz) 34 [(0, .ref h)] [.ref (sz + 6), .ref (h)] ((h, .inr (0, [.ref (sz), .ref (sz + 4), .ref (sz + 5), .null, .int 0])) :: (wd_5 G (sz) (sz + 1) ++ ([(sz + 4, .inl (G.2.2 4, 4, .inr (.inr (.inr (.inr (fun _ => none))))))] ++ ([(sz + 5, ai G 3)] ++ ([(sz + 6, ai G 3)] ++ []))))) (sz + 7) 7 37
  refine z_putF (pc := 34) dX0_init_34 fX0_26 rfl rfl rfl rfl (Nat.le_of_ble_eq_true rfl) (by omega) 6 rfl (by omega) ?_
  show mi_Z G mX0_init 2 23 145 sz (fun ws => ws = wd_0 G h sz) 37 [(0, .ref h)] [] ((h, .inr (0, [.ref (sz), .ref (sz + 4), .ref (sz + 5), .ref (sz + 6), .int 0])) :: (wd_5 G (sz) (sz + 1) ++ ([(sz + 4, .inl (G.2.2 4, 4, .inr (.inr (.inr (.inr (fun _ => none))))))] ++ ([(sz + 5, ai G 3)] ++ ([(sz + 6, ai G 3)] ++ []))))) (sz + 7) 7 37
  refine z_iconst (pc := 37) dX0_init_37 (v := (0 : Int32)) (by decide) ?_
  refine z_istore (ls' := [(1, .int (0 : Int32)), (0, .ref h)]) (pc := 38) dX0_init_38 rfl rfl rfl ?_
  refine z_iload (pc := 39) dX0_init_39 0 rfl ?_
  refine z_iconst (pc := 40) dX0_init_40 (v := (3 : Int32)) (by decide) ?_
  refine z_icmp_gt (pc := 41) dX0_init_41 (tgt := 63) (by decide) (fun hc => ?_) (fun hc => ?_)
  · exact absurd hc (by decide)
  refine z_aload (pc := 44) dX0_init_44 1 rfl ?_
  refine z_get (pc := 45) dX0_init_45 fX0_18 rfl ?_
  refine z_iload (pc := 48) dX0_init_48 0 rfl ?_
  refine z_new (ci := 5) (fs := [.int 0, .int 0, .int 0, .int 0, .null, .null, .null]) (pc := 49) dX0_init_49 (by decide) zc_0_9 zi_5 zn_5 bl_5 (by decide) (by decide) ?_
  refine z_dup (pc := 52) dX0_init_52 rfl ?_
  refine z_initN (pc := 53) dX0_init_53 zl_0_11 (by decide) (Nat.le_of_ble_eq_true rfl) (by decide) (by decide) (ci_5 G (sz + 7) (sz + 8)) ?_
  show mi_Z G mX0_init 2 23 145 sz (fun ws => ws = wd_0 G h sz) 56 [(1, .int (0 : Int32)), (0, .ref h)] [.ref (sz + 7), .int (0 : Int32), .ref (sz + 4)] ((h, .inr (0, [.ref (sz), .ref (sz + 4), .ref (sz + 5), .ref (sz + 6), .int 0])) :: (wd_5 G (sz) (sz + 1) ++ ([(sz + 4, .inl (G.2.2 4, 4, .inr (.inr (.inr (.inr (fun _ => none))))))] ++ ([(sz + 5, ai G 3)] ++ ([(sz + 6, ai G 3)] ++ (wd_5 G (sz + 7) (sz + 8) ++ [])))))) (sz + 11) 11 64
  refine z_aast (t0 := 4) (ci := 5) (pc := 56) dX0_init_56 5 8 rfl rfl (by decide) rfl (show ¬ ((0 : Int32) < 0 ∨ 4 ≤ (0 : Int32).toNatClampNeg) by decide) (by omega) 11 rfl (by decide) (by omega) ?_
  show mi_Z G mX0_init 2 23 145 sz (fun ws => ws = wd_0 G h sz) 57 [(1, .int (0 : Int32)), (0, .ref h)] [] ((h, .inr (0, [.ref (sz), .ref (sz + 4), .ref (sz + 5), .ref (sz + 6), .int 0])) :: (wd_5 G (sz) (sz + 1) ++ ([(sz + 4, .inl (G.2.2 4, 4, .inr (.inr (.inr (.inr (va_up (fun _ => none) 0 (some (sz + 7))))))))] ++ ([(sz + 5, ai G 3)] ++ ([(sz + 6, ai G 3)] ++ (wd_5 G (sz + 7) (sz + 8) ++ [])))))) (sz + 11) 11 64
  refine z_iinc (q := 0) (ls' := [(1, .int (1 : Int32)), (0, .ref h)]) (pc := 57) dX0_init_57 rfl (v := (1 : Int32)) (by decide) rfl rfl ?_
  refine z_goto (pc := 60) dX0_init_60 (tgt := 39) (by decide) ?_
  refine z_iload (pc := 39) dX0_init_39 0 rfl ?_
  refine z_iconst (pc := 40) dX0_init_40 (v := (3 : Int32)) (by decide) ?_
  refine z_icmp_gt (pc := 41) dX0_init_41 (tgt := 63) (by decide) (fun hc => ?_) (fun hc => ?_)
  · exact absurd hc (by decide)
  refine z_aload (pc := 44) dX0_init_44 1 rfl ?_
  refine z_get (pc := 45) dX0_init_45 fX0_18 rfl ?_
  refine z_iload (pc := 48) dX0_init_48 0 rfl ?_
  refine z_new (ci := 5) (fs := [.int 0, .int 0, .int 0, .int 0, .null, .null, .null]) (pc := 49) dX0_init_49 (by decide) zc_0_9 zi_5 zn_5 bl_5 (by decide) (by decide) ?_
  refine z_dup (pc := 52) dX0_init_52 rfl ?_
  refine z_initN (pc := 53) dX0_init_53 zl_0_11 (by decide) (Nat.le_of_ble_eq_true rfl) (by decide) (by decide) (ci_5 G (sz + 11) (sz + 12)) ?_
  show mi_Z G mX0_init 2 23 145 sz (fun ws => ws = wd_0 G h sz) 56 [(1, .int (1 : Int32)), (0, .ref h)] [.ref (sz + 11), .int (1 : Int32), .ref (sz + 4)] ((h, .inr (0, [.ref (sz), .ref (sz + 4), .ref (sz + 5), .ref (sz + 6), .int 0])) :: (wd_5 G (sz) (sz + 1) ++ ([(sz + 4, .inl (G.2.2 4, 4, .inr (.inr (.inr (.inr (va_up (fun _ => none) 0 (some (sz + 7))))))))] ++ ([(sz + 5, ai G 3)] ++ ([(sz + 6, ai G 3)] ++ (wd_5 G (sz + 7) (sz + 8) ++ (wd_5 G (sz + 11) (sz + 12) ++ []))))))) (sz + 15) 15 91
  refine z_aast (t0 := 4) (ci := 5) (pc := 56) dX0_init_56 5 12 rfl rfl (by decide) rfl (show ¬ ((1 : Int32) < 0 ∨ 4 ≤ (1 : Int32).toNatClampNeg) by decide) (by omega) 15 rfl (by decide) (by omega) ?_
  show mi_Z G mX0_init 2 23 145 sz (fun ws => ws = wd_0 G h sz) 57 [(1, .int (1 : Int32)), (0, .ref h)] [] ((h, .inr (0, [.ref (sz), .ref (sz + 4), .ref (sz + 5), .ref (sz + 6), .int 0])) :: (wd_5 G (sz) (sz + 1) ++ ([(sz + 4, .inl (G.2.2 4, 4, .inr (.inr (.inr (.inr (va_up (va_up (fun _ => none) 0 (some (sz + 7))) 1 (some (sz + 11))))))))] ++ ([(sz + 5, ai G 3)] ++ ([(sz + 6, ai G 3)] ++ (wd_5 G (sz + 7) (sz + 8) ++ (wd_5 G (sz + 11) (sz + 12) ++ []))))))) (sz + 15) 15 91
  refine z_iinc (q := 0) (ls' := [(1, .int (2 : Int32)), (0, .ref h)]) (pc := 57) dX0_init_57 rfl (v := (2 : Int32)) (by decide) rfl rfl ?_
  refine z_goto (pc := 60) dX0_init_60 (tgt := 39) (by decide) ?_
  refine z_iload (pc := 39) dX0_init_39 0 rfl ?_
  refine z_iconst (pc := 40) dX0_init_40 (v := (3 : Int32)) (by decide) ?_
  refine z_icmp_gt (pc := 41) dX0_init_41 (tgt := 63) (by decide) (fun hc => ?_) (fun hc => ?_)
  · exact absurd hc (by decide)
  refine z_aload (pc := 44) dX0_init_44 1 rfl ?_
  refine z_get (pc := 45) dX0_init_45 fX0_18 rfl ?_
  refine z_iload (pc := 48) dX0_init_48 0 rfl ?_
  refine z_new (ci := 5) (fs := [.int 0, .int 0, .int 0, .int 0, .null, .null, .null]) (pc := 49) dX0_init_49 (by decide) zc_0_9 zi_5 zn_5 bl_5 (by decide) (by decide) ?_
  refine z_dup (pc := 52) dX0_init_52 rfl ?_
  refine z_initN (pc := 53) dX0_init_53 zl_0_11 (by decide) (Nat.le_of_ble_eq_true rfl) (by decide) (by decide) (ci_5 G (sz + 15) (sz + 16)) ?_
  show mi_Z G mX0_init 2 23 145 sz (fun ws => ws = wd_0 G h sz) 56 [(1, .int (2 : Int32)), (0, .ref h)] [.ref (sz + 15), .int (2 : Int32), .ref (sz + 4)] ((h, .inr (0, [.ref (sz), .ref (sz + 4), .ref (sz + 5), .ref (sz + 6), .int 0])) :: (wd_5 G (sz) (sz + 1) ++ ([(sz + 4, .inl (G.2.2 4, 4, .inr (.inr (.inr (.inr (va_up (va_up (fun _ => none) 0 (some (sz + 7))) 1 (some (sz + 11))))))))] ++ ([(sz + 5, ai G 3)] ++ ([(sz + 6, ai G 3)] ++ (wd_5 G (sz + 7) (sz + 8) ++ (wd_5 G (sz + 11) (sz + 12) ++ (wd_5 G (sz + 15) (sz + 16) ++ [])))))))) (sz + 19) 19 118
  refine z_aast (t0 := 4) (ci := 5) (pc := 56) dX0_init_56 5 16 rfl rfl (by decide) rfl (show ¬ ((2 : Int32) < 0 ∨ 4 ≤ (2 : Int32).toNatClampNeg) by decide) (by omega) 19 rfl (by decide) (by omega) ?_
  show mi_Z G mX0_init 2 23 145 sz (fun ws => ws = wd_0 G h sz) 57 [(1, .int (2 : Int32)), (0, .ref h)] [] ((h, .inr (0, [.ref (sz), .ref (sz + 4), .ref (sz + 5), .ref (sz + 6), .int 0])) :: (wd_5 G (sz) (sz + 1) ++ ([(sz + 4, .inl (G.2.2 4, 4, .inr (.inr (.inr (.inr (va_up (va_up (va_up (fun _ => none) 0 (some (sz + 7))) 1 (some (sz + 11))) 2 (some (sz + 15))))))))] ++ ([(sz + 5, ai G 3)] ++ ([(sz + 6, ai G 3)] ++ (wd_5 G (sz + 7) (sz + 8) ++ (wd_5 G (sz + 11) (sz + 12) ++ (wd_5 G (sz + 15) (sz + 16) ++ [])))))))) (sz + 19) 19 118
  refine z_iinc (q := 0) (ls' := [(1, .int (3 : Int32)), (0, .ref h)]) (pc := 57) dX0_init_57 rfl (v := (3 : Int32)) (by decide) rfl rfl ?_
  refine z_goto (pc := 60) dX0_init_60 (tgt := 39) (by decide) ?_
  refine z_iload (pc := 39) dX0_init_39 0 rfl ?_
  refine z_iconst (pc := 40) dX0_init_40 (v := (3 : Int32)) (by decide) ?_
  refine z_icmp_gt (pc := 41) dX0_init_41 (tgt := 63) (by decide) (fun hc => ?_) (fun hc => ?_)
  · exact absurd hc (by decide)
  refine z_aload (pc := 44) dX0_init_44 1 rfl ?_
  refine z_get (pc := 45) dX0_init_45 fX0_18 rfl ?_
  refine z_iload (pc := 48) dX0_init_48 0 rfl ?_
  refine z_new (ci := 5) (fs := [.int 0, .int 0, .int 0, .int 0, .null, .null, .null]) (pc := 49) dX0_init_49 (by decide) zc_0_9 zi_5 zn_5 bl_5 (by decide) (by decide) ?_
  refine z_dup (pc := 52) dX0_init_52 rfl ?_
  refine z_initN (pc := 53) dX0_init_53 zl_0_11 (by decide) (Nat.le_of_ble_eq_true rfl) (by decide) (by decide) (ci_5 G (sz + 19) (sz + 20)) ?_
  show mi_Z G mX0_init 2 23 145 sz (fun ws => ws = wd_0 G h sz) 56 [(1, .int (3 : Int32)), (0, .ref h)] [.ref (sz + 19), .int (3 : Int32), .ref (sz + 4)] ((h, .inr (0, [.ref (sz), .ref (sz + 4), .ref (sz + 5), .ref (sz + 6), .int 0])) :: (wd_5 G (sz) (sz + 1) ++ ([(sz + 4, .inl (G.2.2 4, 4, .inr (.inr (.inr (.inr (va_up (va_up (va_up (fun _ => none) 0 (some (sz + 7))) 1 (some (sz + 11))) 2 (some (sz + 15))))))))] ++ ([(sz + 5, ai G 3)] ++ ([(sz + 6, ai G 3)] ++ (wd_5 G (sz + 7) (sz + 8) ++ (wd_5 G (sz + 11) (sz + 12) ++ (wd_5 G (sz + 15) (sz + 16) ++ (wd_5 G (sz + 19) (sz + 20) ++ []))))))))) (sz + 23) 23 145
  refine z_aast (t0 := 4) (ci := 5) (pc := 56) dX0_init_56 5 20 rfl rfl (by decide) rfl (show ¬ ((3 : Int32) < 0 ∨ 4 ≤ (3 : Int32).toNatClampNeg) by decide) (by omega) 23 rfl (by decide) (by omega) ?_
  show mi_Z G mX0_init 2 23 145 sz (fun ws => ws = wd_0 G h sz) 57 [(1, .int (3 : Int32)), (0, .ref h)] [] ((h, .inr (0, [.ref (sz), .ref (sz + 4), .ref (sz + 5), .ref (sz + 6), .int 0])) :: (wd_5 G (sz) (sz + 1) ++ ([(sz + 4, .inl (G.2.2 4, 4, .inr (.inr (.inr (.inr (va_up (va_up (va_up (va_up (fun _ => none) 0 (some (sz + 7))) 1 (some (sz + 11))) 2 (some (sz + 15))) 3 (some (sz + 19))))))))] ++ ([(sz + 5, ai G 3)] ++ ([(sz + 6, ai G 3)] ++ (wd_5 G (sz + 7) (sz + 8) ++ (wd_5 G (sz + 11) (sz + 12) ++ (wd_5 G (sz + 15) (sz + 16) ++ (wd_5 G (sz + 19) (sz + 20) ++ []))))))))) (sz + 23) 23 145
  refine z_iinc (q := 0) (ls' := [(1, .int (4 : Int32)), (0, .ref h)]) (pc := 57) dX0_init_57 rfl (v := (4 : Int32)) (by decide) rfl rfl ?_
  refine z_goto (pc := 60) dX0_init_60 (tgt := 39) (by decide) ?_
  refine z_iload (pc := 39) dX0_init_39 0 rfl ?_
  refine z_iconst (pc := 40) dX0_init_40 (v := (3 : Int32)) (by decide) ?_
  refine z_icmp_gt (pc := 41) dX0_init_41 (tgt := 63) (by decide) (fun hc => ?_) (fun hc => ?_)
  rotate_left
  · exact absurd (by decide) hc
  exact z_ret (pc := 63) dX0_init_63 (by decide) (by decide) (by omega) rfl
