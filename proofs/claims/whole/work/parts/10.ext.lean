set_option maxRecDepth 100000 in
theorem mm_max : Cond.static Lib.Math.max.name ∈ mi_T ∧ Cond.initialized "java/lang/Math" ∈ mi_T ∧ Cond.code Lib.Math.max.name Lib.Math.max.code 2 (some .int) ∈ mi_T := ⟨mi_in 624 (by decide +kernel) rfl, mi_in 127 (by decide +kernel) rfl, mi_in 625 (by decide +kernel) rfl⟩
set_option maxRecDepth 100000 in
theorem lJ1_92 : Cond.methodLink RJ1 92 Lib.Math.max.name ∈ mi_T := mi_in 623 (by decide +kernel) rfl
set_option maxRecDepth 100000 in
theorem lJ2_224 : Cond.methodLink RJ2 224 Lib.Math.max.name ∈ mi_T := mi_in 635 (by decide +kernel) rfl
set_option maxRecDepth 100000 in
theorem lX11_306 : Cond.methodLink RX11 306 Lib.Math.max.name ∈ mi_T := mi_in 973 (by decide +kernel) rfl
set_option maxRecDepth 100000 in
theorem lX8_81 : Cond.methodLink RX8 81 Lib.Math.max.name ∈ mi_T := mi_in 974 (by decide +kernel) rfl
set_option maxRecDepth 100000 in
theorem lX5_77 : Cond.methodLink RX5 77 Lib.Math.max.name ∈ mi_T := mi_in 975 (by decide +kernel) rfl
set_option maxRecDepth 100000 in
theorem lX2_80 : Cond.methodLink RX2 80 Lib.Math.max.name ∈ mi_T := mi_in 1056 (by decide +kernel) rfl
set_option maxRecDepth 100000 in
theorem lX0_120 : Cond.methodLink RX0 120 Lib.Math.max.name ∈ mi_T := mi_in 1118 (by decide +kernel) rfl
set_option maxRecDepth 100000 in
theorem mm_min : Cond.static Lib.Math.min.name ∈ mi_T ∧ Cond.initialized "java/lang/Math" ∈ mi_T ∧ Cond.code Lib.Math.min.name Lib.Math.min.code 2 (some .int) ∈ mi_T := ⟨mi_in 627 (by decide +kernel) rfl, mi_in 127 (by decide +kernel) rfl, mi_in 628 (by decide +kernel) rfl⟩
set_option maxRecDepth 100000 in
theorem lJ1_38 : Cond.methodLink RJ1 38 Lib.Math.min.name ∈ mi_T := mi_in 626 (by decide +kernel) rfl
set_option maxRecDepth 100000 in
theorem lJ2_183 : Cond.methodLink RJ2 183 Lib.Math.min.name ∈ mi_T := mi_in 636 (by decide +kernel) rfl
set_option maxRecDepth 100000 in
theorem lX9_62 : Cond.methodLink RX9 62 Lib.Math.min.name ∈ mi_T := mi_in 898 (by decide +kernel) rfl
set_option maxRecDepth 100000 in
theorem lX3_42 : Cond.methodLink RX3 42 Lib.Math.min.name ∈ mi_T := mi_in 947 (by decide +kernel) rfl
set_option maxRecDepth 100000 in
theorem lX11_301 : Cond.methodLink RX11 301 Lib.Math.min.name ∈ mi_T := mi_in 972 (by decide +kernel) rfl
set_option maxRecDepth 100000 in
theorem lX5_98 : Cond.methodLink RX5 98 Lib.Math.min.name ∈ mi_T := mi_in 989 (by decide +kernel) rfl
set_option maxRecDepth 100000 in
theorem lX8_87 : Cond.methodLink RX8 87 Lib.Math.min.name ∈ mi_T := mi_in 994 (by decide +kernel) rfl
set_option maxRecDepth 100000 in
theorem lX2_161 : Cond.methodLink RX2 161 Lib.Math.min.name ∈ mi_T := mi_in 1159 (by decide +kernel) rfl
set_option maxRecDepth 100000 in
theorem mm_ac : Cond.native arraycopyName ∈ mi_T ∧ Cond.static arraycopyName ∈ mi_T ∧ Cond.initialized "java/lang/System" ∈ mi_T := ⟨mi_in 946 (by decide +kernel) rfl, mi_in 945 (by decide +kernel) rfl, mi_in 131 (by decide +kernel) rfl⟩
set_option maxRecDepth 100000 in
theorem lX5_46 : Cond.methodLink RX5 46 arraycopyName ∈ mi_T := mi_in 944 (by decide +kernel) rfl
set_option maxRecDepth 100000 in
theorem lX0_80 : Cond.methodLink RX0 80 arraycopyName ∈ mi_T := mi_in 1090 (by decide +kernel) rfl
set_option maxRecDepth 100000 in
theorem lX2_186 : Cond.methodLink RX2 186 arraycopyName ∈ mi_T := mi_in 1237 (by decide +kernel) rfl
/-- n ints of one array over the beginning of another -/
def mi_cp (m : mi_M) (k1 i1 k2 i2 n : Nat) : mi_M := (fun a b c => if a = k2 ∧ b = i2 ∧ c < n then m.1 k1 i1 c else m.1 a b c, m.2)
section ME
variable {y : mi_MD} {d pc : Nat} {ls ls' : List (Nat × mi_V)} {st : List mi_V} {mem : mi_M} {Q : Option mi_V → mi_M → Prop}
theorem x_mmax {index : Nat} {x z : Int32} (hd : decode y.2.1 pc = .ok (.invokestatic index, 3)) (hm : Cond.methodLink y.1.cls index Lib.Math.max.name ∈ mi_T) (hdd : 0 < d) (hst : Nat.ble (mi_sz st) 8 = true) (kk : mi_X y d (pc + 3) ls (vi (if x < z then z else x) :: st) mem Q) : mi_X y d pc ls (vi z :: vi x :: st) mem Q := by
  intro p l e R s m args below meth c H locs cells slots Z A G lsm C Rt hP hD hS hl
  obtain ⟨r1, r2, r3, r4⟩ := C.2.2.2.2.2.2.2.2.2.1
  have h8 := Nat.le_of_ble_eq_true hst
  exact va_mmax C.1 C.2.1 (C.2.2.1.trans hl.1.symm) C.2.2.2.2.2.1 (C.2.2.2.2.2.2.1 _ hm) (C.2.2.2.2.2.2.1 _ mm_max.1) (C.2.2.2.2.2.2.1 _ mm_max.2.1) (C.2.2.2.2.2.2.1 _ mm_max.2.2) (by omega) (by rw [mi_szcat]; omega) r3 r4 hd (kk p l e R s m args below meth c H locs cells slots Z A G lsm C Rt hP hD hS hl)
theorem x_mmin {index : Nat} {x z : Int32} (hd : decode y.2.1 pc = .ok (.invokestatic index, 3)) (hm : Cond.methodLink y.1.cls index Lib.Math.min.name ∈ mi_T) (hdd : 0 < d) (hst : Nat.ble (mi_sz st) 8 = true) (kk : mi_X y d (pc + 3) ls (vi (if z < x then z else x) :: st) mem Q) : mi_X y d pc ls (vi z :: vi x :: st) mem Q := by
  intro p l e R s m args below meth c H locs cells slots Z A G lsm C Rt hP hD hS hl
  obtain ⟨r1, r2, r3, r4⟩ := C.2.2.2.2.2.2.2.2.2.1
  have h8 := Nat.le_of_ble_eq_true hst
  exact va_mmin C.1 C.2.1 (C.2.2.1.trans hl.1.symm) C.2.2.2.2.2.1 (C.2.2.2.2.2.2.1 _ hm) (C.2.2.2.2.2.2.1 _ mm_min.1) (C.2.2.2.2.2.2.1 _ mm_min.2.1) (C.2.2.2.2.2.2.1 _ mm_min.2.2) (by omega) (by rw [mi_szcat]; omega) r3 r4 hd (kk p l e R s m args below meth c H locs cells slots Z A G lsm C Rt hP hD hS hl)
theorem x_acpy {index k1 i1 k2 i2 n1 n2 n : Nat} {x : Int32} (hd : decode y.2.1 pc = .ok (.invokestatic index, 3)) (hm : Cond.methodLink y.1.cls index arraycopyName ∈ mi_T) (hdd : 0 < d) (hst : Nat.ble (mi_sz st) 8 = true) (hA1 : mi_A k1 = (0, n1, 0, 0, 0)) (hA2 : mi_A k2 = (0, n2, 0, 0, 0)) (hk1 : Nat.ble 13 k1 = true) (hk2 : Nat.ble 13 k2 = true) (hi1 : i1 < mi_n k1) (hi2 : i2 < mi_n k2) (hn1 : n ≤ n1) (hn2 : n ≤ n2) (hn : Nat.ble n 2147483647 = true) (hx : x = nI n) (kk : mi_X y d (pc + 3) ls st (mi_cp mem k1 i1 k2 i2 n) Q) : mi_X y d pc ls (vi x :: vi 0 :: vr k2 i2 :: vi 0 :: vr k1 i1 :: st) mem Q := by
  intro p l e R s m args below meth c H locs cells slots Z A G lsm C Rt hP hD hS hl
  obtain ⟨r1, r2, r3, r4⟩ := C.2.2.2.2.2.2.2.2.2.1
  have h8 := Nat.le_of_ble_eq_true hst
  have hnn : n < 2 ^ 31 := by have := Nat.le_of_ble_eq_true hn; omega
  obtain ⟨q1, hq1⟩ := mi_at hi1
  obtain ⟨q2, hq2⟩ := mi_at hi2
  have he1 := mi_ws_at (G := G) (m := mem) hq1
  have he2 := mi_ws_at (G := G) (m := mem) hq2
  rw [mi_c_a hk1] at he1
  rw [mi_c_a hk2] at he2
  unfold mi_ac at he1 he2
  rw [hA1] at he1
  rw [hA2] at he2
  subst hx
  have h7 : nativeFrameWords "java/lang/System" "arraycopy" 5 = 7 := by decide
  have hloc : mi_sz st + (nativeFrameWords "java/lang/System" "arraycopy" 5 + 11) ≤ R.locals := by rw [h7]; omega
  have h0 : (0 : Int32).toNatClampNeg = 0 := rfl
  refine va_copyi (sp := 0) (dp := 0) (n := nI n) C.1 C.2.1 (C.2.2.1.trans hl.1.symm) C.2.2.2.2.2.1 (C.2.2.2.2.2.2.1 _ hm) (C.2.2.2.2.2.2.1 _ mm_ac.1) (C.2.2.2.2.2.2.1 _ mm_ac.2.1) (C.2.2.2.2.2.2.1 _ mm_ac.2.2) C.2.2.2.2.2.2.2.1 hP hD hS q1 q2 0 0 he1 he2 rfl rfl rfl (by decide) (by decide) (nI_pos hnn) (by rw [nI_clamp hnn, h0]; omega) (by rw [nI_clamp hnn, h0]; omega) (fun _ _ => rfl) (by omega) (by rw [mi_szcat]; exact hloc) hd (fun H1 locs1 hP1 hD1 hS1 => ?_)
  have ee : (mi_ws G mem).set q2 (G.2.1 k2 i2, .inl (G.2.2 0, n2, .inl (va_cpy (mem.1 k1 i1) (mem.1 k2 i2) (0 : Int32).toNatClampNeg (0 : Int32).toNatClampNeg (nI n).toNatClampNeg))) = mi_ws G (mi_cp mem k1 i1 k2 i2 n) := by
    have e2 : mi_c G (mi_cp mem k1 i1 k2 i2 n) (k2, i2) = .inl (G.2.2 0, n2, .inl (va_cpy (mem.1 k1 i1) (mem.1 k2 i2) (0 : Int32).toNatClampNeg (0 : Int32).toNatClampNeg (nI n).toNatClampNeg)) := by
      rw [mi_c_a hk2]
      unfold mi_ac
      rw [hA2]
      show (Sum.inl (G.2.2 0, n2, .inl ((mi_cp mem k1 i1 k2 i2 n).1 k2 i2)) : va_E) = _
      have ef : (mi_cp mem k1 i1 k2 i2 n).1 k2 i2 = va_cpy (mem.1 k1 i1) (mem.1 k2 i2) (0 : Int32).toNatClampNeg (0 : Int32).toNatClampNeg (nI n).toNatClampNeg := by
        funext c2
        rw [nI_clamp hnn, show (0 : Int32).toNatClampNeg = 0 from rfl]
        simp [mi_cp, va_cpy]
      rw [ef]
    rw [← e2]
    refine mi_ws_set2 hq2 (fun q2 _ h2 => mi_c_congr (fun p' => ?_) (fun _ => rfl) (Or.inr fun _ => rfl))
    show (if q2.1 = k2 ∧ q2.2 = i2 ∧ p' < n then _ else _) = _
    rw [if_neg]
    rintro ⟨h3, h4, -⟩
    exact h2 (Prod.ext h3 h4)
  rw [ee] at hP1 hD1
  exact kk p l e R s m args below meth c H1 locs1 cells slots Z A G lsm C Rt hP1 hD1 hS1 hl
end ME
