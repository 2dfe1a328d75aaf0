set_option maxRecDepth 100000 in
theorem mm_max : Cond.static Lib.Math.max.name ∈ mi_T ∧ Cond.initialized "java/lang/Math" ∈ mi_T ∧ Cond.code Lib.Math.max.name Lib.Math.max.code 2 (some .int) ∈ mi_T := ⟨mi_in 624 (by decide +kernel) rfl, mi_in 127 (by decide +kernel) rfl, mi_in 625 (by decide +kernel) rfl⟩
set_option maxRecDepth 100000 in
theorem lJ1_92 : Cond.methodLink RJ1 92 Lib.Math.max.name ∈ mi_T := mi_in 623 (by decide +kernel) rfl
set_option maxRecDepth 100000 in
theorem lJ2_224 : Cond.methodLink RJ2 224 Lib.Math.max.name ∈ mi_T := mi_in 635 (by decide +kernel) rfl
set_option maxRecDepth 100000 in
theorem lX11_306 : Cond.methodLink RX11 306 Lib.Math.max.name ∈ mi_T := mi_in 973 (by decide +kernel) rfl
set_option maxRecDepth 100000 in
theorem lX8_81 : Cond.methodLink RX8 81 Lib.Math.max.name ∈ mi_T := mi_in 974 (by decide +kernel) rfl
set_option maxRecDepth 100000 in
theorem lX5_77 : Cond.methodLink RX5 77 Lib.Math.max.name ∈ mi_T := mi_in 975 (by decide +kernel) rfl
set_option maxRecDepth 100000 in
theorem lX2_80 : Cond.methodLink RX2 80 Lib.Math.max.name ∈ mi_T := mi_in 1056 (by decide +kernel) rfl
set_option maxRecDepth 100000 in
theorem lX0_120 : Cond.methodLink RX0 120 Lib.Math.max.name ∈ mi_T := mi_in 1118 (by decide +kernel) rfl
set_option maxRecDepth 100000 in
theorem mm_min : Cond.static Lib.Math.min.name ∈ mi_T ∧ Cond.initialized "java/lang/Math" ∈ mi_T ∧ Cond.code Lib.Math.min.name Lib.Math.min.code 2 (some .int) ∈ mi_T := ⟨mi_in 627 (by decide +kernel) rfl, mi_in 127 (by decide +kernel) rfl, mi_in 628 (by decide +kernel) rfl⟩
set_option maxRecDepth 100000 in
theorem lJ1_38 : Cond.methodLink RJ1 38 Lib.Math.min.name ∈ mi_T := mi_in 626 (by decide +kernel) rfl
set_option maxRecDepth 100000 in
theorem lJ2_183 : Cond.methodLink RJ2 183 Lib.Math.min.name ∈ mi_T := mi_in 636 (by decide +kernel) rfl
set_option maxRecDepth 100000 in
theorem lX9_62 : Cond.methodLink RX9 62 Lib.Math.min.name ∈ mi_T := mi_in 898 (by decide +kernel) rfl
set_option maxRecDepth 100000 in
theorem lX3_42 : Cond.methodLink RX3 42 Lib.Math.min.name ∈ mi_T := mi_in 947 (by decide +kernel) rfl
set_option maxRecDepth 100000 in
theorem lX11_301 : Cond.methodLink RX11 301 Lib.Math.min.name ∈ mi_T := mi_in 972 (by decide +kernel) rfl
set_option maxRecDepth 100000 in
theorem lX5_98 : Cond.methodLink RX5 98 Lib.Math.min.name ∈ mi_T := mi_in 989 (by decide +kernel) rfl
set_option maxRecDepth 100000 in
theorem lX8_87 : Cond.methodLink RX8 87 Lib.Math.min.name ∈ mi_T := mi_in 994 (by decide +kernel) rfl
set_option maxRecDepth 100000 in
theorem lX2_161 : Cond.methodLink RX2 161 Lib.Math.min.name ∈ mi_T := mi_in 1159 (by decide +kernel) rfl
set_option maxRecDepth 100000 in
theorem mm_ac : Cond.native arraycopyName ∈ mi_T ∧ Cond.static arraycopyName ∈ mi_T ∧ Cond.initialized "java/lang/System" ∈ mi_T := ⟨mi_in 946 (by decide +kernel) rfl, mi_in 945 (by decide +kernel) rfl, mi_in 131 (by decide +kernel) rfl⟩
set_option maxRecDepth 100000 in
theorem lX5_46 : Cond.methodLink RX5 46 arraycopyName ∈ mi_T := mi_in 944 (by decide +kernel) rfl
set_option maxRecDepth 100000 in
theorem lX0_80 : Cond.methodLink RX0 80 arraycopyName ∈ mi_T := mi_in 1090 (by decide +kernel) rfl
set_option maxRecDepth 100000 in
theorem lX2_186 : Cond.methodLink RX2 186 arraycopyName ∈ mi_T := mi_in 1237 (by decide +kernel) rfl
/-- n ints of one array over the beginning of another -/
def mi_cp (m : mi_M) (k1 i1 k2 i2 n : Nat) : mi_M := (fun a b c => if a = k2 ∧ b = i2 ∧ c < n then m.1 k1 i1 c else m.1 a b c, m.2)
section ME
variable {y : mi_MD} {d pc : Nat} {ls ls' : List (Nat × mi_V)} {st : List mi_V} {mem : mi_M} {Q : Option mi_V → mi_M → Prop}
theorem x_mmax {index : Nat} {x z : Int32} (hd : decode y.2.1 pc = .ok (.invokestatic index, 3)) (hm : Cond.methodLink y.1.cls index Lib.Math.max.name ∈ mi_T) (hdd : 0 < d) (hst : Nat.ble (mi_sz st) 8 = true) (kk : mi_X y d (pc + 3) ls (vi (if x < z then z else x) :: st) mem Q) : mi_X y d pc ls (vi z :: vi x :: st) mem Q := by
  intro p l e R s m args below meth c H locs cells slots Z A G lsm C Rt hP hD hS hl
  obtain ⟨r1, r2, r3, r4⟩ := C.2.2.2.2.2.2.2.2.2.1
  have h8 := Nat.le_of_ble_eq_true hst
  exact va_mmax C.1 C.2.1 (C.2.2.1.trans hl.1.symm) C.2.2.2.2.2.1 (C.2.2.2.2.2.2.1 _ hm) (C.2.2.2.2.2.2.1 _ mm_max.1) (C.2.2.2.2.2.2.1 _ mm_max.2.1) (C.2.2.2.2.2.2.1 _ mm_max.2.2) (by omega) (by rw [mi_szcat]; omega) r3 r4 hd (kk p l e R s m args below meth c H locs cells slots Z A G lsm C Rt hP hD hS hl)
theorem x_mmin {index : Nat} {x z : Int32} (hd : decode y.2.1 pc = .ok (.invokestatic index, 3)) (hm : Cond.methodLink y.1.cls index Lib.Math.min.name ∈ mi_T) (hdd : 0 < d) (hst : Nat.ble (mi_sz st) 8 = true) (kk : mi_X y d (pc + 3) ls (vi (if z < x then z else x) :: st) mem Q) : mi_X y d pc ls (vi z :: vi x :: st) mem Q := by
  intro p l e R s m args below meth c H locs cells slots Z A G lsm C Rt hP hD hS hl
  obtain ⟨r1, r2, r3, r4⟩ := C.2.2.2.2.2.2.2.2.2.1
  have h8 := Nat.le_of_ble_eq_true hst
  exact va_mmin C.1 C.2.1 (C.2.2.1.trans hl.1.symm) C.2.2.2.2.2.1 (C.2.2.2.2.2.2.1 _ hm) (C.2.2.2.2.2.2.1 _ mm_min.1) (C.2.2.2.2.2.2.1 _ mm_min.2.1) (C.2.2.2.2.2.2.1 _ mm_min.2.2) (by omega) (by rw [mi_szcat]; omega) r3 r4 hd (kk p l e R s m args below meth c H locs cells slots Z A G lsm C Rt hP hD hS hl)
theorem x_acpy {index k1 i1 k2 i2 n1 n2 n : Nat} {x : Int32} (hd : decode y.2.1 pc = .ok (.invokestatic index, 3)) (hm : Cond.methodLink y.1.cls index arraycopyName ∈ mi_T) (hdd : 0 < d) (hst : Nat.ble (mi_sz st) 8 = true) (hA1 : mi_A k1 = (0, n1, 0, 0, 0)) (hA2 : mi_A k2 = (0, n2, 0, 0, 0)) (hk1 : Nat.ble 13 k1 = true) (hk2 : Nat.ble 13 k2 = true) (hi1 : i1 < mi_n k1) (hi2 : i2 < mi_n k2) (hn1 : n ≤ n1) (hn2 : n ≤ n2) (hn : Nat.ble n 2147483647 = true) (hx : x = nI n) (kk : mi_X y d (pc + 3) ls st (mi_cp mem k1 i1 k2 i2 n) Q) : mi_X y d pc ls (vi x :: vi 0 :: vr k2 i2 :: vi 0 :: vr k1 i1 :: st) mem Q := by
  intro p l e R s m args below meth c H locs cells slots Z A G lsm C Rt hP hD hS hl
  obtain ⟨r1, r2, r3, r4⟩ := C.2.2.2.2.2.2.2.2.2.1
  have h8 := Nat.le_of_ble_eq_true hst
  have hnn : n < 2 ^ 31 := by have := Nat.le_of_ble_eq_true hn; omega
  obtain ⟨q1, hq1⟩ := mi_at hi1
  obtain ⟨q2, hq2⟩ := mi_at hi2
  have he1 := mi_ws_at (G := G) (m := mem) hq1
  have he2 := mi_ws_at (G := G) (m := mem) hq2
  rw [mi_c_a hk1] at he1
  rw [mi_c_a hk2] at he2
  unfold mi_ac at he1 he2
  rw [hA1] at he1
  rw [hA2] at he2
  subst hx
  have h7 : nativeFrameWords "java/lang/System" "arraycopy" 5 = 7 := by decide
  have hloc : mi_sz st + (nativeFrameWords "java/lang/System" "arraycopy" 5 + 11) ≤ R.locals := by rw [h7]; omega
  have h0 : (0 : Int32).toNatClampNeg = 0 := rfl
  refine va_copyi (sp := 0) (dp := 0) (n := nI n) C.1 C.2.1 (C.2.2.1.trans hl.1.symm) C.2.2.2.2.2.1 (C.2.2.2.2.2.2.1 _ hm) (C.2.2.2.2.2.2.1 _ mm_ac.1) (C.2.2.2.2.2.2.1 _ mm_ac.2.1) (C.2.2.2.2.2.2.1 _ mm_ac.2.2) C.2.2.2.2.2.2.2.1 hP hD hS q1 q2 0 0 he1 he2 rfl rfl rfl (by decide) (by decide) (nI_pos hnn) (by rw [nI_clamp hnn, h0]; omega) (by rw [nI_clamp hnn, h0]; omega) (fun _ _ => rfl) (by omega) (by rw [mi_szcat]; exact hloc) hd (fun H1 locs1 hP1 hD1 hS1 => ?_)
  have ee : (mi_ws G mem).set q2 (G.2.1 k2 i2, .inl (G.2.2 0, n2, .inl (va_cpy (mem.1 k1 i1) (mem.1 k2 i2) (0 : Int32).toNatClampNeg (0 : Int32).toNatClampNeg (nI n).toNatClampNeg))) = mi_ws G (mi_cp mem k1 i1 k2 i2 n) := by
    have e2 : mi_c G (mi_cp mem k1 i1 k2 i2 n) (k2, i2) = .inl (G.2.2 0, n2, .inl (va_cpy (mem.1 k1 i1) (mem.1 k2 i2) (0 : Int32).toNatClampNeg (0 : Int32).toNatClampNeg (nI n).toNatClampNeg)) := by
      rw [mi_c_a hk2]
      unfold mi_ac
      rw [hA2]
      show (Sum.inl (G.2.2 0, n2, .inl ((mi_cp mem k1 i1 k2 i2 n).1 k2 i2)) : va_E) = _
      have ef : (mi_cp mem k1 i1 k2 i2 n).1 k2 i2 = va_cpy (mem.1 k1 i1) (mem.1 k2 i2) (0 : Int32).toNatClampNeg (0 : Int32).toNatClampNeg (nI n).toNatClampNeg := by
        funext c2
        rw [nI_clamp hnn, show (0 : Int32).toNatClampNeg = 0 from rfl]
        simp [mi_cp, va_cpy]
      rw [ef]
    rw [← e2]
    refine mi_ws_set2 hq2 (fun q2 _ h2 => mi_c_congr (fun p' => ?_) (fun _ => rfl) (Or.inr fun _ => rfl))
    show (if q2.1 = k2 ∧ q2.2 = i2 ∧ p' < n then _ else _) = _
    rw [if_neg]
    rintro ⟨h3, h4, -⟩
    exact h2 (Prod.ext h3 h4)
  rw [ee] at hP1 hD1
  exact kk p l e R s m args below meth c H1 locs1 cells slots Z A G lsm C Rt hP1 hD1 hS1 hl
theorem x_gsV {index n : Nat} (hd : decode y.2.1 pc = .ok (.getfield index, 3)) (hf : Cond.fieldLink y.1.cls index "java/lang/String" "value" "[B" ∈ mi_T) (hn : n < 12) (kk : mi_X y d (pc + 3) ls (vr 301 n :: st) mem Q) : mi_X y d pc ls (vr 300 n :: st) mem Q := by
  intro p l e R s m args below meth c H locs cells slots Z A G lsm C Rt hP hD hS hl
  exact vk_getf C.1 C.2.1 (((C.2.2.2.2.2.2.2.2.2.2).1).1 n hn).2.2.1 hS C.2.2.2.2.2.1 (C.2.2.2.2.2.2.1 _ hf) (fun _ h => h) hd (kk p l e R s m args below meth c H locs cells slots Z A G lsm C Rt hP hD hS hl)
theorem x_gsC {index n : Nat} (hd : decode y.2.1 pc = .ok (.getfield index, 3)) (hf : Cond.fieldLink y.1.cls index "java/lang/String" "coder" "B" ∈ mi_T) (hn : n < 12) (kk : mi_X y d (pc + 3) ls (vi 0 :: st) mem Q) : mi_X y d pc ls (vr 300 n :: st) mem Q := by
  intro p l e R s m args below meth c H locs cells slots Z A G lsm C Rt hP hD hS hl
  exact vk_getf C.1 C.2.1 (((C.2.2.2.2.2.2.2.2.2.2).1).1 n hn).2.1 hS C.2.2.2.2.2.1 (C.2.2.2.2.2.2.1 _ hf) (fun _ h => h) hd (kk p l e R s m args below meth c H locs cells slots Z A G lsm C Rt hP hD hS hl)
theorem x_gst {index : Nat} (hd : decode y.2.1 pc = .ok (.getstatic index, 3)) (hf : Cond.fieldLink y.1.cls index "java/lang/String" "COMPACT_STRINGS" "Z" ∈ mi_T) (kk : mi_X y d (pc + 3) ls (vi 1 :: st) mem Q) : mi_X y d pc ls st mem Q := by
  intro p l e R s m args below meth c H locs cells slots Z A G lsm C Rt hP hD hS hl
  exact va_gets C.1 C.2.1 (C.2.2.2.2.2.2.2.2.2.2).2.2.1 hS C.2.2.2.2.2.1 (C.2.2.2.2.2.2.1 _ hf) (fun _ h => h) hd (kk p l e R s m args below meth c H locs cells slots Z A G lsm C Rt hP hD hS hl)
def mi_sb (n t : Nat) : Int32 := (mi_byt.getD n []).getD t 0
def mi_sn (n : Nat) : Nat := mi_len.getD n 0
theorem x_tbJ {n : Nat} {j : Int32} (hd : decode y.2.1 pc = .ok (.baload, 1)) (hn : n < 12) (hin : vp_in j (mi_sn n)) (kk : mi_X y d (pc + 1) ls (vi (mi_sb n j.toNatClampNeg) :: st) mem Q) : mi_X y d pc ls (vi j :: vr 301 n :: st) mem Q := by
  intro p l e R s m args below meth c H locs cells slots Z A G lsm C Rt hP hD hS hl
  exact va_tb C.1 C.2.1 (((C.2.2.2.2.2.2.2.2.2.2).1).1 n hn).2.2.2 hS hin rfl hd (kk p l e R s m args below meth c H locs cells slots Z A G lsm C Rt hP hD hS hl)
theorem x_tln {n : Nat} (hd : decode y.2.1 pc = .ok (.arraylength, 1)) (hn : n < 12) (kk : mi_X y d (pc + 1) ls (vi (nI (mi_sn n)) :: st) mem Q) : mi_X y d pc ls (vr 301 n :: st) mem Q := by
  intro p l e R s m args below meth c H locs cells slots Z A G lsm C Rt hP hD hS hl
  exact va_tlen C.1 C.2.1 (((C.2.2.2.2.2.2.2.2.2.2).1).1 n hn).2.2.2 hS rfl hd (kk p l e R s m args below meth c H locs cells slots Z A G lsm C Rt hP hD hS hl)
def mi_lt (own : String) (index : Nat) (y' : mi_MD) (n : Nat) : Prop := y'.1.cls = "java/lang/String" ∧ (Cond.methodLink own index y'.1 ∈ mi_T ∧ Cond.instanceMethod y'.1 ∈ mi_T ∧ Cond.selects y'.1.cls y'.1 y'.1 ∈ mi_T ∧ Cond.initialized y'.1.cls ∈ mi_T ∧ Cond.code y'.1 y'.2.1 y'.2.2.1 y'.2.2.2 ∈ mi_T) ∧ (y'.1.cls ≠ "java/lang/invoke/MethodHandle" ∧ y'.1.cls ≠ "java/lang/invoke/VarHandle" ∧ (parseMethodDescriptor y'.1.desc).map (fun d => d.parameters.length) = some n) ∧ y'.2.2.1 ≤ 40
theorem x_callT {index n i d' : Nat} {y' : mi_MD} {av : List mi_V} {Q1 : Option mi_V → mi_M → Prop} (hd : decode y.2.1 pc = .ok (.invokevirtual index, 3)) (hm : mi_lt y.1.cls index y' n) (hn : av.length = n) (hi : i < 12) (hdd : d' < d) (hst : Nat.ble (mi_sz st) 8 = true) (hc : mi_C d' y' (vr 300 i :: av) mem Q1) (kk : ∀ r m', Q1 r m' → mi_X y d (pc + 3) ls (r.toList ++ st) m' Q) : mi_X y d pc ls (av.reverse ++ vr 300 i :: st) mem Q := by
  intro p l e R s m args below meth c H locs cells slots Z A G lsm C Rt hP hD hS hl
  obtain ⟨hcls, ⟨w1, w2, w3, w4, w5⟩, hnm, hmax⟩ := hm
  have hts := C.2.2.2.2.2.2.1
  have hAA := mi_AA (mem := mem) (G := G) C.2.2.2.2.2.2.2.2.1 hD hS
  obtain ⟨r1, r2, r3, r4⟩ := C.2.2.2.2.2.2.2.2.2.1
  have hM := hc l G H.size
  have cw : CallW R s args y.1.cls y'.1.cls index y'.1 y'.2.1 y'.2.2.1 y'.2.2.2 (mi_yw y') (mi_rm d') 0 0 n := ⟨callB_of n hts (mi_goodY w5) rfl rfl rfl (hts _ w4) (hts _ w1) hnm ⟨by show d' + 1 ≤ _; omega, by show 8 + (y'.2.2.1 + 11) + 64 * d' ≤ _; omega⟩, hts _ w2, hts _ w3⟩
  have hp : PreV s H y'.1.cls (G.2.1 300 i) (va_Pc ((vr 300 i :: av).map (mi_tv G.2.1)) (mi_Wd G mem H.size)) (av.map (mi_tv G.2.1)) := by
    refine ⟨mi_blind, ?_, fun U hU hW => ⟨rfl, by rw [hU], by rw [hU]; exact hP, va_K.moved hW.alike C.2.2.2.2.2.2.2.1, ⟨hD.1, fun _ _ _ => trivial⟩, (C.2.2.2.2.2.2.2.2.2.2).at hS hU hW hAA⟩⟩
    rw [hcls]
    exact vk_recv ((C.2.2.2.2.2.2.2.2.2.2).1) hi hS
  have es : (av.reverse ++ vr 300 i :: st).map (mi_tv G.2.1) = (av.map (mi_tv G.2.1)).reverse ++ .ref (G.2.1 300 i) :: st.map (mi_tv G.2.1) := by
    rw [List.map_append, List.map_reverse]
    rfl
  rw [es]
  exact mi_back C Rt hD hS hl (va_runV (S := ⟨C.1, C.2.1, C.2.2.1, C.2.2.2.2.2.1, hts⟩) hM cw hp rfl (by rw [List.length_map]; exact hn) hl.1 rfl (lv_room (by rw [mi_szcat]; exact Nat.le_of_ble_eq_true hst)) hd ⟨r3, r4⟩) kk
end ME
set_option maxRecDepth 100000 in
theorem fJ0_38 : Cond.fieldLink RJ0 38 "java/lang/String" "COMPACT_STRINGS" "Z" ∈ mi_T := mi_in 607 (by decide +kernel) rfl
set_option maxRecDepth 100000 in
theorem fJ0_15 : Cond.fieldLink RJ0 15 "java/lang/String" "coder" "B" ∈ mi_T := mi_in 2028 (by decide +kernel) rfl
set_option maxRecDepth 100000 in
theorem fJ0_9 : Cond.fieldLink RJ0 9 "java/lang/String" "value" "[B" ∈ mi_T := mi_in 2029 (by decide +kernel) rfl
set_option maxRecDepth 100000 in
theorem tX6_52 : mi_lt RX6 52 mJ0_indexOf_0f7a4 1 := ⟨rfl, ⟨mi_in 595 (by decide +kernel) rfl, mi_in 596 (by decide +kernel) rfl, mi_in 597 (by decide +kernel) rfl, mi_in 125 (by decide +kernel) rfl, mi_in 598 (by decide +kernel) rfl⟩, ⟨by decide +kernel, by decide +kernel, by decide +kernel⟩, by decide⟩
set_option maxRecDepth 100000 in
theorem tJ0_633 : mi_lt RJ0 633 mJ0_indexOf_7cf53 2 := ⟨rfl, ⟨mi_in 599 (by decide +kernel) rfl, mi_in 600 (by decide +kernel) rfl, mi_in 601 (by decide +kernel) rfl, mi_in 125 (by decide +kernel) rfl, mi_in 602 (by decide +kernel) rfl⟩, ⟨by decide +kernel, by decide +kernel, by decide +kernel⟩, by decide⟩
set_option maxRecDepth 100000 in
theorem tJ0_492 : mi_lt RJ0 492 mJ0_isLatin1_aae02 0 := ⟨rfl, ⟨mi_in 603 (by decide +kernel) rfl, mi_in 604 (by decide +kernel) rfl, mi_in 605 (by decide +kernel) rfl, mi_in 125 (by decide +kernel) rfl, mi_in 606 (by decide +kernel) rfl⟩, ⟨by decide +kernel, by decide +kernel, by decide +kernel⟩, by decide⟩
set_option maxRecDepth 100000 in
theorem tJ0_505 : mi_lt RJ0 505 mJ0_length_8abf5 0 := ⟨rfl, ⟨mi_in 609 (by decide +kernel) rfl, mi_in 610 (by decide +kernel) rfl, mi_in 611 (by decide +kernel) rfl, mi_in 125 (by decide +kernel) rfl, mi_in 612 (by decide +kernel) rfl⟩, ⟨by decide +kernel, by decide +kernel, by decide +kernel⟩, by decide⟩
set_option maxRecDepth 100000 in
theorem tJ0_335 : mi_lt RJ0 335 mJ0_coder_7d493 0 := ⟨rfl, ⟨mi_in 613 (by decide +kernel) rfl, mi_in 614 (by decide +kernel) rfl, mi_in 615 (by decide +kernel) rfl, mi_in 125 (by decide +kernel) rfl, mi_in 616 (by decide +kernel) rfl⟩, ⟨by decide +kernel, by decide +kernel, by decide +kernel⟩, by decide⟩
set_option maxRecDepth 100000 in
theorem tX6_62 : mi_lt RX6 62 mJ0_length_8abf5 0 := ⟨rfl, ⟨mi_in 686 (by decide +kernel) rfl, mi_in 610 (by decide +kernel) rfl, mi_in 611 (by decide +kernel) rfl, mi_in 125 (by decide +kernel) rfl, mi_in 612 (by decide +kernel) rfl⟩, ⟨by decide +kernel, by decide +kernel, by decide +kernel⟩, by decide⟩
set_option maxRecDepth 100000 in
theorem tX6_65 : mi_lt RX6 65 mJ0_charAt_5068e 1 := ⟨rfl, ⟨mi_in 687 (by decide +kernel) rfl, mi_in 688 (by decide +kernel) rfl, mi_in 689 (by decide +kernel) rfl, mi_in 125 (by decide +kernel) rfl, mi_in 690 (by decide +kernel) rfl⟩, ⟨by decide +kernel, by decide +kernel, by decide +kernel⟩, by decide⟩
