/-! ===== a light logic over the worlds: values, references by (kind, index), memory as functions ===== -/
abbrev mi_V : Type := Int32 ⊕ Int64 ⊕ (Nat × Nat)
abbrev vi (x : Int32) : mi_V := Sum.inl x
abbrev vl (x : Int64) : mi_V := Sum.inr (Sum.inl x)
abbrev vr (k i : Nat) : mi_V := Sum.inr (Sum.inr (k, i))
/-- memory: ints by kind, index, place; longs; the mutable references -/
abbrev mi_M : Type := (Nat → Nat → Nat → Int32) × (Nat → Nat → Nat → Int64) × (Nat → Nat)
def mi_tv (ad : Nat → Nat → Nat) (v : mi_V) : Value := match v with
  | .inl x => .int x
  | .inr (.inl x) => .long x
  | .inr (.inr q) => .ref (ad q.1 q.2)
def mi_wI (m : mi_M) (k i p : Nat) (v : Int32) : mi_M := (fun a b c => if a = k ∧ b = i ∧ c = p then v else m.1 a b c, m.2)
def mi_wL (m : mi_M) (k i p : Nat) (v : Int64) : mi_M := (m.1, fun a b c => if a = k ∧ b = i ∧ c = p then v else m.2.1 a b c, m.2.2)
def mi_wR (m : mi_M) (p v : Nat) : mi_M := (m.1, m.2.1, fun a => if a = p then v else m.2.2 a)
/-- fields: (tag, kind, place): 0 an int, 1 a long, 2 the cell of that kind and the same index, 3 that cell, 4 the mutable reference at that place -/
def mi_Fl : List (List (Nat × Nat × Nat)) := [[(3, 5, 21), (2, 13, 0), (2, 14, 0), (2, 15, 0), (0, 0, 0)], [(2, 16, 0), (2, 17, 0), (2, 18, 0), (2, 19, 0), (0, 0, 0)], [(2, 20, 0), (2, 21, 0), (2, 22, 0), (2, 23, 0), (2, 24, 0), (2, 25, 0), (2, 26, 0), (2, 27, 0)], [(0, 0, 0), (0, 0, 0), (0, 0, 0), (2, 28, 0), (2, 29, 0), (2, 30, 0)], [(0, 0, 0), (2, 31, 0), (2, 32, 0), (2, 33, 0)], [(0, 0, 0), (0, 0, 0), (0, 0, 0), (0, 0, 0), (2, 34, 0), (2, 35, 0), (2, 36, 0)], [(0, 0, 0), (0, 0, 0), (0, 0, 0), (0, 0, 0), (1, 0, 0), (2, 37, 0), (0, 0, 0)], [(3, 6, 0), (0, 0, 0)], [(0, 0, 0), (0, 0, 0), (0, 0, 0), (0, 0, 0), (0, 0, 0), (2, 38, 0), (2, 39, 0), (2, 40, 0), (2, 41, 0), (2, 42, 0), (2, 43, 0), (2, 1, 0), (2, 9, 0)], [(0, 0, 0), (0, 0, 0), (2, 44, 0), (2, 45, 0), (2, 46, 0), (2, 47, 0), (1, 0, 0)], [(0, 0, 0), (2, 48, 0), (2, 49, 0), (2, 50, 0)], [(3, 7, 0), (3, 5, 0), (3, 3, 0), (3, 4, 0), (3, 0, 0), (3, 2, 0), (4, 8, 0), (4, 8, 1), (4, 10, 2), (4, 10, 3)], [(0, 0, 0), (2, 51, 0), (0, 0, 0), (0, 0, 0), (2, 52, 0), (2, 53, 0), (2, 54, 0), (0, 0, 0), (0, 0, 0), (2, 55, 0), (2, 56, 0), (2, 57, 0), (2, 58, 0), (0, 0, 0), (2, 59, 0), (2, 60, 0), (0, 0, 0), (0, 0, 0), (2, 61, 0), (2, 62, 0), (2, 63, 0), (2, 64, 0), (0, 0, 0), (2, 65, 0), (0, 0, 0), (2, 66, 0), (2, 67, 0), (2, 68, 0), (2, 69, 0), (2, 70, 0), (2, 71, 0), (0, 0, 0), (2, 72, 0), (2, 73, 0), (0, 0, 0), (0, 0, 0), (0, 0, 0), (2, 74, 0), (2, 75, 0), (1, 0, 0)]]
def mi_F (k f : Nat) : Nat × Nat × Nat := (mi_Fl.getD k []).getD f (9, 0, 0)
/-- arrays: (tag, length, kind, mul, off): 0 int, 1 long, 2 byte, 3 boolean, 4 State, 5 Sights, 6 int[] -/
def mi_Al : List (Nat × Nat × Nat × Nat × Nat) := [(4, 4, 5, 0, 22), (0, 3, 0, 0, 0), (0, 3, 0, 0, 0), (0, 1003, 0, 0, 0), (0, 3, 0, 0, 0), (0, 3, 0, 0, 0), (0, 40, 0, 0, 0), (0, 8, 0, 0, 0), (0, 8, 0, 0, 0), (0, 6, 0, 0, 0), (0, 6, 0, 0, 0), (0, 6, 0, 0, 0), (0, 384, 0, 0, 0), (0, 60, 0, 0, 0), (0, 3, 0, 0, 0), (4, 16, 5, 0, 1), (4, 4, 5, 0, 17), (5, 4, 4, 0, 1), (0, 8, 0, 0, 0), (0, 8, 0, 0, 0), (3, 8, 0, 0, 0), (0, 8, 0, 0, 0), (0, 6, 0, 0, 0), (0, 6, 0, 0, 0), (2, 1000, 0, 0, 0), (1, 6, 0, 0, 0), (0, 6, 0, 0, 0), (0, 6, 0, 0, 0), (0, 8, 0, 0, 0), (0, 8, 0, 0, 0), (0, 8, 0, 0, 0), (6, 6, 76, 6, 0), (0, 4, 0, 0, 0), (0, 4, 0, 0, 0), (0, 2304, 0, 0, 0), (0, 30, 0, 0, 0), (0, 30, 0, 0, 0), (0, 30, 0, 0, 0), (0, 1000, 0, 0, 0), (0, 1002, 0, 0, 0), (0, 1002, 0, 0, 0), (1, 1002, 0, 0, 0), (1, 26, 0, 0, 0), (0, 200, 0, 0, 0), (0, 2200, 0, 0, 0), (0, 2200, 0, 0, 0), (1, 6, 0, 0, 0), (1, 6, 0, 0, 0), (0, 200, 0, 0, 0), (0, 3, 0, 0, 0), (0, 1100, 0, 0, 0), (0, 1449, 0, 0, 0), (3, 4, 0, 0, 0), (0, 36, 0, 0, 0), (0, 36, 0, 0, 0), (0, 36, 0, 0, 0), (0, 6, 0, 0, 0), (0, 3, 0, 0, 0), (0, 3, 0, 0, 0), (0, 36, 0, 0, 0), (0, 6, 0, 0, 0), (0, 6, 0, 0, 0), (0, 60, 0, 0, 0), (0, 6, 0, 0, 0)]
def mi_A (k : Nat) : Nat × Nat × Nat × Nat × Nat := mi_Al.getD (k - 13) (9, 0, 0, 0, 0)
def mi_nl : List Nat := [1, 2, 1, 1, 5, 26, 1, 1, 2, 2, 2, 1, 1, 1, 1, 1, 2, 2, 2, 2, 1, 1, 1, 1, 1, 1, 1, 1, 1, 1, 1, 5, 5, 5, 26, 26, 26, 1, 2, 2, 2, 2, 2, 2, 2, 2, 2, 2, 2, 2, 2, 1, 1, 1, 1, 1, 1, 1, 1, 1, 1, 1, 1, 1, 1, 1, 1, 1, 1, 1, 1, 1, 1, 1, 1, 1, 12]
/-- how many cells of a kind there are -/
def mi_n (k : Nat) : Nat := mi_nl.getD k 0
def mi_kt : List (Nat × Nat) := (List.range mi_nl.length).flatMap (fun k => (List.range (mi_n k)).map (fun i => (k, i)))
set_option maxRecDepth 100000 in
theorem mi_kt_nd : mi_kt.Nodup := by decide +kernel
theorem mi_kt_in {k i : Nat} (hi : i < mi_n k) : (k, i) ∈ mi_kt := by
  have hk : k < mi_nl.length := by
    by_cases h : k < mi_nl.length
    · exact h
    · have h0 : mi_n k = 0 := by
        unfold mi_n
        rw [List.getD_eq_getElem?_getD, List.getElem?_eq_none (by omega)]
        rfl
      omega
  exact List.mem_flatMap.mpr ⟨k, List.mem_range.mpr hk, List.mem_map.mpr ⟨i, List.mem_range.mpr hi, rfl⟩⟩
theorem mi_at {k i : Nat} (hi : i < mi_n k) : ∃ n : Nat, mi_kt[n]? = some (k, i) := List.getElem?_of_mem (mi_kt_in hi)
/-- the launch's numbers: class ids and slots, addresses, array classes by tag -/
abbrev mi_G : Type := va_G × (Nat → Nat → Nat) × (Nat → ClassId)
def mi_cl0 : vw_C := ("", fun _ => ("", "", "", false), 0)
def mi_Cn (k : Nat) : String := (vwCl.getD k mi_cl0).1
def mi_Ct (k : Nat) : u_T := (vwCl.getD k mi_cl0).2.1
def mi_Cs (k : Nat) : Nat := (vwCl.getD k mi_cl0).2.2
def mi_Ty (k : Nat) : Nat → FieldType := ([tyX0, tyX1, tyX2, tyX3, tyX4, tyX5, tyX6, tyX7, tyX8, tyX9, tyX10, tyX11, tyX12] : List (Nat → FieldType)).getD k (fun _ => .int)
theorem mi_cl : ∀ k, k < 13 → vwCl[k]? = some (mi_Cn k, mi_Ct k, mi_Cs k)
  | 0, _ => rfl
  | 1, _ => rfl
  | 2, _ => rfl
  | 3, _ => rfl
  | 4, _ => rfl
  | 5, _ => rfl
  | 6, _ => rfl
  | 7, _ => rfl
  | 8, _ => rfl
  | 9, _ => rfl
  | 10, _ => rfl
  | 11, _ => rfl
  | 12, _ => rfl
  | _ + 13, h => absurd h (by omega)
theorem mi_nm : ∀ k, k < 13 → ∀ a, a < mi_Cs k → ∀ b, b < mi_Cs k → a ≠ b → (mi_Ct k a).2.1 ≠ (mi_Ct k b).2.1
  | 0, _ => nmX0
  | 1, _ => nmX1
  | 2, _ => nmX2
  | 3, _ => nmX3
  | 4, _ => nmX4
  | 5, _ => nmX5
  | 6, _ => nmX6
  | 7, _ => nmX7
  | 8, _ => nmX8
  | 9, _ => nmX9
  | 10, _ => nmX10
  | 11, _ => nmX11
  | 12, _ => nmX12
  | _ + 13, h => absurd h (by omega)
theorem mi_tyok : ∀ k, k < 13 → ∀ f, f < mi_Cs k → parseFieldDescriptor (mi_Ct k f).2.2.1 = some (mi_Ty k f)
  | 0, _ => tyX0_ok
  | 1, _ => tyX1_ok
  | 2, _ => tyX2_ok
  | 3, _ => tyX3_ok
  | 4, _ => tyX4_ok
  | 5, _ => tyX5_ok
  | 6, _ => tyX6_ok
  | 7, _ => tyX7_ok
  | 8, _ => tyX8_ok
  | 9, _ => tyX9_ok
  | 10, _ => tyX10_ok
  | 11, _ => tyX11_ok
  | 12, _ => tyX12_ok
  | _ + 13, h => absurd h (by omega)
/-- the words of the tables that every method may use -/
def mi_T : List Cond := lw_tbl.filter goodWord
theorem mi_in {w : Cond} (i : Nat) (h : lw_tbl[i]? = some w) (g : goodWord w = true) : w ∈ mi_T := List.mem_filter.mpr ⟨List.mem_of_getElem? h, g⟩
theorem mi_goodT : GoodIn mi_T mi_T := fun w hw => ⟨hw, good_of_word (List.mem_filter.mp hw).2⟩
set_option maxRecDepth 100000 in
theorem mi_uw0 : ∀ w ∈ u_ws RX0 TX0 5, w ∈ mi_T := by
  have h : u_ws RX0 TX0 5 = ([304, 306, 308, 310, 312] : List Nat).filterMap (fun i => lw_tbl[i]?) := by decide +kernel
  have g : (u_ws RX0 TX0 5).all goodWord = true := by decide +kernel
  intro w hw
  have hg := List.all_eq_true.mp g w hw
  rw [h] at hw
  obtain ⟨i, -, hi⟩ := List.mem_filterMap.mp hw
  exact mi_in i hi hg
set_option maxRecDepth 100000 in
theorem mi_uw1 : ∀ w ∈ u_ws RX1 TX1 5, w ∈ mi_T := by
  have h : u_ws RX1 TX1 5 = ([363, 365, 367, 369, 371] : List Nat).filterMap (fun i => lw_tbl[i]?) := by decide +kernel
  have g : (u_ws RX1 TX1 5).all goodWord = true := by decide +kernel
  intro w hw
  have hg := List.all_eq_true.mp g w hw
  rw [h] at hw
  obtain ⟨i, -, hi⟩ := List.mem_filterMap.mp hw
  exact mi_in i hi hg
set_option maxRecDepth 100000 in
theorem mi_uw2 : ∀ w ∈ u_ws RX2 TX2 8, w ∈ mi_T := by
  have h : u_ws RX2 TX2 8 = ([329, 331, 333, 335, 337, 339, 341, 343] : List Nat).filterMap (fun i => lw_tbl[i]?) := by decide +kernel
  have g : (u_ws RX2 TX2 8).all goodWord = true := by decide +kernel
  intro w hw
  have hg := List.all_eq_true.mp g w hw
  rw [h] at hw
  obtain ⟨i, -, hi⟩ := List.mem_filterMap.mp hw
  exact mi_in i hi hg
set_option maxRecDepth 100000 in
theorem mi_uw3 : ∀ w ∈ u_ws RX3 TX3 6, w ∈ mi_T := by
  have h : u_ws RX3 TX3 6 = ([276, 278, 280, 282, 284, 286] : List Nat).filterMap (fun i => lw_tbl[i]?) := by decide +kernel
  have g : (u_ws RX3 TX3 6).all goodWord = true := by decide +kernel
  intro w hw
  have hg := List.all_eq_true.mp g w hw
  rw [h] at hw
  obtain ⟨i, -, hi⟩ := List.mem_filterMap.mp hw
  exact mi_in i hi hg
set_option maxRecDepth 100000 in
theorem mi_uw4 : ∀ w ∈ u_ws RX4 TX4 4, w ∈ mi_T := by
  have h : u_ws RX4 TX4 4 = ([259, 261, 263, 265] : List Nat).filterMap (fun i => lw_tbl[i]?) := by decide +kernel
  have g : (u_ws RX4 TX4 4).all goodWord = true := by decide +kernel
  intro w hw
  have hg := List.all_eq_true.mp g w hw
  rw [h] at hw
  obtain ⟨i, -, hi⟩ := List.mem_filterMap.mp hw
  exact mi_in i hi hg
set_option maxRecDepth 100000 in
theorem mi_uw5 : ∀ w ∈ u_ws RX5 TX5 7, w ∈ mi_T := by
  have h : u_ws RX5 TX5 7 = ([222, 224, 226, 228, 230, 232, 234] : List Nat).filterMap (fun i => lw_tbl[i]?) := by decide +kernel
  have g : (u_ws RX5 TX5 7).all goodWord = true := by decide +kernel
  intro w hw
  have hg := List.all_eq_true.mp g w hw
  rw [h] at hw
  obtain ⟨i, -, hi⟩ := List.mem_filterMap.mp hw
  exact mi_in i hi hg
set_option maxRecDepth 100000 in
theorem mi_uw6 : ∀ w ∈ u_ws RX6 TX6 7, w ∈ mi_T := by
  have h : u_ws RX6 TX6 7 = ([170, 172, 174, 176, 178, 180, 182] : List Nat).filterMap (fun i => lw_tbl[i]?) := by decide +kernel
  have g : (u_ws RX6 TX6 7).all goodWord = true := by decide +kernel
  intro w hw
  have hg := List.all_eq_true.mp g w hw
  rw [h] at hw
  obtain ⟨i, -, hi⟩ := List.mem_filterMap.mp hw
  exact mi_in i hi hg
set_option maxRecDepth 100000 in
theorem mi_uw7 : ∀ w ∈ u_ws RX7 TX7 2, w ∈ mi_T := by
  have h : u_ws RX7 TX7 2 = ([189, 191] : List Nat).filterMap (fun i => lw_tbl[i]?) := by decide +kernel
  have g : (u_ws RX7 TX7 2).all goodWord = true := by decide +kernel
  intro w hw
  have hg := List.all_eq_true.mp g w hw
  rw [h] at hw
  obtain ⟨i, -, hi⟩ := List.mem_filterMap.mp hw
  exact mi_in i hi hg
set_option maxRecDepth 100000 in
theorem mi_uw8 : ∀ w ∈ u_ws RX8 TX8 13, w ∈ mi_T := by
  have h : u_ws RX8 TX8 13 = ([449, 451, 453, 455, 457, 459, 461, 463, 465, 467, 469, 471, 473] : List Nat).filterMap (fun i => lw_tbl[i]?) := by decide +kernel
  have g : (u_ws RX8 TX8 13).all goodWord = true := by decide +kernel
  intro w hw
  have hg := List.all_eq_true.mp g w hw
  rw [h] at hw
  obtain ⟨i, -, hi⟩ := List.mem_filterMap.mp hw
  exact mi_in i hi hg
set_option maxRecDepth 100000 in
theorem mi_uw9 : ∀ w ∈ u_ws RX9 TX9 7, w ∈ mi_T := by
  have h : u_ws RX9 TX9 7 = ([393, 395, 397, 399, 401, 403, 405] : List Nat).filterMap (fun i => lw_tbl[i]?) := by decide +kernel
  have g : (u_ws RX9 TX9 7).all goodWord = true := by decide +kernel
  intro w hw
  have hg := List.all_eq_true.mp g w hw
  rw [h] at hw
  obtain ⟨i, -, hi⟩ := List.mem_filterMap.mp hw
  exact mi_in i hi hg
set_option maxRecDepth 100000 in
theorem mi_uw10 : ∀ w ∈ u_ws RX10 TX10 4, w ∈ mi_T := by
  have h : u_ws RX10 TX10 4 = ([492, 494, 496, 498] : List Nat).filterMap (fun i => lw_tbl[i]?) := by decide +kernel
  have g : (u_ws RX10 TX10 4).all goodWord = true := by decide +kernel
  intro w hw
  have hg := List.all_eq_true.mp g w hw
  rw [h] at hw
  obtain ⟨i, -, hi⟩ := List.mem_filterMap.mp hw
  exact mi_in i hi hg
set_option maxRecDepth 100000 in
theorem mi_uw11 : ∀ w ∈ u_ws RX11 TX11 10, w ∈ mi_T := by
  have h : u_ws RX11 TX11 10 = ([511, 513, 515, 517, 519, 521, 523, 525, 527, 529] : List Nat).filterMap (fun i => lw_tbl[i]?) := by decide +kernel
  have g : (u_ws RX11 TX11 10).all goodWord = true := by decide +kernel
  intro w hw
  have hg := List.all_eq_true.mp g w hw
  rw [h] at hw
  obtain ⟨i, -, hi⟩ := List.mem_filterMap.mp hw
  exact mi_in i hi hg
set_option maxRecDepth 100000 in
theorem mi_uw12 : ∀ w ∈ u_ws RX12 TX12 40, w ∈ mi_T := by
  have h : u_ws RX12 TX12 40 = ([1493, 1495, 1497, 1499, 1501, 1503, 1505, 1507, 1509, 1511, 1513, 1515, 1517, 1519, 1521, 1523, 1525, 1527, 1529, 1531, 1533, 1535, 1537, 1539, 1541, 1543, 1545, 1547, 1549, 1551, 1553, 1555, 1557, 1559, 1561, 1563, 1565, 1567, 1569, 1571] : List Nat).filterMap (fun i => lw_tbl[i]?) := by decide +kernel
  have g : (u_ws RX12 TX12 40).all goodWord = true := by decide +kernel
  intro w hw
  have hg := List.all_eq_true.mp g w hw
  rw [h] at hw
  obtain ⟨i, -, hi⟩ := List.mem_filterMap.mp hw
  exact mi_in i hi hg
theorem mi_uw : ∀ k, k < 13 → ∀ w ∈ u_ws (mi_Cn k) (mi_Ct k) (mi_Cs k), w ∈ mi_T
  | 0, _ => mi_uw0
  | 1, _ => mi_uw1
  | 2, _ => mi_uw2
  | 3, _ => mi_uw3
  | 4, _ => mi_uw4
  | 5, _ => mi_uw5
  | 6, _ => mi_uw6
  | 7, _ => mi_uw7
  | 8, _ => mi_uw8
  | 9, _ => mi_uw9
  | 10, _ => mi_uw10
  | 11, _ => mi_uw11
  | 12, _ => mi_uw12
  | _ + 13, h => absurd h (by omega)
/-- a field of an object, as a value -/
def mi_fm (m : mi_M) (k i f : Nat) : mi_V := match mi_F k f with
  | (0, _, _) => vi (m.1 k i f)
  | (1, _, _) => vl (m.2.1 k i f)
  | (2, k', _) => vr k' i
  | (3, k', j) => vr k' j
  | (_, k', p) => vr k' (m.2.2 p)
def mi_fs (ad : Nat → Nat → Nat) (m : mi_M) (k i : Nat) : List Value := (List.range (mi_Cs k)).map (fun f => mi_tv ad (mi_fm m k i f))
def mi_ac (ad : Nat → Nat → Nat) (m : mi_M) (k i : Nat) : vp_A := match mi_A k with
  | (0, n, _) => (n, .inl (m.1 k i))
  | (1, n, _) => (n, .inr (.inl (m.2.1 k i)))
  | (2, n, _) => (n, .inl (m.1 k i))
  | (3, n, _) => (n, .inl (m.1 k i))
  | (_, n, k', mul, off) => (n, .inr (.inr (.inr (.inr (fun j => some (ad k' (mul * i + off + j)))))))
def mi_c (G : mi_G) (m : mi_M) (q : Nat × Nat) : va_E := if q.1 < 13 then .inr (q.1, mi_fs G.2.1 m q.1 q.2) else .inl (G.2.2 (mi_A q.1).1, mi_ac G.2.1 m q.1 q.2)
/-- the whole world's cells -/
def mi_ws (G : mi_G) (m : mi_M) : va_W := mi_kt.map (fun q => (G.2.1 q.1 q.2, mi_c G m q))
theorem mi_ws_at {G : mi_G} {m : mi_M} {n k i : Nat} (h : mi_kt[n]? = some (k, i)) : (mi_ws G m)[n]? = some (G.2.1 k i, mi_c G m (k, i)) := by
  unfold mi_ws
  rw [List.getElem?_map, h]
  rfl
theorem mi_ws_set {G : mi_G} {m m' : mi_M} {n k i : Nat} (h : mi_kt[n]? = some (k, i)) (ho : ∀ q : Nat × Nat, q ≠ (k, i) → mi_c G m' q = mi_c G m q) : (mi_ws G m).set n (G.2.1 k i, mi_c G m' (k, i)) = mi_ws G m' := by
  apply List.ext_getElem?
  intro j
  have hl : n < (mi_ws G m).length := by
    have := (List.getElem?_eq_some_iff.mp h).1
    unfold mi_ws
    rw [List.length_map]
    exact this
  by_cases hj : j = n
  · subst hj
    rw [List.getElem?_set_self hl, mi_ws_at h]
  · rw [List.getElem?_set_ne (Ne.symm hj)]
    unfold mi_ws
    rw [List.getElem?_map, List.getElem?_map]
    cases hq : mi_kt[j]? with
    | none => rfl
    | some q =>
      have hne : q ≠ (k, i) := by
        intro e
        subst e
        exact hj ((List.getElem?_inj (List.getElem?_eq_some_iff.mp hq).1 mi_kt_nd).mp (hq.trans h.symm))
      show some (G.2.1 q.1 q.2, mi_c G m q) = some (G.2.1 q.1 q.2, mi_c G m' q)
      rw [ho q hne]
theorem mi_D {G : mi_G} {m m' : mi_M} {A : Nat → Prop} (h : va_D A (mi_ws G m)) : va_D A (mi_ws G m') := by
  have key : ∀ (j : Nat) (q : Nat × va_E), (mi_ws G m')[j]? = some q → ∃ q0, (mi_ws G m)[j]? = some q0 ∧ q0.1 = q.1 := by
    intro j q hq
    unfold mi_ws at hq ⊢
    rw [List.getElem?_map] at hq ⊢
    cases hk : mi_kt[j]? with
    | none => rw [hk] at hq; cases hq
    | some z =>
      rw [hk] at hq
      cases hq
      exact ⟨_, rfl, rfl⟩
  refine ⟨fun i j p q hp hq e => ?_, fun j q hq => ?_⟩
  · obtain ⟨p0, h1, h2⟩ := key i p hp
    obtain ⟨q0, h3, h4⟩ := key j q hq
    exact h.1 i j p0 q0 h1 h3 (h2.trans (e.trans h4.symm))
  · obtain ⟨q0, h1, h2⟩ := key j q hq
    rw [← h2]
    exact h.2 j q0 h1
theorem mi_A_ws {G : mi_G} {m m' : mi_M} {sz q : Nat} (h : va_A (mi_ws G m) sz q) : va_A (mi_ws G m') sz q := by
  rcases h with ⟨k, e, hk⟩ | h
  · unfold mi_ws at hk
    rw [List.getElem?_map] at hk
    cases hz : mi_kt[k]? with
    | none => rw [hz] at hk; cases hk
    | some z =>
      rw [hz] at hk
      cases hk
      exact Or.inl ⟨k, mi_c G m' z, by unfold mi_ws; rw [List.getElem?_map, hz]; rfl⟩
  · exact Or.inr h
def mi_tys (G : mi_G) : List (ClassId × FieldType) := [(G.2.2 0, .int), (G.2.2 1, .long), (G.2.2 2, .byte), (G.2.2 3, .boolean), (G.2.2 4, .object "PardonLamps$State"), (G.2.2 5, .object "PardonLamps$Sights"), (G.2.2 6, .array .int)]
/-- the String constants: class, entry, text, number -/
def mi_strs : List (String × Nat × String × Nat) := [("PardonLamps$Tape", 50, "()<=+-*;", 0), ("PardonLamps$Teller", 33, "person lane wrong walk bar wind words heals burns", 1), ("PardonLamps$Teller", 195, "say give ask night", 2), ("PardonLamps$Teller", 90, "plain sulky saint priest", 3), ("PardonLamps$Teller", 200, "coins to size", 4), ("PardonLamps$Teller", 202, "not and or", 5), ("PardonLamps$Teller", 92, "coins", 6), ("PardonLamps$Teller", 132, "to", 7), ("PardonLamps$Teller", 134, "size", 8), ("PardonLamps$Teller", 186, "not", 9), ("PardonLamps$Teller", 191, "large sore nights", 10), ("PardonLamps$Teller", 193, "and or", 11)]
def mi_len : List Nat := [8, 49, 18, 24, 13, 10, 5, 2, 4, 3, 17, 6]
def mi_byt : List (List Int32) := [[40, 41, 60, 61, 43, 45, 42, 59], [112, 101, 114, 115, 111, 110, 32, 108, 97, 110, 101, 32, 119, 114, 111, 110, 103, 32, 119, 97, 108, 107, 32, 98, 97, 114, 32, 119, 105, 110, 100, 32, 119, 111, 114, 100, 115, 32, 104, 101, 97, 108, 115, 32, 98, 117, 114, 110, 115], [115, 97, 121, 32, 103, 105, 118, 101, 32, 97, 115, 107, 32, 110, 105, 103, 104, 116], [112, 108, 97, 105, 110, 32, 115, 117, 108, 107, 121, 32, 115, 97, 105, 110, 116, 32, 112, 114, 105, 101, 115, 116], [99, 111, 105, 110, 115, 32, 116, 111, 32, 115, 105, 122, 101], [110, 111, 116, 32, 97, 110, 100, 32, 111, 114], [99, 111, 105, 110, 115], [116, 111], [115, 105, 122, 101], [110, 111, 116], [108, 97, 114, 103, 101, 32, 115, 111, 114, 101, 32, 110, 105, 103, 104, 116, 115], [97, 110, 100, 32, 111, 114]]
def mi_St (G : mi_G) (A : Nat → Prop) (s : State) : Prop := vk_S 12 mi_len mi_byt (G.2.1 300) (G.2.1 301) A s s.heap ∧ (∀ q ∈ mi_strs, vk_R q.1 q.2.1 q.2.2.1 (G.2.1 300 q.2.2.2) s) ∧ va_Z "java/lang/String" "COMPACT_STRINGS" "Z" (.int 1) A s s.heap
/-- a method: its name, bytes, locals, what it returns -/
abbrev mi_MD : Type := MethodName × ByteArray × Nat × Option FieldType
def mi_Cx (y : mi_MD) (d : Nat) (p : Program) (R : Room) (s : State) (m : MethodId) (args : Array Value) (meth : Method) (c : Code) (A : Nat → Prop) (G : mi_G) (cells slots : Nat) : Prop :=
  p.tables.exec = Jvm.exec ∧ c.code = y.2.1 ∧ c.maxLocals = y.2.2.1 ∧ meth.sig.returnType = y.2.2.2 ∧ meth.locks = false ∧ s.vm.findClass y.1.cls = some m.cls ∧ (∀ w ∈ mi_T, w.before args s = true) ∧ va_K G.1 vwCl (mi_tys G) s ∧ (∀ q, s.heap.size ≤ q → A q) ∧ (d ≤ R.frames ∧ 64 * d ≤ R.locals ∧ cells ≤ R.cells ∧ slots ≤ R.slots) ∧ mi_St G A s
/-- what waits behind the method's return -/
def mi_Rt (y : mi_MD) (p : Program) (l : Launch) (e : Env) (R : Room) (s : State) (m : MethodId) (args : Array Value) (below : List Frame) (meth : Method) (c : Code) (cells slots : Nat) (Z : State → Prop) (A : Nat → Prop) (G : mi_G) (Q : Option mi_V → mi_M → Prop) : Prop :=
  ∀ (r : Option mi_V) (mem : mi_M) (pc : Nat) (lsm : Array Slot) (H : Heap) (locs : List Loc), Q r mem → va_P G.1 vwCl (mi_ws G mem) H → va_S A s.heap H locs →
    (match r with
      | none => decode y.2.1 pc = .ok (.return_, 1) ∧ y.2.2.2 = none
      | some (.inl v) => decode y.2.1 pc = .ok (.ireturn, 1) ∧ ∃ ty, y.2.2.2 = some ty ∧ narrow ty (.int v) = .int v
      | some (.inr (.inl _)) => decode y.2.1 pc = .ok (.lreturn, 1) ∧ y.2.2.2 = some .long
      | some (.inr (.inr _)) => False) →
    W p l e R s m args below meth c H locs cells slots Z (F0 m pc lsm (r.toList.map (mi_tv G.2.1)))
def mi_lm (G : mi_G) (ls : List (Nat × mi_V)) : List (Nat × Value) := ls.map (fun q => (q.1, mi_tv G.2.1 q.2))
/-- from pc, with these locals, this stack and memory, the method returns, and Q -/
def mi_X (y : mi_MD) (d pc : Nat) (ls : List (Nat × mi_V)) (st : List mi_V) (mem : mi_M) (Q : Option mi_V → mi_M → Prop) : Prop :=
  ∀ (p : Program) (l : Launch) (e : Env) (R : Room) (s : State) (m : MethodId) (args : Array Value) (below : List Frame) (meth : Method) (c : Code) (H : Heap) (locs : List Loc) (cells slots : Nat) (Z : State → Prop) (A : Nat → Prop) (G : mi_G) (lsm : Array Slot),
    mi_Cx y d p R s m args meth c A G cells slots → mi_Rt y p l e R s m args below meth c cells slots Z A G Q → va_P G.1 vwCl (mi_ws G mem) H → va_D A (mi_ws G mem) → va_S A s.heap H locs → lv_has lsm y.2.2.1 (mi_lm G ls) →
      W p l e R s m args below meth c H locs cells slots Z (F0 m pc lsm (st.map (mi_tv G.2.1)))
abbrev mi_rm (d : Nat) : Room := { frames := d, cells := 0, slots := 0, locals := 64 * d }
abbrev mi_yw (y : mi_MD) : List Cond := Cond.code y.1 y.2.1 y.2.2.1 y.2.2.2 :: mi_T
def mi_Wd (G : mi_G) (mem : mi_M) (sz : Nat) (U : State) : Prop := U.heap.size = sz ∧ va_P G.1 vwCl (mi_ws G mem) U.heap ∧ va_K G.1 vwCl (mi_tys G) U ∧ va_D (fun _ => True) (mi_ws G mem) ∧ mi_St G (va_A (mi_ws G mem) sz) U
def mi_Qc (G : mi_G) (mem : mi_M) (sz : Nat) (Q : Option mi_V → mi_M → Prop) : Array Value → State → Outcome → State → Prop := fun _ st oc t =>
  (∃ (r : Option mi_V) (mem' : mi_M), oc = .returned (r.map (mi_tv G.2.1)) ∧ Q r mem' ∧ va_P G.1 vwCl (mi_ws G mem') t.heap) ∧ va_F (va_A (mi_ws G mem) sz) st t
/-- a method's contract at the depth d -/
def mi_C (d : Nat) (y : mi_MD) (av : List mi_V) (mem : mi_M) (Q : Option mi_V → mi_M → Prop) : Prop :=
  ∀ (l : Launch) (G : mi_G) (sz : Nat), Met l y.1 (mi_yw y) (mi_rm d) (va_Pc (av.map (mi_tv G.2.1)) (mi_Wd G mem sz)) (mi_Qc G mem sz Q) 0 0 (va_A (mi_ws G mem) sz)
def mi_2 (v : mi_V) : Bool := match v with
  | .inr (.inl _) => true
  | _ => false
def mi_en : Nat → List mi_V → List (Nat × mi_V)
  | _, [] => []
  | i, v :: r => (i, v) :: mi_en (cond (mi_2 v) (i + 2) (i + 1)) r
theorem mi_cat (ad : Nat → Nat → Nat) (v : mi_V) : (mi_tv ad v).category = cond (mi_2 v) 2 1 := by
  rcases v with x | x | x <;> rfl
theorem mi_en_eq (G : mi_G) : ∀ (av : List mi_V) (i : Nat), lv_args i (av.map (mi_tv G.2.1)) = mi_lm G (mi_en i av)
  | [], _ => rfl
  | v :: r, i => by
    show (i, mi_tv G.2.1 v) :: lv_args (if (mi_tv G.2.1 v).category = 2 then i + 2 else i + 1) (r.map (mi_tv G.2.1)) = (i, mi_tv G.2.1 v) :: mi_lm G (mi_en (cond (mi_2 v) (i + 2) (i + 1)) r)
    rw [mi_cat, mi_en_eq G r]
    cases mi_2 v <;> rfl
def mi_sz : List mi_V → Nat
  | [] => 0
  | v :: r => cond (mi_2 v) 2 1 + mi_sz r
theorem mi_sz_eq (ad : Nat → Nat → Nat) : ∀ av : List mi_V, (lg_sl (av.map (mi_tv ad))).length = mi_sz av
  | [] => rfl
  | v :: r => by
    have h := mi_sz_eq ad r
    unfold lg_sl at h ⊢
    rw [List.map_cons, List.flatMap_cons, List.length_append, h, mi_cat]
    show _ = cond (mi_2 v) 2 1 + mi_sz r
    cases mi_2 v <;> rfl
theorem mi_St.moved {G : mi_G} {A : Nat → Prop} {u U : State} (hh : U.heap = u.heap) (hW : u.WarmedH U.vm) (h : mi_St G A u) : mi_St G A U := by
  obtain ⟨h1, h2, h3⟩ := h
  refine ⟨by rw [hh]; exact h1.moved hW.alike, fun q hq => (h2 q hq).warm hW, by rw [hh]; exact h3.moved hW.alike⟩
theorem mi_St.calling {G : mi_G} {A : Nat → Prop} {U : State} {g : JFrame} {mk : MethodId} {a : Array Value} (h : mi_St G A U) : mi_St G A (U.calling g mk a) := by
  obtain ⟨h1, h2, h3⟩ := h
  exact ⟨h1.moved (Vm.Alike.refl U.vm), fun q hq => vk_R.same rfl (h2 q hq), h3.moved (Vm.Alike.refl U.vm)⟩
theorem mi_St.at {G : mi_G} {A B : Nat → Prop} {s U : State} {H : Heap} {locs : List Loc} (h : mi_St G A s) (hS : va_S A s.heap H locs) (hU : U.heap = H) (hW : s.WarmedH U.vm) (hB : ∀ q, B q → A q) : mi_St G B U := by
  obtain ⟨h1, h2, h3⟩ := h
  refine ⟨?_, fun q hq => (h2 q hq).warm hW, ?_⟩
  · rw [hU]
    exact ((h1.kept hS.2.1).narrow hB).moved hW.alike
  · rw [hU]
    exact ((h3.kept hS.2.1).narrow hB).moved hW.alike
theorem mi_C_intro {d : Nat} {y : mi_MD} {av : List mi_V} {mem : mi_M} {Q : Option mi_V → mi_M → Prop} {ls : List (Nat × mi_V)} (hy : plainName y.1.cls = true) (hls : mi_en 0 av = ls) (hsz : Nat.ble (mi_sz av) y.2.2.1 = true) (h : mi_X y d 0 ls [] mem Q) : mi_C d y av mem Q := by
  intro l G sz
  refine Met.ofW (cc := y.2.1) (maxL := y.2.2.1) (ret := y.2.2.2) hy rfl ?_
  intro p e s m args below meth c s₁ B hml hv
  obtain ⟨rfl, hsz', hP, hK, hD0, hSt⟩ := hv
  subst hsz'
  have hts := atoms_spec (ws := mi_yw y) B.pre
  have hown : s.vm.findClass y.1.cls = some m.cls := findClass_of_methodNamed B.named
  have hD := hD0.self (sz := s.heap.size)
  have hS : va_S (va_A (mi_ws G mem) s.heap.size) s.heap s.heap [] := va_S.rf
  have hl := lv_entry (av.map (mi_tv G.2.1)) (n := y.2.2.1) (by rw [mi_sz_eq]; exact Nat.le_of_ble_eq_true hsz)
  rw [lg_entry_eq]
  rw [mi_en_eq, hls] at hl
  have hr := B.returns
  have hlocks := B.notSynchronized
  refine h p l e _ s m _ below meth c s.heap [] 0 0 _ _ G _ ⟨B.exec, B.bytes, hml, hr, hlocks, hown, fun w hw => hts w (List.mem_cons_of_mem _ hw), hK, fun q hq => Or.inr hq, ⟨Nat.le_refl _, Nat.le_refl _, Nat.zero_le _, Nat.zero_le _⟩, hSt⟩ ?_ hP hD hS hl
  intro r mem' pc lsm H locs hQ hP' hS' hr'
  rcases r with _ | v | v | v
  · exact W.vret B.exec B.bytes (hr.trans hr'.2) (fun t ht hW => ⟨⟨none, mem', rfl, hQ, by rw [ht]; exact hP'⟩, hS'.F ht⟩) hS'.2.2 hr'.1
  · obtain ⟨h1, ty, h2, h3⟩ := hr'
    exact W.zret B.exec B.bytes (hr.trans h2) h3 (fun t ht hW => ⟨⟨some (vi v), mem', rfl, hQ, by rw [ht]; exact hP'⟩, hS'.F ht⟩) hS'.2.2 h1
  · exact W.lret B.exec B.bytes (hr.trans hr'.2) (fun t ht hW => ⟨⟨some (vl v), mem', rfl, hQ, by rw [ht]; exact hP'⟩, hS'.F ht⟩) hS'.2.2 hr'.1
  · exact absurd hr' id
