/-! ===== a light logic over the worlds: values, references by (kind, index), memory as functions ===== -/
abbrev mi_V : Type := Int32 ⊕ Int64 ⊕ (Nat × Nat)
abbrev vi (x : Int32) : mi_V := Sum.inl x
abbrev vl (x : Int64) : mi_V := Sum.inr (Sum.inl x)
abbrev vr (k i : Nat) : mi_V := Sum.inr (Sum.inr (k, i))
/-- memory: ints by kind, index, place; longs; the mutable references -/
abbrev mi_M : Type := (Nat → Nat → Nat → Int32) × (Nat → Nat → Nat → Int64) × (Nat → Nat)
def mi_tv (ad : Nat → Nat → Nat) (v : mi_V) : Value := match v with
  | .inl x => .int x
  | .inr (.inl x) => .long x
  | .inr (.inr q) => .ref (ad q.1 q.2)
def mi_wI (m : mi_M) (k i p : Nat) (v : Int32) : mi_M := (fun a b c => if a = k ∧ b = i ∧ c = p then v else m.1 a b c, m.2)
def mi_wL (m : mi_M) (k i p : Nat) (v : Int64) : mi_M := (m.1, fun a b c => if a = k ∧ b = i ∧ c = p then v else m.2.1 a b c, m.2.2)
def mi_wR (m : mi_M) (p v : Nat) : mi_M := (m.1, m.2.1, fun a => if a = p then v else m.2.2 a)
/-- fields: (tag, kind, place): 0 an int, 1 a long, 2 the cell of that kind and the same index, 3 that cell, 4 the mutable reference at that place -/
def mi_Fl : List (List (Nat × Nat × Nat)) := [[(3, 5, 21), (2, 13, 0), (2, 14, 0), (2, 15, 0), (0, 0, 0)], [(2, 16, 0), (2, 17, 0), (2, 18, 0), (2, 19, 0), (0, 0, 0)], [(2, 20, 0), (2, 21, 0), (2, 22, 0), (2, 23, 0), (2, 24, 0), (2, 25, 0), (2, 26, 0), (2, 27, 0)], [(0, 0, 0), (0, 0, 0), (0, 0, 0), (2, 28, 0), (2, 29, 0), (2, 30, 0)], [(0, 0, 0), (2, 31, 0), (2, 32, 0), (2, 33, 0)], [(0, 0, 0), (0, 0, 0), (0, 0, 0), (0, 0, 0), (2, 34, 0), (2, 35, 0), (2, 36, 0)], [(0, 0, 0), (0, 0, 0), (0, 0, 0), (0, 0, 0), (1, 0, 0), (2, 37, 0), (0, 0, 0)], [(3, 6, 0), (0, 0, 0)], [(0, 0, 0), (0, 0, 0), (0, 0, 0), (0, 0, 0), (0, 0, 0), (2, 38, 0), (2, 39, 0), (2, 40, 0), (2, 41, 0), (2, 42, 0), (2, 43, 0), (2, 1, 0), (2, 9, 0)], [(0, 0, 0), (0, 0, 0), (2, 44, 0), (2, 45, 0), (2, 46, 0), (2, 47, 0), (1, 0, 0)], [(0, 0, 0), (2, 48, 0), (2, 49, 0), (2, 50, 0)], [(3, 7, 0), (3, 5, 0), (3, 3, 0), (3, 4, 0), (3, 0, 0), (3, 2, 0), (4, 8, 0), (4, 8, 1), (4, 10, 2), (4, 10, 3)], [(0, 0, 0), (2, 51, 0), (0, 0, 0), (0, 0, 0), (2, 52, 0), (2, 53, 0), (2, 54, 0), (0, 0, 0), (0, 0, 0), (2, 55, 0), (2, 56, 0), (2, 57, 0), (2, 58, 0), (0, 0, 0), (2, 59, 0), (2, 60, 0), (0, 0, 0), (0, 0, 0), (2, 61, 0), (2, 62, 0), (2, 63, 0), (2, 64, 0), (0, 0, 0), (2, 65, 0), (0, 0, 0), (2, 66, 0), (2, 67, 0), (2, 68, 0), (2, 69, 0), (2, 70, 0), (2, 71, 0), (0, 0, 0), (2, 72, 0), (2, 73, 0), (0, 0, 0), (0, 0, 0), (0, 0, 0), (2, 74, 0), (2, 75, 0), (1, 0, 0)]]
def mi_F (k f : Nat) : Nat × Nat × Nat := (mi_Fl.getD k []).getD f (9, 0, 0)
/-- arrays: (tag, length, kind, mul, off): 0 int, 1 long, 2 byte, 3 boolean, 4 State, 5 Sights, 6 int[] -/
def mi_Al : List (Nat × Nat × Nat × Nat × Nat) := [(4, 4, 5, 0, 22), (0, 3, 0, 0, 0), (0, 3, 0, 0, 0), (0, 1003, 0, 0, 0), (0, 3, 0, 0, 0), (0, 3, 0, 0, 0), (0, 40, 0, 0, 0), (0, 8, 0, 0, 0), (0, 8, 0, 0, 0), (0, 6, 0, 0, 0), (0, 6, 0, 0, 0), (0, 6, 0, 0, 0), (0, 384, 0, 0, 0), (0, 60, 0, 0, 0), (0, 3, 0, 0, 0), (4, 16, 5, 0, 1), (4, 4, 5, 0, 17), (5, 4, 4, 0, 1), (0, 8, 0, 0, 0), (0, 8, 0, 0, 0), (3, 8, 0, 0, 0), (0, 8, 0, 0, 0), (0, 6, 0, 0, 0), (0, 6, 0, 0, 0), (2, 1000, 0, 0, 0), (1, 6, 0, 0, 0), (0, 6, 0, 0, 0), (0, 6, 0, 0, 0), (0, 8, 0, 0, 0), (0, 8, 0, 0, 0), (0, 8, 0, 0, 0), (6, 6, 76, 6, 0), (0, 4, 0, 0, 0), (0, 4, 0, 0, 0), (0, 2304, 0, 0, 0), (0, 30, 0, 0, 0), (0, 30, 0, 0, 0), (0, 30, 0, 0, 0), (0, 1000, 0, 0, 0), (0, 1002, 0, 0, 0), (0, 1002, 0, 0, 0), (1, 1002, 0, 0, 0), (1, 26, 0, 0, 0), (0, 200, 0, 0, 0), (0, 2200, 0, 0, 0), (0, 2200, 0, 0, 0), (1, 6, 0, 0, 0), (1, 6, 0, 0, 0), (0, 200, 0, 0, 0), (0, 3, 0, 0, 0), (0, 1100, 0, 0, 0), (0, 1449, 0, 0, 0), (3, 4, 0, 0, 0), (0, 36, 0, 0, 0), (0, 36, 0, 0, 0), (0, 36, 0, 0, 0), (0, 6, 0, 0, 0), (0, 3, 0, 0, 0), (0, 3, 0, 0, 0), (0, 36, 0, 0, 0), (0, 6, 0, 0, 0), (0, 6, 0, 0, 0), (0, 60, 0, 0, 0), (0, 6, 0, 0, 0)]
def mi_A (k : Nat) : Nat × Nat × Nat × Nat × Nat := mi_Al.getD (k - 13) (9, 0, 0, 0, 0)
def mi_nl : List Nat := [1, 2, 1, 1, 5, 26, 1, 1, 2, 2, 2, 1, 1, 1, 1, 1, 2, 2, 2, 2, 1, 1, 1, 1, 1, 1, 1, 1, 1, 1, 1, 5, 5, 5, 26, 26, 26, 1, 2, 2, 2, 2, 2, 2, 2, 2, 2, 2, 2, 2, 2, 1, 1, 1, 1, 1, 1, 1, 1, 1, 1, 1, 1, 1, 1, 1, 1, 1, 1, 1, 1, 1, 1, 1, 1, 1, 12]
/-- how many cells of a kind there are -/
def mi_n (k : Nat) : Nat := mi_nl.getD k 0
def mi_kt : List (Nat × Nat) := (List.range mi_nl.length).flatMap (fun k => (List.range (mi_n k)).map (fun i => (k, i)))
set_option maxRecDepth 100000 in
theorem mi_kt_nd : mi_kt.Nodup := by decide +kernel
theorem mi_kt_in {k i : Nat} (hi : i < mi_n k) : (k, i) ∈ mi_kt := by
  have hk : k < mi_nl.length := by
    by_cases h : k < mi_nl.length
    · exact h
    · have h0 : mi_n k = 0 := by
        unfold mi_n
        rw [List.getD_eq_getElem?_getD, List.getElem?_eq_none (by omega)]
        rfl
      omega
  exact List.mem_flatMap.mpr ⟨k, List.mem_range.mpr hk, List.mem_map.mpr ⟨i, List.mem_range.mpr hi, rfl⟩⟩
theorem mi_at {k i : Nat} (hi : i < mi_n k) : ∃ n : Nat, mi_kt[n]? = some (k, i) := List.getElem?_of_mem (mi_kt_in hi)
/-- the launch's numbers: class ids and slots, addresses, array classes by tag -/
abbrev mi_G : Type := va_G × (Nat → Nat → Nat) × (Nat → ClassId)
def mi_cl0 : vw_C := ("", fun _ => ("", "", "", false), 0)
def mi_Cn (k : Nat) : String := (vwCl.getD k mi_cl0).1
def mi_Ct (k : Nat) : u_T := (vwCl.getD k mi_cl0).2.1
def mi_Cs (k : Nat) : Nat := (vwCl.getD k mi_cl0).2.2
def mi_Ty (k : Nat) : Nat → FieldType := ([tyX0, tyX1, tyX2, tyX3, tyX4, tyX5, tyX6, tyX7, tyX8, tyX9, tyX10, tyX11, tyX12] : List (Nat → FieldType)).getD k (fun _ => .int)
theorem mi_cl : ∀ k, k < 13 → vwCl[k]? = some (mi_Cn k, mi_Ct k, mi_Cs k)
  | 0, _ => rfl
  | 1, _ => rfl
  | 2, _ => rfl
  | 3, _ => rfl
  | 4, _ => rfl
  | 5, _ => rfl
  | 6, _ => rfl
  | 7, _ => rfl
  | 8, _ => rfl
  | 9, _ => rfl
  | 10, _ => rfl
  | 11, _ => rfl
  | 12, _ => rfl
  | _ + 13, h => absurd h (by omega)
theorem mi_nm : ∀ k, k < 13 → ∀ a, a < mi_Cs k → ∀ b, b < mi_Cs k → a ≠ b → (mi_Ct k a).2.1 ≠ (mi_Ct k b).2.1
  | 0, _ => nmX0
  | 1, _ => nmX1
  | 2, _ => nmX2
  | 3, _ => nmX3
  | 4, _ => nmX4
  | 5, _ => nmX5
  | 6, _ => nmX6
  | 7, _ => nmX7
  | 8, _ => nmX8
  | 9, _ => nmX9
  | 10, _ => nmX10
  | 11, _ => nmX11
  | 12, _ => nmX12
  | _ + 13, h => absurd h (by omega)
theorem mi_tyok : ∀ k, k < 13 → ∀ f, f < mi_Cs k → parseFieldDescriptor (mi_Ct k f).2.2.1 = some (mi_Ty k f)
  | 0, _ => tyX0_ok
  | 1, _ => tyX1_ok
  | 2, _ => tyX2_ok
  | 3, _ => tyX3_ok
  | 4, _ => tyX4_ok
  | 5, _ => tyX5_ok
  | 6, _ => tyX6_ok
  | 7, _ => tyX7_ok
  | 8, _ => tyX8_ok
  | 9, _ => tyX9_ok
  | 10, _ => tyX10_ok
  | 11, _ => tyX11_ok
  | 12, _ => tyX12_ok
  | _ + 13, h => absurd h (by omega)
/-- the words of the tables that every method may use -/
def mi_T : List Cond := lw_tbl.filter goodWord
theorem mi_in {w : Cond} (i : Nat) (h : lw_tbl[i]? = some w) (g : goodWord w = true) : w ∈ mi_T := List.mem_filter.mpr ⟨List.mem_of_getElem? h, g⟩
theorem mi_goodT : GoodIn mi_T mi_T := fun w hw => ⟨hw, good_of_word (List.mem_filter.mp hw).2⟩
set_option maxRecDepth 100000 in
theorem mi_uw0 : ∀ w ∈ u_ws RX0 TX0 5, w ∈ mi_T := by
  have h : u_ws RX0 TX0 5 = ([304, 306, 308, 310, 312] : List Nat).filterMap (fun i => lw_tbl[i]?) := by decide +kernel
  have g : (u_ws RX0 TX0 5).all goodWord = true := by decide +kernel
  intro w hw
  have hg := List.all_eq_true.mp g w hw
  rw [h] at hw
  obtain ⟨i, -, hi⟩ := List.mem_filterMap.mp hw
  exact mi_in i hi hg
set_option maxRecDepth 100000 in
theorem mi_uw1 : ∀ w ∈ u_ws RX1 TX1 5, w ∈ mi_T := by
  have h : u_ws RX1 TX1 5 = ([363, 365, 367, 369, 371] : List Nat).filterMap (fun i => lw_tbl[i]?) := by decide +kernel
  have g : (u_ws RX1 TX1 5).all goodWord = true := by decide +kernel
  intro w hw
  have hg := List.all_eq_true.mp g w hw
  rw [h] at hw
  obtain ⟨i, -, hi⟩ := List.mem_filterMap.mp hw
  exact mi_in i hi hg
set_option maxRecDepth 100000 in
theorem mi_uw2 : ∀ w ∈ u_ws RX2 TX2 8, w ∈ mi_T := by
  have h : u_ws RX2 TX2 8 = ([329, 331, 333, 335, 337, 339, 341, 343] : List Nat).filterMap (fun i => lw_tbl[i]?) := by decide +kernel
  have g : (u_ws RX2 TX2 8).all goodWord = true := by decide +kernel
  intro w hw
  have hg := List.all_eq_true.mp g w hw
  rw [h] at hw
  obtain ⟨i, -, hi⟩ := List.mem_filterMap.mp hw
  exact mi_in i hi hg
set_option maxRecDepth 100000 in
theorem mi_uw3 : ∀ w ∈ u_ws RX3 TX3 6, w ∈ mi_T := by
  have h : u_ws RX3 TX3 6 = ([276, 278, 280, 282, 284, 286] : List Nat).filterMap (fun i => lw_tbl[i]?) := by decide +kernel
  have g : (u_ws RX3 TX3 6).all goodWord = true := by decide +kernel
  intro w hw
  have hg := List.all_eq_true.mp g w hw
  rw [h] at hw
  obtain ⟨i, -, hi⟩ := List.mem_filterMap.mp hw
  exact mi_in i hi hg
set_option maxRecDepth 100000 in
theorem mi_uw4 : ∀ w ∈ u_ws RX4 TX4 4, w ∈ mi_T := by
  have h : u_ws RX4 TX4 4 = ([259, 261, 263, 265] : List Nat).filterMap (fun i => lw_tbl[i]?) := by decide +kernel
  have g : (u_ws RX4 TX4 4).all goodWord = true := by decide +kernel
  intro w hw
  have hg := List.all_eq_true.mp g w hw
  rw [h] at hw
  obtain ⟨i, -, hi⟩ := List.mem_filterMap.mp hw
  exact mi_in i hi hg
set_option maxRecDepth 100000 in
theorem mi_uw5 : ∀ w ∈ u_ws RX5 TX5 7, w ∈ mi_T := by
  have h : u_ws RX5 TX5 7 = ([222, 224, 226, 228, 230, 232, 234] : List Nat).filterMap (fun i => lw_tbl[i]?) := by decide +kernel
  have g : (u_ws RX5 TX5 7).all goodWord = true := by decide +kernel
  intro w hw
  have hg := List.all_eq_true.mp g w hw
  rw [h] at hw
  obtain ⟨i, -, hi⟩ := List.mem_filterMap.mp hw
  exact mi_in i hi hg
set_option maxRecDepth 100000 in
theorem mi_uw6 : ∀ w ∈ u_ws RX6 TX6 7, w ∈ mi_T := by
  have h : u_ws RX6 TX6 7 = ([170, 172, 174, 176, 178, 180, 182] : List Nat).filterMap (fun i => lw_tbl[i]?) := by decide +kernel
  have g : (u_ws RX6 TX6 7).all goodWord = true := by decide +kernel
  intro w hw
  have hg := List.all_eq_true.mp g w hw
  rw [h] at hw
  obtain ⟨i, -, hi⟩ := List.mem_filterMap.mp hw
  exact mi_in i hi hg
set_option maxRecDepth 100000 in
theorem mi_uw7 : ∀ w ∈ u_ws RX7 TX7 2, w ∈ mi_T := by
  have h : u_ws RX7 TX7 2 = ([189, 191] : List Nat).filterMap (fun i => lw_tbl[i]?) := by decide +kernel
  have g : (u_ws RX7 TX7 2).all goodWord = true := by decide +kernel
  intro w hw
  have hg := List.all_eq_true.mp g w hw
  rw [h] at hw
  obtain ⟨i, -, hi⟩ := List.mem_filterMap.mp hw
  exact mi_in i hi hg
set_option maxRecDepth 100000 in
theorem mi_uw8 : ∀ w ∈ u_ws RX8 TX8 13, w ∈ mi_T := by
  have h : u_ws RX8 TX8 13 = ([449, 451, 453, 455, 457, 459, 461, 463, 465, 467, 469, 471, 473] : List Nat).filterMap (fun i => lw_tbl[i]?) := by decide +kernel
  have g : (u_ws RX8 TX8 13).all goodWord = true := by decide +kernel
  intro w hw
  have hg := List.all_eq_true.mp g w hw
  rw [h] at hw
  obtain ⟨i, -, hi⟩ := List.mem_filterMap.mp hw
  exact mi_in i hi hg
set_option maxRecDepth 100000 in
theorem mi_uw9 : ∀ w ∈ u_ws RX9 TX9 7, w ∈ mi_T := by
  have h : u_ws RX9 TX9 7 = ([393, 395, 397, 399, 401, 403, 405] : List Nat).filterMap (fun i => lw_tbl[i]?) := by decide +kernel
  have g : (u_ws RX9 TX9 7).all goodWord = true := by decide +kernel
  intro w hw
  have hg := List.all_eq_true.mp g w hw
  rw [h] at hw
  obtain ⟨i, -, hi⟩ := List.mem_filterMap.mp hw
  exact mi_in i hi hg
set_option maxRecDepth 100000 in
theorem mi_uw10 : ∀ w ∈ u_ws RX10 TX10 4, w ∈ mi_T := by
  have h : u_ws RX10 TX10 4 = ([492, 494, 496, 498] : List Nat).filterMap (fun i => lw_tbl[i]?) := by decide +kernel
  have g : (u_ws RX10 TX10 4).all goodWord = true := by decide +kernel
  intro w hw
  have hg := List.all_eq_true.mp g w hw
  rw [h] at hw
  obtain ⟨i, -, hi⟩ := List.mem_filterMap.mp hw
  exact mi_in i hi hg
set_option maxRecDepth 100000 in
theorem mi_uw11 : ∀ w ∈ u_ws RX11 TX11 10, w ∈ mi_T := by
  have h : u_ws RX11 TX11 10 = ([511, 513, 515, 517, 519, 521, 523, 525, 527, 529] : List Nat).filterMap (fun i => lw_tbl[i]?) := by decide +kernel
  have g : (u_ws RX11 TX11 10).all goodWord = true := by decide +kernel
  intro w hw
  have hg := List.all_eq_true.mp g w hw
  rw [h] at hw
  obtain ⟨i, -, hi⟩ := List.mem_filterMap.mp hw
  exact mi_in i hi hg
set_option maxRecDepth 100000 in
theorem mi_uw12 : ∀ w ∈ u_ws RX12 TX12 40, w ∈ mi_T := by
  have h : u_ws RX12 TX12 40 = ([1493, 1495, 1497, 1499, 1501, 1503, 1505, 1507, 1509, 1511, 1513, 1515, 1517, 1519, 1521, 1523, 1525, 1527, 1529, 1531, 1533, 1535, 1537, 1539, 1541, 1543, 1545, 1547, 1549, 1551, 1553, 1555, 1557, 1559, 1561, 1563, 1565, 1567, 1569, 1571] : List Nat).filterMap (fun i => lw_tbl[i]?) := by decide +kernel
  have g : (u_ws RX12 TX12 40).all goodWord = true := by decide +kernel
  intro w hw
  have hg := List.all_eq_true.mp g w hw
  rw [h] at hw
  obtain ⟨i, -, hi⟩ := List.mem_filterMap.mp hw
  exact mi_in i hi hg
theorem mi_uw : ∀ k, k < 13 → ∀ w ∈ u_ws (mi_Cn k) (mi_Ct k) (mi_Cs k), w ∈ mi_T
  | 0, _ => mi_uw0
  | 1, _ => mi_uw1
  | 2, _ => mi_uw2
  | 3, _ => mi_uw3
  | 4, _ => mi_uw4
  | 5, _ => mi_uw5
  | 6, _ => mi_uw6
  | 7, _ => mi_uw7
  | 8, _ => mi_uw8
  | 9, _ => mi_uw9
  | 10, _ => mi_uw10
  | 11, _ => mi_uw11
  | 12, _ => mi_uw12
  | _ + 13, h => absurd h (by omega)
/-- a method: its name, bytes, locals, what it returns -/
abbrev mi_MD : Type := MethodName × ByteArray × Nat × Option FieldType
/-- a field link: the class's entry names that field of that kind -/
def mi_fl (own : String) (index k f : Nat) : Prop := k < 13 ∧ f < mi_Cs k ∧ Cond.fieldLink own index (mi_Ct k f).1 (mi_Ct k f).2.1 (mi_Ct k f).2.2.1 ∈ mi_T
def mi_lv (own : String) (index : Nat) (y' : mi_MD) (n k : Nat) : Prop := (k < 13 ∧ y'.1.cls = mi_Cn k) ∧ (Cond.methodLink own index y'.1 ∈ mi_T ∧ Cond.instanceMethod y'.1 ∈ mi_T ∧ Cond.selects y'.1.cls y'.1 y'.1 ∈ mi_T ∧ Cond.initialized y'.1.cls ∈ mi_T ∧ Cond.code y'.1 y'.2.1 y'.2.2.1 y'.2.2.2 ∈ mi_T) ∧ (y'.1.cls ≠ "java/lang/invoke/MethodHandle" ∧ y'.1.cls ≠ "java/lang/invoke/VarHandle" ∧ (parseMethodDescriptor y'.1.desc).map (fun d => d.parameters.length) = some n) ∧ y'.2.2.1 ≤ 40
def mi_ls (own : String) (index : Nat) (y' : mi_MD) (n : Nat) : Prop := (Cond.methodLink own index y'.1 ∈ mi_T ∧ Cond.static y'.1 ∈ mi_T ∧ Cond.initialized y'.1.cls ∈ mi_T ∧ Cond.code y'.1 y'.2.1 y'.2.2.1 y'.2.2.2 ∈ mi_T) ∧ (y'.1.cls ≠ "java/lang/invoke/MethodHandle" ∧ y'.1.cls ≠ "java/lang/invoke/VarHandle" ∧ (parseMethodDescriptor y'.1.desc).map (fun d => d.parameters.length) = some n) ∧ y'.2.2.1 ≤ 40
/-- private static methods of a nest mate: class, entry, method, host -/
def mi_nest : List (String × Nat × MethodName × String) := [("PardonLamps$Tape", 17, ⟨"PardonLamps", "isWithin", "(III)Z"⟩, "PardonLamps"), ("PardonLamps$Teller", 204, ⟨"PardonLamps", "isWithin", "(III)Z"⟩, "PardonLamps"), ("PardonLamps$Teller", 149, ⟨"PardonLamps", "holds", "(II)Z"⟩, "PardonLamps"), ("PardonLamps$Town", 65, ⟨"PardonLamps", "isWithin", "(III)Z"⟩, "PardonLamps"), ("PardonLamps$State", 52, ⟨"PardonLamps", "holds", "(II)Z"⟩, "PardonLamps"), ("PardonLamps$Town", 77, ⟨"PardonLamps", "clamp", "(III)I"⟩, "PardonLamps"), ("PardonLamps$Lighter", 96, ⟨"PardonLamps", "holds", "(II)Z"⟩, "PardonLamps"), ("PardonLamps$Lighter", 112, ⟨"PardonLamps", "isPartOf", "(II)Z"⟩, "PardonLamps"), ("PardonLamps$Past", 51, ⟨"PardonLamps", "holds", "(II)Z"⟩, "PardonLamps")]
def mi_lsn (own : String) (index : Nat) (host : String) (y' : mi_MD) (n : Nat) : Prop := ((own, index, y'.1, host) ∈ mi_nest ∧ Cond.static y'.1 ∈ mi_T ∧ Cond.initialized y'.1.cls ∈ mi_T ∧ Cond.code y'.1 y'.2.1 y'.2.2.1 y'.2.2.2 ∈ mi_T) ∧ (y'.1.cls ≠ "java/lang/invoke/MethodHandle" ∧ y'.1.cls ≠ "java/lang/invoke/VarHandle" ∧ (parseMethodDescriptor y'.1.desc).map (fun d => d.parameters.length) = some n) ∧ y'.2.2.1 ≤ 40
