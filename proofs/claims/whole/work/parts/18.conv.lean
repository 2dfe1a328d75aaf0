def mi_ofl : List (List Nat) := [[112], [152, 175], [136], [8], [108, 80, 88, 96, 104], [4, 12, 16, 20, 24, 28, 32, 36, 40, 44, 48, 52, 56, 60, 64, 68, 72, 76, 84, 92, 100, 113, 120, 124, 128, 132], [2], [1], [145, 168], [157, 180], [191, 195], [0], [199], [117], [118], [119], [153, 176], [154, 177], [155, 178], [156, 179], [137], [138], [139], [140], [141], [142], [143], [144], [9], [10], [11], [109, 81, 89, 97, 105], [110, 82, 90, 98, 106], [111, 83, 91, 99, 107], [5, 13, 17, 21, 25, 29, 33, 37, 41, 45, 49, 53, 57, 61, 65, 69, 73, 77, 85, 93, 101, 114, 121, 125, 129, 133], [6, 14, 18, 22, 26, 30, 34, 38, 42, 46, 50, 54, 58, 62, 66, 70, 74, 78, 86, 94, 102, 115, 122, 126, 130, 134], [7, 15, 19, 23, 27, 31, 35, 39, 43, 47, 51, 55, 59, 63, 67, 71, 75, 79, 87, 95, 103, 116, 123, 127, 131, 135], [3], [146, 169], [147, 170], [148, 171], [149, 172], [150, 173], [151, 174], [158, 181], [165, 188], [166, 189], [167, 190], [192, 196], [193, 197], [194, 198], [200], [201], [202], [203], [204], [205], [206], [207], [208], [209], [210], [211], [212], [213], [214], [215], [216], [217], [218], [219], [220], [221], [222], [223], [224], [159, 160, 161, 162, 163, 164, 182, 183, 184, 185, 186, 187]]
def mi_off (k i : Nat) : Nat := (mi_ofl.getD k []).getD i 0
def mi_ad (N0 : Nat) (aS : Nat → Nat → Nat) (k i : Nat) : Nat := if k < 300 then N0 + mi_off k i else aS k i
abbrev mi_GG (D : va_G) (cys : Nat → ClassId) (N0 : Nat) (aS : Nat → Nat → Nat) : mi_G := (D, mi_ad N0 aS, cys)
def mi_wds : Nat → Int64 := (vp_updL (vp_updL (vp_updL (vp_updL (vp_updL (vp_updL (vp_updL (vp_updL (vp_updL (vp_updL (vp_updL (vp_updL (vp_updL (vp_updL (vp_updL (vp_updL (vp_updL (vp_updL (vp_updL (vp_updL (vp_updL (vp_updL (vp_updL (vp_updL (vp_updL (vp_updL (fun _ => 0) 0 (1119812451)) 1 (6395136)) 2 (609728)) 3 (44038517)) 4 (755)) 5 (975695)) 6 (1166843)) 7 (2793)) 8 (1177862)) 9 (43890307)) 10 (15248385)) 11 (4837214)) 12 (26073)) 13 (367711)) 14 (2083)) 15 (26704030)) 16 (30596128)) 17 (36689632)) 18 (35672571)) 19 (1143701655)) 20 (19741)) 21 (1891)) 22 (573)) 23 (22565491)) 24 (983613)) 25 (988049129))
def mi_m1 : mi_M := (fun _ _ _ => 0, fun k _ => if k = 55 then mi_wds else fun _ => 0, fun p => if p = 1 then 1 else if p = 3 then 1 else 0)
def wd_12 (G : mi_G) (N0 : Nat) : va_W := ((N0 + 199, .inr (12, [.int 0, .ref (N0 + 200), .int 0, .int 0, .ref (N0 + 201), .ref (N0 + 202), .ref (N0 + 203), .int 0, .int 0, .ref (N0 + 204), .ref (N0 + 205), .ref (N0 + 206), .ref (N0 + 207), .int 0, .ref (N0 + 208), .ref (N0 + 209), .int 0, .int 0, .ref (N0 + 210), .ref (N0 + 211), .ref (N0 + 212), .ref (N0 + 213), .int 0, .ref (N0 + 214), .int 0, .ref (N0 + 215), .ref (N0 + 216), .ref (N0 + 217), .ref (N0 + 218), .ref (N0 + 219), .ref (N0 + 220), .int 0, .ref (N0 + 221), .ref (N0 + 222), .int 0, .int 0, .int 0, .ref (N0 + 223), .ref (N0 + 224), .long 0])) :: [(N0 + 200, ai G 1000), (N0 + 201, ai G 1002), (N0 + 202, ai G 1002), (N0 + 203, al G 1002), (N0 + 204, .inl (G.2.2 1, 26, .inr (.inl (vp_updL (vp_updL (vp_updL (vp_updL (vp_updL (vp_updL (vp_updL (vp_updL (vp_updL (vp_updL (vp_updL (vp_updL (vp_updL (vp_updL (vp_updL (vp_updL (vp_updL (vp_updL (vp_updL (vp_updL (vp_updL (vp_updL (vp_updL (vp_updL (vp_updL (vp_updL (fun _ => 0) 0 (1119812451)) 1 (6395136)) 2 (609728)) 3 (44038517)) 4 (755)) 5 (975695)) 6 (1166843)) 7 (2793)) 8 (1177862)) 9 (43890307)) 10 (15248385)) 11 (4837214)) 12 (26073)) 13 (367711)) 14 (2083)) 15 (26704030)) 16 (30596128)) 17 (36689632)) 18 (35672571)) 19 (1143701655)) 20 (19741)) 21 (1891)) 22 (573)) 23 (22565491)) 24 (983613)) 25 (988049129))))), (N0 + 205, ai G 200), (N0 + 206, ai G 2200), (N0 + 207, ai G 2200), (N0 + 208, al G 6), (N0 + 209, al G 6), (N0 + 210, ai G 200), (N0 + 211, ai G 3), (N0 + 212, ai G 1100), (N0 + 213, ai G 1449), (N0 + 214, az G 4), (N0 + 215, ai G 36), (N0 + 216, ai G 36), (N0 + 217, ai G 36), (N0 + 218, ai G 6), (N0 + 219, ai G 3), (N0 + 220, ai G 3), (N0 + 221, ai G 36), (N0 + 222, ai G 6), (N0 + 223, ai G 6), (N0 + 224, ai G 60)])
theorem mi_kt_l : mi_kt = [(0, 0), (1, 0), (1, 1), (2, 0), (3, 0), (4, 0), (4, 1), (4, 2), (4, 3), (4, 4), (5, 0), (5, 1), (5, 2), (5, 3), (5, 4), (5, 5), (5, 6), (5, 7), (5, 8), (5, 9), (5, 10), (5, 11), (5, 12), (5, 13), (5, 14), (5, 15), (5, 16), (5, 17), (5, 18), (5, 19), (5, 20), (5, 21), (5, 22), (5, 23), (5, 24), (5, 25), (6, 0), (7, 0), (8, 0), (8, 1), (9, 0), (9, 1), (10, 0), (10, 1), (11, 0), (12, 0), (13, 0), (14, 0), (15, 0), (16, 0), (16, 1), (17, 0), (17, 1), (18, 0), (18, 1), (19, 0), (19, 1), (20, 0), (21, 0), (22, 0), (23, 0), (24, 0), (25, 0), (26, 0), (27, 0), (28, 0), (29, 0), (30, 0), (31, 0), (31, 1), (31, 2), (31, 3), (31, 4), (32, 0), (32, 1), (32, 2), (32, 3), (32, 4), (33, 0), (33, 1), (33, 2), (33, 3), (33, 4), (34, 0), (34, 1), (34, 2), (34, 3), (34, 4), (34, 5), (34, 6), (34, 7), (34, 8), (34, 9), (34, 10), (34, 11), (34, 12), (34, 13), (34, 14), (34, 15), (34, 16), (34, 17), (34, 18), (34, 19), (34, 20), (34, 21), (34, 22), (34, 23), (34, 24), (34, 25), (35, 0), (35, 1), (35, 2), (35, 3), (35, 4), (35, 5), (35, 6), (35, 7), (35, 8), (35, 9), (35, 10), (35, 11), (35, 12), (35, 13), (35, 14), (35, 15), (35, 16), (35, 17), (35, 18), (35, 19), (35, 20), (35, 21), (35, 22), (35, 23), (35, 24), (35, 25), (36, 0), (36, 1), (36, 2), (36, 3), (36, 4), (36, 5), (36, 6), (36, 7), (36, 8), (36, 9), (36, 10), (36, 11), (36, 12), (36, 13), (36, 14), (36, 15), (36, 16), (36, 17), (36, 18), (36, 19), (36, 20), (36, 21), (36, 22), (36, 23), (36, 24), (36, 25), (37, 0), (38, 0), (38, 1), (39, 0), (39, 1), (40, 0), (40, 1), (41, 0), (41, 1), (42, 0), (42, 1), (43, 0), (43, 1), (44, 0), (44, 1), (45, 0), (45, 1), (46, 0), (46, 1), (47, 0), (47, 1), (48, 0), (48, 1), (49, 0), (49, 1), (50, 0), (50, 1), (51, 0), (52, 0), (53, 0), (54, 0), (55, 0), (56, 0), (57, 0), (58, 0), (59, 0), (60, 0), (61, 0), (62, 0), (63, 0), (64, 0), (65, 0), (66, 0), (67, 0), (68, 0), (69, 0), (70, 0), (71, 0), (72, 0), (73, 0), (74, 0), (75, 0), (76, 0), (76, 1), (76, 2), (76, 3), (76, 4), (76, 5), (76, 6), (76, 7), (76, 8), (76, 9), (76, 10), (76, 11)] := by decide +kernel
theorem va_atq {D : va_G} {cl : List vw_C} {q N : Nat} {c : ClassId} {f g : Nat → Option Nat} {H : Heap} (h : va_at D cl (q, .inl (c, N, .inr (.inr (.inr (.inr f))))) H) (e : ∀ j, j < N → f j = g j) : va_at D cl (q, .inl (c, N, .inr (.inr (.inr (.inr g))))) H := by
  have h : H[q]? = some (vp_cell c (N, .inr (.inr (.inr (.inr f))))) := h
  show H[q]? = some (vp_cell c (N, .inr (.inr (.inr (.inr g)))))
  have e2 : (Array.ofFn (n := N) fun j => va_rf (f j.val)) = Array.ofFn (n := N) fun j => va_rf (g j.val) := by
    congr 1
    funext j
    rw [e j.val j.isLt]
  rw [h, vp_cell_q, vp_cell_q]
  unfold arrV
  rw [e2]
set_option maxRecDepth 100000 in
theorem cv_0 {D : va_G} {cys : Nat → ClassId} {N0 : Nat} {aS : Nat → Nat → Nat} {H : Heap} (hP : va_P D vwCl (wd_12 (mi_GG D cys N0 aS) N0 ++ wd_11 (mi_GG D cys N0 aS) N0 (N0 + 1)) H) : va_at D vwCl (mi_ad N0 aS 0 0, mi_c (mi_GG D cys N0 aS) mi_m1 (0, 0)) H := hP 138 _ rfl
set_option maxRecDepth 100000 in
theorem cv_1 {D : va_G} {cys : Nat → ClassId} {N0 : Nat} {aS : Nat → Nat → Nat} {H : Heap} (hP : va_P D vwCl (wd_12 (mi_GG D cys N0 aS) N0 ++ wd_11 (mi_GG D cys N0 aS) N0 (N0 + 1)) H) : va_at D vwCl (mi_ad N0 aS 1 0, mi_c (mi_GG D cys N0 aS) mi_m1 (1, 0)) H := hP 178 _ rfl
set_option maxRecDepth 100000 in
theorem cv_2 {D : va_G} {cys : Nat → ClassId} {N0 : Nat} {aS : Nat → Nat → Nat} {H : Heap} (hP : va_P D vwCl (wd_12 (mi_GG D cys N0 aS) N0 ++ wd_11 (mi_GG D cys N0 aS) N0 (N0 + 1)) H) : va_at D vwCl (mi_ad N0 aS 1 1, mi_c (mi_GG D cys N0 aS) mi_m1 (1, 1)) H := hP 201 _ rfl
set_option maxRecDepth 100000 in
theorem cv_3 {D : va_G} {cys : Nat → ClassId} {N0 : Nat} {aS : Nat → Nat → Nat} {H : Heap} (hP : va_P D vwCl (wd_12 (mi_GG D cys N0 aS) N0 ++ wd_11 (mi_GG D cys N0 aS) N0 (N0 + 1)) H) : va_at D vwCl (mi_ad N0 aS 2 0, mi_c (mi_GG D cys N0 aS) mi_m1 (2, 0)) H := hP 162 _ rfl
set_option maxRecDepth 100000 in
theorem cv_4 {D : va_G} {cys : Nat → ClassId} {N0 : Nat} {aS : Nat → Nat → Nat} {H : Heap} (hP : va_P D vwCl (wd_12 (mi_GG D cys N0 aS) N0 ++ wd_11 (mi_GG D cys N0 aS) N0 (N0 + 1)) H) : va_at D vwCl (mi_ad N0 aS 3 0, mi_c (mi_GG D cys N0 aS) mi_m1 (3, 0)) H := hP 34 _ rfl
set_option maxRecDepth 100000 in
theorem cv_5 {D : va_G} {cys : Nat → ClassId} {N0 : Nat} {aS : Nat → Nat → Nat} {H : Heap} (hP : va_P D vwCl (wd_12 (mi_GG D cys N0 aS) N0 ++ wd_11 (mi_GG D cys N0 aS) N0 (N0 + 1)) H) : va_at D vwCl (mi_ad N0 aS 4 0, mi_c (mi_GG D cys N0 aS) mi_m1 (4, 0)) H := hP 134 _ rfl
set_option maxRecDepth 100000 in
theorem cv_6 {D : va_G} {cys : Nat → ClassId} {N0 : Nat} {aS : Nat → Nat → Nat} {H : Heap} (hP : va_P D vwCl (wd_12 (mi_GG D cys N0 aS) N0 ++ wd_11 (mi_GG D cys N0 aS) N0 (N0 + 1)) H) : va_at D vwCl (mi_ad N0 aS 4 1, mi_c (mi_GG D cys N0 aS) mi_m1 (4, 1)) H := hP 106 _ rfl
set_option maxRecDepth 100000 in
theorem cv_7 {D : va_G} {cys : Nat → ClassId} {N0 : Nat} {aS : Nat → Nat → Nat} {H : Heap} (hP : va_P D vwCl (wd_12 (mi_GG D cys N0 aS) N0 ++ wd_11 (mi_GG D cys N0 aS) N0 (N0 + 1)) H) : va_at D vwCl (mi_ad N0 aS 4 2, mi_c (mi_GG D cys N0 aS) mi_m1 (4, 2)) H := hP 114 _ rfl
set_option maxRecDepth 100000 in
theorem cv_8 {D : va_G} {cys : Nat → ClassId} {N0 : Nat} {aS : Nat → Nat → Nat} {H : Heap} (hP : va_P D vwCl (wd_12 (mi_GG D cys N0 aS) N0 ++ wd_11 (mi_GG D cys N0 aS) N0 (N0 + 1)) H) : va_at D vwCl (mi_ad N0 aS 4 3, mi_c (mi_GG D cys N0 aS) mi_m1 (4, 3)) H := hP 122 _ rfl
set_option maxRecDepth 100000 in
theorem cv_9 {D : va_G} {cys : Nat → ClassId} {N0 : Nat} {aS : Nat → Nat → Nat} {H : Heap} (hP : va_P D vwCl (wd_12 (mi_GG D cys N0 aS) N0 ++ wd_11 (mi_GG D cys N0 aS) N0 (N0 + 1)) H) : va_at D vwCl (mi_ad N0 aS 4 4, mi_c (mi_GG D cys N0 aS) mi_m1 (4, 4)) H := hP 130 _ rfl
set_option maxRecDepth 100000 in
theorem cv_10 {D : va_G} {cys : Nat → ClassId} {N0 : Nat} {aS : Nat → Nat → Nat} {H : Heap} (hP : va_P D vwCl (wd_12 (mi_GG D cys N0 aS) N0 ++ wd_11 (mi_GG D cys N0 aS) N0 (N0 + 1)) H) : va_at D vwCl (mi_ad N0 aS 5 0, mi_c (mi_GG D cys N0 aS) mi_m1 (5, 0)) H := hP 30 _ rfl
set_option maxRecDepth 100000 in
theorem cv_11 {D : va_G} {cys : Nat → ClassId} {N0 : Nat} {aS : Nat → Nat → Nat} {H : Heap} (hP : va_P D vwCl (wd_12 (mi_GG D cys N0 aS) N0 ++ wd_11 (mi_GG D cys N0 aS) N0 (N0 + 1)) H) : va_at D vwCl (mi_ad N0 aS 5 1, mi_c (mi_GG D cys N0 aS) mi_m1 (5, 1)) H := hP 38 _ rfl
set_option maxRecDepth 100000 in
theorem cv_12 {D : va_G} {cys : Nat → ClassId} {N0 : Nat} {aS : Nat → Nat → Nat} {H : Heap} (hP : va_P D vwCl (wd_12 (mi_GG D cys N0 aS) N0 ++ wd_11 (mi_GG D cys N0 aS) N0 (N0 + 1)) H) : va_at D vwCl (mi_ad N0 aS 5 2, mi_c (mi_GG D cys N0 aS) mi_m1 (5, 2)) H := hP 42 _ rfl
set_option maxRecDepth 100000 in
theorem cv_13 {D : va_G} {cys : Nat → ClassId} {N0 : Nat} {aS : Nat → Nat → Nat} {H : Heap} (hP : va_P D vwCl (wd_12 (mi_GG D cys N0 aS) N0 ++ wd_11 (mi_GG D cys N0 aS) N0 (N0 + 1)) H) : va_at D vwCl (mi_ad N0 aS 5 3, mi_c (mi_GG D cys N0 aS) mi_m1 (5, 3)) H := hP 46 _ rfl
set_option maxRecDepth 100000 in
theorem cv_14 {D : va_G} {cys : Nat → ClassId} {N0 : Nat} {aS : Nat → Nat → Nat} {H : Heap} (hP : va_P D vwCl (wd_12 (mi_GG D cys N0 aS) N0 ++ wd_11 (mi_GG D cys N0 aS) N0 (N0 + 1)) H) : va_at D vwCl (mi_ad N0 aS 5 4, mi_c (mi_GG D cys N0 aS) mi_m1 (5, 4)) H := hP 50 _ rfl
set_option maxRecDepth 100000 in
theorem cv_15 {D : va_G} {cys : Nat → ClassId} {N0 : Nat} {aS : Nat → Nat → Nat} {H : Heap} (hP : va_P D vwCl (wd_12 (mi_GG D cys N0 aS) N0 ++ wd_11 (mi_GG D cys N0 aS) N0 (N0 + 1)) H) : va_at D vwCl (mi_ad N0 aS 5 5, mi_c (mi_GG D cys N0 aS) mi_m1 (5, 5)) H := hP 54 _ rfl
set_option maxRecDepth 100000 in
theorem cv_16 {D : va_G} {cys : Nat → ClassId} {N0 : Nat} {aS : Nat → Nat → Nat} {H : Heap} (hP : va_P D vwCl (wd_12 (mi_GG D cys N0 aS) N0 ++ wd_11 (mi_GG D cys N0 aS) N0 (N0 + 1)) H) : va_at D vwCl (mi_ad N0 aS 5 6, mi_c (mi_GG D cys N0 aS) mi_m1 (5, 6)) H := hP 58 _ rfl
set_option maxRecDepth 100000 in
theorem cv_17 {D : va_G} {cys : Nat → ClassId} {N0 : Nat} {aS : Nat → Nat → Nat} {H : Heap} (hP : va_P D vwCl (wd_12 (mi_GG D cys N0 aS) N0 ++ wd_11 (mi_GG D cys N0 aS) N0 (N0 + 1)) H) : va_at D vwCl (mi_ad N0 aS 5 7, mi_c (mi_GG D cys N0 aS) mi_m1 (5, 7)) H := hP 62 _ rfl
set_option maxRecDepth 100000 in
theorem cv_18 {D : va_G} {cys : Nat → ClassId} {N0 : Nat} {aS : Nat → Nat → Nat} {H : Heap} (hP : va_P D vwCl (wd_12 (mi_GG D cys N0 aS) N0 ++ wd_11 (mi_GG D cys N0 aS) N0 (N0 + 1)) H) : va_at D vwCl (mi_ad N0 aS 5 8, mi_c (mi_GG D cys N0 aS) mi_m1 (5, 8)) H := hP 66 _ rfl
set_option maxRecDepth 100000 in
theorem cv_19 {D : va_G} {cys : Nat → ClassId} {N0 : Nat} {aS : Nat → Nat → Nat} {H : Heap} (hP : va_P D vwCl (wd_12 (mi_GG D cys N0 aS) N0 ++ wd_11 (mi_GG D cys N0 aS) N0 (N0 + 1)) H) : va_at D vwCl (mi_ad N0 aS 5 9, mi_c (mi_GG D cys N0 aS) mi_m1 (5, 9)) H := hP 70 _ rfl
set_option maxRecDepth 100000 in
theorem cv_20 {D : va_G} {cys : Nat → ClassId} {N0 : Nat} {aS : Nat → Nat → Nat} {H : Heap} (hP : va_P D vwCl (wd_12 (mi_GG D cys N0 aS) N0 ++ wd_11 (mi_GG D cys N0 aS) N0 (N0 + 1)) H) : va_at D vwCl (mi_ad N0 aS 5 10, mi_c (mi_GG D cys N0 aS) mi_m1 (5, 10)) H := hP 74 _ rfl
set_option maxRecDepth 100000 in
theorem cv_21 {D : va_G} {cys : Nat → ClassId} {N0 : Nat} {aS : Nat → Nat → Nat} {H : Heap} (hP : va_P D vwCl (wd_12 (mi_GG D cys N0 aS) N0 ++ wd_11 (mi_GG D cys N0 aS) N0 (N0 + 1)) H) : va_at D vwCl (mi_ad N0 aS 5 11, mi_c (mi_GG D cys N0 aS) mi_m1 (5, 11)) H := hP 78 _ rfl
set_option maxRecDepth 100000 in
theorem cv_22 {D : va_G} {cys : Nat → ClassId} {N0 : Nat} {aS : Nat → Nat → Nat} {H : Heap} (hP : va_P D vwCl (wd_12 (mi_GG D cys N0 aS) N0 ++ wd_11 (mi_GG D cys N0 aS) N0 (N0 + 1)) H) : va_at D vwCl (mi_ad N0 aS 5 12, mi_c (mi_GG D cys N0 aS) mi_m1 (5, 12)) H := hP 82 _ rfl
set_option maxRecDepth 100000 in
theorem cv_23 {D : va_G} {cys : Nat → ClassId} {N0 : Nat} {aS : Nat → Nat → Nat} {H : Heap} (hP : va_P D vwCl (wd_12 (mi_GG D cys N0 aS) N0 ++ wd_11 (mi_GG D cys N0 aS) N0 (N0 + 1)) H) : va_at D vwCl (mi_ad N0 aS 5 13, mi_c (mi_GG D cys N0 aS) mi_m1 (5, 13)) H := hP 86 _ rfl
set_option maxRecDepth 100000 in
theorem cv_24 {D : va_G} {cys : Nat → ClassId} {N0 : Nat} {aS : Nat → Nat → Nat} {H : Heap} (hP : va_P D vwCl (wd_12 (mi_GG D cys N0 aS) N0 ++ wd_11 (mi_GG D cys N0 aS) N0 (N0 + 1)) H) : va_at D vwCl (mi_ad N0 aS 5 14, mi_c (mi_GG D cys N0 aS) mi_m1 (5, 14)) H := hP 90 _ rfl
set_option maxRecDepth 100000 in
theorem cv_25 {D : va_G} {cys : Nat → ClassId} {N0 : Nat} {aS : Nat → Nat → Nat} {H : Heap} (hP : va_P D vwCl (wd_12 (mi_GG D cys N0 aS) N0 ++ wd_11 (mi_GG D cys N0 aS) N0 (N0 + 1)) H) : va_at D vwCl (mi_ad N0 aS 5 15, mi_c (mi_GG D cys N0 aS) mi_m1 (5, 15)) H := hP 94 _ rfl
set_option maxRecDepth 100000 in
theorem cv_26 {D : va_G} {cys : Nat → ClassId} {N0 : Nat} {aS : Nat → Nat → Nat} {H : Heap} (hP : va_P D vwCl (wd_12 (mi_GG D cys N0 aS) N0 ++ wd_11 (mi_GG D cys N0 aS) N0 (N0 + 1)) H) : va_at D vwCl (mi_ad N0 aS 5 16, mi_c (mi_GG D cys N0 aS) mi_m1 (5, 16)) H := hP 98 _ rfl
set_option maxRecDepth 100000 in
theorem cv_27 {D : va_G} {cys : Nat → ClassId} {N0 : Nat} {aS : Nat → Nat → Nat} {H : Heap} (hP : va_P D vwCl (wd_12 (mi_GG D cys N0 aS) N0 ++ wd_11 (mi_GG D cys N0 aS) N0 (N0 + 1)) H) : va_at D vwCl (mi_ad N0 aS 5 17, mi_c (mi_GG D cys N0 aS) mi_m1 (5, 17)) H := hP 102 _ rfl
set_option maxRecDepth 100000 in
theorem cv_28 {D : va_G} {cys : Nat → ClassId} {N0 : Nat} {aS : Nat → Nat → Nat} {H : Heap} (hP : va_P D vwCl (wd_12 (mi_GG D cys N0 aS) N0 ++ wd_11 (mi_GG D cys N0 aS) N0 (N0 + 1)) H) : va_at D vwCl (mi_ad N0 aS 5 18, mi_c (mi_GG D cys N0 aS) mi_m1 (5, 18)) H := hP 110 _ rfl
set_option maxRecDepth 100000 in
theorem cv_29 {D : va_G} {cys : Nat → ClassId} {N0 : Nat} {aS : Nat → Nat → Nat} {H : Heap} (hP : va_P D vwCl (wd_12 (mi_GG D cys N0 aS) N0 ++ wd_11 (mi_GG D cys N0 aS) N0 (N0 + 1)) H) : va_at D vwCl (mi_ad N0 aS 5 19, mi_c (mi_GG D cys N0 aS) mi_m1 (5, 19)) H := hP 118 _ rfl
set_option maxRecDepth 100000 in
theorem cv_30 {D : va_G} {cys : Nat → ClassId} {N0 : Nat} {aS : Nat → Nat → Nat} {H : Heap} (hP : va_P D vwCl (wd_12 (mi_GG D cys N0 aS) N0 ++ wd_11 (mi_GG D cys N0 aS) N0 (N0 + 1)) H) : va_at D vwCl (mi_ad N0 aS 5 20, mi_c (mi_GG D cys N0 aS) mi_m1 (5, 20)) H := hP 126 _ rfl
set_option maxRecDepth 100000 in
theorem cv_31 {D : va_G} {cys : Nat → ClassId} {N0 : Nat} {aS : Nat → Nat → Nat} {H : Heap} (hP : va_P D vwCl (wd_12 (mi_GG D cys N0 aS) N0 ++ wd_11 (mi_GG D cys N0 aS) N0 (N0 + 1)) H) : va_at D vwCl (mi_ad N0 aS 5 21, mi_c (mi_GG D cys N0 aS) mi_m1 (5, 21)) H := hP 139 _ rfl
set_option maxRecDepth 100000 in
theorem cv_32 {D : va_G} {cys : Nat → ClassId} {N0 : Nat} {aS : Nat → Nat → Nat} {H : Heap} (hP : va_P D vwCl (wd_12 (mi_GG D cys N0 aS) N0 ++ wd_11 (mi_GG D cys N0 aS) N0 (N0 + 1)) H) : va_at D vwCl (mi_ad N0 aS 5 22, mi_c (mi_GG D cys N0 aS) mi_m1 (5, 22)) H := hP 146 _ rfl
set_option maxRecDepth 100000 in
theorem cv_33 {D : va_G} {cys : Nat → ClassId} {N0 : Nat} {aS : Nat → Nat → Nat} {H : Heap} (hP : va_P D vwCl (wd_12 (mi_GG D cys N0 aS) N0 ++ wd_11 (mi_GG D cys N0 aS) N0 (N0 + 1)) H) : va_at D vwCl (mi_ad N0 aS 5 23, mi_c (mi_GG D cys N0 aS) mi_m1 (5, 23)) H := hP 150 _ rfl
set_option maxRecDepth 100000 in
theorem cv_34 {D : va_G} {cys : Nat → ClassId} {N0 : Nat} {aS : Nat → Nat → Nat} {H : Heap} (hP : va_P D vwCl (wd_12 (mi_GG D cys N0 aS) N0 ++ wd_11 (mi_GG D cys N0 aS) N0 (N0 + 1)) H) : va_at D vwCl (mi_ad N0 aS 5 24, mi_c (mi_GG D cys N0 aS) mi_m1 (5, 24)) H := hP 154 _ rfl
set_option maxRecDepth 100000 in
theorem cv_35 {D : va_G} {cys : Nat → ClassId} {N0 : Nat} {aS : Nat → Nat → Nat} {H : Heap} (hP : va_P D vwCl (wd_12 (mi_GG D cys N0 aS) N0 ++ wd_11 (mi_GG D cys N0 aS) N0 (N0 + 1)) H) : va_at D vwCl (mi_ad N0 aS 5 25, mi_c (mi_GG D cys N0 aS) mi_m1 (5, 25)) H := hP 158 _ rfl
set_option maxRecDepth 100000 in
theorem cv_36 {D : va_G} {cys : Nat → ClassId} {N0 : Nat} {aS : Nat → Nat → Nat} {H : Heap} (hP : va_P D vwCl (wd_12 (mi_GG D cys N0 aS) N0 ++ wd_11 (mi_GG D cys N0 aS) N0 (N0 + 1)) H) : va_at D vwCl (mi_ad N0 aS 6 0, mi_c (mi_GG D cys N0 aS) mi_m1 (6, 0)) H := hP 28 _ rfl
set_option maxRecDepth 100000 in
theorem cv_37 {D : va_G} {cys : Nat → ClassId} {N0 : Nat} {aS : Nat → Nat → Nat} {H : Heap} (hP : va_P D vwCl (wd_12 (mi_GG D cys N0 aS) N0 ++ wd_11 (mi_GG D cys N0 aS) N0 (N0 + 1)) H) : va_at D vwCl (mi_ad N0 aS 7 0, mi_c (mi_GG D cys N0 aS) mi_m1 (7, 0)) H := hP 27 _ rfl
set_option maxRecDepth 100000 in
theorem cv_38 {D : va_G} {cys : Nat → ClassId} {N0 : Nat} {aS : Nat → Nat → Nat} {H : Heap} (hP : va_P D vwCl (wd_12 (mi_GG D cys N0 aS) N0 ++ wd_11 (mi_GG D cys N0 aS) N0 (N0 + 1)) H) : va_at D vwCl (mi_ad N0 aS 8 0, mi_c (mi_GG D cys N0 aS) mi_m1 (8, 0)) H := hP 171 _ rfl
set_option maxRecDepth 100000 in
theorem cv_39 {D : va_G} {cys : Nat → ClassId} {N0 : Nat} {aS : Nat → Nat → Nat} {H : Heap} (hP : va_P D vwCl (wd_12 (mi_GG D cys N0 aS) N0 ++ wd_11 (mi_GG D cys N0 aS) N0 (N0 + 1)) H) : va_at D vwCl (mi_ad N0 aS 8 1, mi_c (mi_GG D cys N0 aS) mi_m1 (8, 1)) H := hP 194 _ rfl
set_option maxRecDepth 100000 in
theorem cv_40 {D : va_G} {cys : Nat → ClassId} {N0 : Nat} {aS : Nat → Nat → Nat} {H : Heap} (hP : va_P D vwCl (wd_12 (mi_GG D cys N0 aS) N0 ++ wd_11 (mi_GG D cys N0 aS) N0 (N0 + 1)) H) : va_at D vwCl (mi_ad N0 aS 9 0, mi_c (mi_GG D cys N0 aS) mi_m1 (9, 0)) H := hP 183 _ rfl
set_option maxRecDepth 100000 in
theorem cv_41 {D : va_G} {cys : Nat → ClassId} {N0 : Nat} {aS : Nat → Nat → Nat} {H : Heap} (hP : va_P D vwCl (wd_12 (mi_GG D cys N0 aS) N0 ++ wd_11 (mi_GG D cys N0 aS) N0 (N0 + 1)) H) : va_at D vwCl (mi_ad N0 aS 9 1, mi_c (mi_GG D cys N0 aS) mi_m1 (9, 1)) H := hP 206 _ rfl
set_option maxRecDepth 100000 in
theorem cv_42 {D : va_G} {cys : Nat → ClassId} {N0 : Nat} {aS : Nat → Nat → Nat} {H : Heap} (hP : va_P D vwCl (wd_12 (mi_GG D cys N0 aS) N0 ++ wd_11 (mi_GG D cys N0 aS) N0 (N0 + 1)) H) : va_at D vwCl (mi_ad N0 aS 10 0, mi_c (mi_GG D cys N0 aS) mi_m1 (10, 0)) H := hP 217 _ rfl
set_option maxRecDepth 100000 in
theorem cv_43 {D : va_G} {cys : Nat → ClassId} {N0 : Nat} {aS : Nat → Nat → Nat} {H : Heap} (hP : va_P D vwCl (wd_12 (mi_GG D cys N0 aS) N0 ++ wd_11 (mi_GG D cys N0 aS) N0 (N0 + 1)) H) : va_at D vwCl (mi_ad N0 aS 10 1, mi_c (mi_GG D cys N0 aS) mi_m1 (10, 1)) H := hP 221 _ rfl
set_option maxRecDepth 100000 in
theorem cv_44 {D : va_G} {cys : Nat → ClassId} {N0 : Nat} {aS : Nat → Nat → Nat} {H : Heap} (hP : va_P D vwCl (wd_12 (mi_GG D cys N0 aS) N0 ++ wd_11 (mi_GG D cys N0 aS) N0 (N0 + 1)) H) : va_at D vwCl (mi_ad N0 aS 11 0, mi_c (mi_GG D cys N0 aS) mi_m1 (11, 0)) H := hP 26 _ rfl
set_option maxRecDepth 100000 in
theorem cv_45 {D : va_G} {cys : Nat → ClassId} {N0 : Nat} {aS : Nat → Nat → Nat} {H : Heap} (hP : va_P D vwCl (wd_12 (mi_GG D cys N0 aS) N0 ++ wd_11 (mi_GG D cys N0 aS) N0 (N0 + 1)) H) : va_at D vwCl (mi_ad N0 aS 12 0, mi_c (mi_GG D cys N0 aS) mi_m1 (12, 0)) H := hP 0 _ rfl
set_option maxRecDepth 100000 in
theorem cv_46 {D : va_G} {cys : Nat → ClassId} {N0 : Nat} {aS : Nat → Nat → Nat} {H : Heap} (hP : va_P D vwCl (wd_12 (mi_GG D cys N0 aS) N0 ++ wd_11 (mi_GG D cys N0 aS) N0 (N0 + 1)) H) : va_at D vwCl (mi_ad N0 aS 13 0, mi_c (mi_GG D cys N0 aS) mi_m1 (13, 0)) H :=
  va_atq (hP 143 _ rfl) (fun j hj => match j, hj with | 0, _ => rfl | 1, _ => rfl | 2, _ => rfl | 3, _ => rfl | _ + 4, h => absurd h (by omega))
set_option maxRecDepth 100000 in
theorem cv_47 {D : va_G} {cys : Nat → ClassId} {N0 : Nat} {aS : Nat → Nat → Nat} {H : Heap} (hP : va_P D vwCl (wd_12 (mi_GG D cys N0 aS) N0 ++ wd_11 (mi_GG D cys N0 aS) N0 (N0 + 1)) H) : va_at D vwCl (mi_ad N0 aS 14 0, mi_c (mi_GG D cys N0 aS) mi_m1 (14, 0)) H := hP 144 _ rfl
set_option maxRecDepth 100000 in
theorem cv_48 {D : va_G} {cys : Nat → ClassId} {N0 : Nat} {aS : Nat → Nat → Nat} {H : Heap} (hP : va_P D vwCl (wd_12 (mi_GG D cys N0 aS) N0 ++ wd_11 (mi_GG D cys N0 aS) N0 (N0 + 1)) H) : va_at D vwCl (mi_ad N0 aS 15 0, mi_c (mi_GG D cys N0 aS) mi_m1 (15, 0)) H := hP 145 _ rfl
set_option maxRecDepth 100000 in
theorem cv_49 {D : va_G} {cys : Nat → ClassId} {N0 : Nat} {aS : Nat → Nat → Nat} {H : Heap} (hP : va_P D vwCl (wd_12 (mi_GG D cys N0 aS) N0 ++ wd_11 (mi_GG D cys N0 aS) N0 (N0 + 1)) H) : va_at D vwCl (mi_ad N0 aS 16 0, mi_c (mi_GG D cys N0 aS) mi_m1 (16, 0)) H := hP 179 _ rfl
set_option maxRecDepth 100000 in
theorem cv_50 {D : va_G} {cys : Nat → ClassId} {N0 : Nat} {aS : Nat → Nat → Nat} {H : Heap} (hP : va_P D vwCl (wd_12 (mi_GG D cys N0 aS) N0 ++ wd_11 (mi_GG D cys N0 aS) N0 (N0 + 1)) H) : va_at D vwCl (mi_ad N0 aS 16 1, mi_c (mi_GG D cys N0 aS) mi_m1 (16, 1)) H := hP 202 _ rfl
set_option maxRecDepth 100000 in
theorem cv_51 {D : va_G} {cys : Nat → ClassId} {N0 : Nat} {aS : Nat → Nat → Nat} {H : Heap} (hP : va_P D vwCl (wd_12 (mi_GG D cys N0 aS) N0 ++ wd_11 (mi_GG D cys N0 aS) N0 (N0 + 1)) H) : va_at D vwCl (mi_ad N0 aS 17 0, mi_c (mi_GG D cys N0 aS) mi_m1 (17, 0)) H := hP 180 _ rfl
set_option maxRecDepth 100000 in
theorem cv_52 {D : va_G} {cys : Nat → ClassId} {N0 : Nat} {aS : Nat → Nat → Nat} {H : Heap} (hP : va_P D vwCl (wd_12 (mi_GG D cys N0 aS) N0 ++ wd_11 (mi_GG D cys N0 aS) N0 (N0 + 1)) H) : va_at D vwCl (mi_ad N0 aS 17 1, mi_c (mi_GG D cys N0 aS) mi_m1 (17, 1)) H := hP 203 _ rfl
set_option maxRecDepth 100000 in
theorem cv_53 {D : va_G} {cys : Nat → ClassId} {N0 : Nat} {aS : Nat → Nat → Nat} {H : Heap} (hP : va_P D vwCl (wd_12 (mi_GG D cys N0 aS) N0 ++ wd_11 (mi_GG D cys N0 aS) N0 (N0 + 1)) H) : va_at D vwCl (mi_ad N0 aS 18 0, mi_c (mi_GG D cys N0 aS) mi_m1 (18, 0)) H := hP 181 _ rfl
set_option maxRecDepth 100000 in
theorem cv_54 {D : va_G} {cys : Nat → ClassId} {N0 : Nat} {aS : Nat → Nat → Nat} {H : Heap} (hP : va_P D vwCl (wd_12 (mi_GG D cys N0 aS) N0 ++ wd_11 (mi_GG D cys N0 aS) N0 (N0 + 1)) H) : va_at D vwCl (mi_ad N0 aS 18 1, mi_c (mi_GG D cys N0 aS) mi_m1 (18, 1)) H := hP 204 _ rfl
set_option maxRecDepth 100000 in
theorem cv_55 {D : va_G} {cys : Nat → ClassId} {N0 : Nat} {aS : Nat → Nat → Nat} {H : Heap} (hP : va_P D vwCl (wd_12 (mi_GG D cys N0 aS) N0 ++ wd_11 (mi_GG D cys N0 aS) N0 (N0 + 1)) H) : va_at D vwCl (mi_ad N0 aS 19 0, mi_c (mi_GG D cys N0 aS) mi_m1 (19, 0)) H := hP 182 _ rfl
set_option maxRecDepth 100000 in
theorem cv_56 {D : va_G} {cys : Nat → ClassId} {N0 : Nat} {aS : Nat → Nat → Nat} {H : Heap} (hP : va_P D vwCl (wd_12 (mi_GG D cys N0 aS) N0 ++ wd_11 (mi_GG D cys N0 aS) N0 (N0 + 1)) H) : va_at D vwCl (mi_ad N0 aS 19 1, mi_c (mi_GG D cys N0 aS) mi_m1 (19, 1)) H := hP 205 _ rfl
set_option maxRecDepth 100000 in
theorem cv_57 {D : va_G} {cys : Nat → ClassId} {N0 : Nat} {aS : Nat → Nat → Nat} {H : Heap} (hP : va_P D vwCl (wd_12 (mi_GG D cys N0 aS) N0 ++ wd_11 (mi_GG D cys N0 aS) N0 (N0 + 1)) H) : va_at D vwCl (mi_ad N0 aS 20 0, mi_c (mi_GG D cys N0 aS) mi_m1 (20, 0)) H := hP 163 _ rfl
set_option maxRecDepth 100000 in
theorem cv_58 {D : va_G} {cys : Nat → ClassId} {N0 : Nat} {aS : Nat → Nat → Nat} {H : Heap} (hP : va_P D vwCl (wd_12 (mi_GG D cys N0 aS) N0 ++ wd_11 (mi_GG D cys N0 aS) N0 (N0 + 1)) H) : va_at D vwCl (mi_ad N0 aS 21 0, mi_c (mi_GG D cys N0 aS) mi_m1 (21, 0)) H := hP 164 _ rfl
set_option maxRecDepth 100000 in
theorem cv_59 {D : va_G} {cys : Nat → ClassId} {N0 : Nat} {aS : Nat → Nat → Nat} {H : Heap} (hP : va_P D vwCl (wd_12 (mi_GG D cys N0 aS) N0 ++ wd_11 (mi_GG D cys N0 aS) N0 (N0 + 1)) H) : va_at D vwCl (mi_ad N0 aS 22 0, mi_c (mi_GG D cys N0 aS) mi_m1 (22, 0)) H := hP 165 _ rfl
set_option maxRecDepth 100000 in
theorem cv_60 {D : va_G} {cys : Nat → ClassId} {N0 : Nat} {aS : Nat → Nat → Nat} {H : Heap} (hP : va_P D vwCl (wd_12 (mi_GG D cys N0 aS) N0 ++ wd_11 (mi_GG D cys N0 aS) N0 (N0 + 1)) H) : va_at D vwCl (mi_ad N0 aS 23 0, mi_c (mi_GG D cys N0 aS) mi_m1 (23, 0)) H := hP 166 _ rfl
set_option maxRecDepth 100000 in
theorem cv_61 {D : va_G} {cys : Nat → ClassId} {N0 : Nat} {aS : Nat → Nat → Nat} {H : Heap} (hP : va_P D vwCl (wd_12 (mi_GG D cys N0 aS) N0 ++ wd_11 (mi_GG D cys N0 aS) N0 (N0 + 1)) H) : va_at D vwCl (mi_ad N0 aS 24 0, mi_c (mi_GG D cys N0 aS) mi_m1 (24, 0)) H := hP 167 _ rfl
set_option maxRecDepth 100000 in
theorem cv_62 {D : va_G} {cys : Nat → ClassId} {N0 : Nat} {aS : Nat → Nat → Nat} {H : Heap} (hP : va_P D vwCl (wd_12 (mi_GG D cys N0 aS) N0 ++ wd_11 (mi_GG D cys N0 aS) N0 (N0 + 1)) H) : va_at D vwCl (mi_ad N0 aS 25 0, mi_c (mi_GG D cys N0 aS) mi_m1 (25, 0)) H := hP 168 _ rfl
set_option maxRecDepth 100000 in
theorem cv_63 {D : va_G} {cys : Nat → ClassId} {N0 : Nat} {aS : Nat → Nat → Nat} {H : Heap} (hP : va_P D vwCl (wd_12 (mi_GG D cys N0 aS) N0 ++ wd_11 (mi_GG D cys N0 aS) N0 (N0 + 1)) H) : va_at D vwCl (mi_ad N0 aS 26 0, mi_c (mi_GG D cys N0 aS) mi_m1 (26, 0)) H := hP 169 _ rfl
set_option maxRecDepth 100000 in
theorem cv_64 {D : va_G} {cys : Nat → ClassId} {N0 : Nat} {aS : Nat → Nat → Nat} {H : Heap} (hP : va_P D vwCl (wd_12 (mi_GG D cys N0 aS) N0 ++ wd_11 (mi_GG D cys N0 aS) N0 (N0 + 1)) H) : va_at D vwCl (mi_ad N0 aS 27 0, mi_c (mi_GG D cys N0 aS) mi_m1 (27, 0)) H := hP 170 _ rfl
set_option maxRecDepth 100000 in
theorem cv_65 {D : va_G} {cys : Nat → ClassId} {N0 : Nat} {aS : Nat → Nat → Nat} {H : Heap} (hP : va_P D vwCl (wd_12 (mi_GG D cys N0 aS) N0 ++ wd_11 (mi_GG D cys N0 aS) N0 (N0 + 1)) H) : va_at D vwCl (mi_ad N0 aS 28 0, mi_c (mi_GG D cys N0 aS) mi_m1 (28, 0)) H :=
  va_atq (hP 35 _ rfl) (fun j hj => match j, hj with | 0, _ => rfl | 1, _ => rfl | 2, _ => rfl | 3, _ => rfl | 4, _ => rfl | 5, _ => rfl | 6, _ => rfl | 7, _ => rfl | 8, _ => rfl | 9, _ => rfl | 10, _ => rfl | 11, _ => rfl | 12, _ => rfl | 13, _ => rfl | 14, _ => rfl | 15, _ => rfl | _ + 16, h => absurd h (by omega))
set_option maxRecDepth 100000 in
theorem cv_66 {D : va_G} {cys : Nat → ClassId} {N0 : Nat} {aS : Nat → Nat → Nat} {H : Heap} (hP : va_P D vwCl (wd_12 (mi_GG D cys N0 aS) N0 ++ wd_11 (mi_GG D cys N0 aS) N0 (N0 + 1)) H) : va_at D vwCl (mi_ad N0 aS 29 0, mi_c (mi_GG D cys N0 aS) mi_m1 (29, 0)) H :=
  va_atq (hP 36 _ rfl) (fun j hj => match j, hj with | 0, _ => rfl | 1, _ => rfl | 2, _ => rfl | 3, _ => rfl | _ + 4, h => absurd h (by omega))
set_option maxRecDepth 100000 in
theorem cv_67 {D : va_G} {cys : Nat → ClassId} {N0 : Nat} {aS : Nat → Nat → Nat} {H : Heap} (hP : va_P D vwCl (wd_12 (mi_GG D cys N0 aS) N0 ++ wd_11 (mi_GG D cys N0 aS) N0 (N0 + 1)) H) : va_at D vwCl (mi_ad N0 aS 30 0, mi_c (mi_GG D cys N0 aS) mi_m1 (30, 0)) H :=
  va_atq (hP 37 _ rfl) (fun j hj => match j, hj with | 0, _ => rfl | 1, _ => rfl | 2, _ => rfl | 3, _ => rfl | _ + 4, h => absurd h (by omega))
set_option maxRecDepth 100000 in
theorem cv_68 {D : va_G} {cys : Nat → ClassId} {N0 : Nat} {aS : Nat → Nat → Nat} {H : Heap} (hP : va_P D vwCl (wd_12 (mi_GG D cys N0 aS) N0 ++ wd_11 (mi_GG D cys N0 aS) N0 (N0 + 1)) H) : va_at D vwCl (mi_ad N0 aS 31 0, mi_c (mi_GG D cys N0 aS) mi_m1 (31, 0)) H := hP 135 _ rfl
set_option maxRecDepth 100000 in
theorem cv_69 {D : va_G} {cys : Nat → ClassId} {N0 : Nat} {aS : Nat → Nat → Nat} {H : Heap} (hP : va_P D vwCl (wd_12 (mi_GG D cys N0 aS) N0 ++ wd_11 (mi_GG D cys N0 aS) N0 (N0 + 1)) H) : va_at D vwCl (mi_ad N0 aS 31 1, mi_c (mi_GG D cys N0 aS) mi_m1 (31, 1)) H := hP 107 _ rfl
set_option maxRecDepth 100000 in
theorem cv_70 {D : va_G} {cys : Nat → ClassId} {N0 : Nat} {aS : Nat → Nat → Nat} {H : Heap} (hP : va_P D vwCl (wd_12 (mi_GG D cys N0 aS) N0 ++ wd_11 (mi_GG D cys N0 aS) N0 (N0 + 1)) H) : va_at D vwCl (mi_ad N0 aS 31 2, mi_c (mi_GG D cys N0 aS) mi_m1 (31, 2)) H := hP 115 _ rfl
set_option maxRecDepth 100000 in
theorem cv_71 {D : va_G} {cys : Nat → ClassId} {N0 : Nat} {aS : Nat → Nat → Nat} {H : Heap} (hP : va_P D vwCl (wd_12 (mi_GG D cys N0 aS) N0 ++ wd_11 (mi_GG D cys N0 aS) N0 (N0 + 1)) H) : va_at D vwCl (mi_ad N0 aS 31 3, mi_c (mi_GG D cys N0 aS) mi_m1 (31, 3)) H := hP 123 _ rfl
set_option maxRecDepth 100000 in
theorem cv_72 {D : va_G} {cys : Nat → ClassId} {N0 : Nat} {aS : Nat → Nat → Nat} {H : Heap} (hP : va_P D vwCl (wd_12 (mi_GG D cys N0 aS) N0 ++ wd_11 (mi_GG D cys N0 aS) N0 (N0 + 1)) H) : va_at D vwCl (mi_ad N0 aS 31 4, mi_c (mi_GG D cys N0 aS) mi_m1 (31, 4)) H := hP 131 _ rfl
set_option maxRecDepth 100000 in
theorem cv_73 {D : va_G} {cys : Nat → ClassId} {N0 : Nat} {aS : Nat → Nat → Nat} {H : Heap} (hP : va_P D vwCl (wd_12 (mi_GG D cys N0 aS) N0 ++ wd_11 (mi_GG D cys N0 aS) N0 (N0 + 1)) H) : va_at D vwCl (mi_ad N0 aS 32 0, mi_c (mi_GG D cys N0 aS) mi_m1 (32, 0)) H := hP 136 _ rfl
set_option maxRecDepth 100000 in
theorem cv_74 {D : va_G} {cys : Nat → ClassId} {N0 : Nat} {aS : Nat → Nat → Nat} {H : Heap} (hP : va_P D vwCl (wd_12 (mi_GG D cys N0 aS) N0 ++ wd_11 (mi_GG D cys N0 aS) N0 (N0 + 1)) H) : va_at D vwCl (mi_ad N0 aS 32 1, mi_c (mi_GG D cys N0 aS) mi_m1 (32, 1)) H := hP 108 _ rfl
set_option maxRecDepth 100000 in
theorem cv_75 {D : va_G} {cys : Nat → ClassId} {N0 : Nat} {aS : Nat → Nat → Nat} {H : Heap} (hP : va_P D vwCl (wd_12 (mi_GG D cys N0 aS) N0 ++ wd_11 (mi_GG D cys N0 aS) N0 (N0 + 1)) H) : va_at D vwCl (mi_ad N0 aS 32 2, mi_c (mi_GG D cys N0 aS) mi_m1 (32, 2)) H := hP 116 _ rfl
set_option maxRecDepth 100000 in
theorem cv_76 {D : va_G} {cys : Nat → ClassId} {N0 : Nat} {aS : Nat → Nat → Nat} {H : Heap} (hP : va_P D vwCl (wd_12 (mi_GG D cys N0 aS) N0 ++ wd_11 (mi_GG D cys N0 aS) N0 (N0 + 1)) H) : va_at D vwCl (mi_ad N0 aS 32 3, mi_c (mi_GG D cys N0 aS) mi_m1 (32, 3)) H := hP 124 _ rfl
set_option maxRecDepth 100000 in
theorem cv_77 {D : va_G} {cys : Nat → ClassId} {N0 : Nat} {aS : Nat → Nat → Nat} {H : Heap} (hP : va_P D vwCl (wd_12 (mi_GG D cys N0 aS) N0 ++ wd_11 (mi_GG D cys N0 aS) N0 (N0 + 1)) H) : va_at D vwCl (mi_ad N0 aS 32 4, mi_c (mi_GG D cys N0 aS) mi_m1 (32, 4)) H := hP 132 _ rfl
set_option maxRecDepth 100000 in
theorem cv_78 {D : va_G} {cys : Nat → ClassId} {N0 : Nat} {aS : Nat → Nat → Nat} {H : Heap} (hP : va_P D vwCl (wd_12 (mi_GG D cys N0 aS) N0 ++ wd_11 (mi_GG D cys N0 aS) N0 (N0 + 1)) H) : va_at D vwCl (mi_ad N0 aS 33 0, mi_c (mi_GG D cys N0 aS) mi_m1 (33, 0)) H := hP 137 _ rfl
set_option maxRecDepth 100000 in
theorem cv_79 {D : va_G} {cys : Nat → ClassId} {N0 : Nat} {aS : Nat → Nat → Nat} {H : Heap} (hP : va_P D vwCl (wd_12 (mi_GG D cys N0 aS) N0 ++ wd_11 (mi_GG D cys N0 aS) N0 (N0 + 1)) H) : va_at D vwCl (mi_ad N0 aS 33 1, mi_c (mi_GG D cys N0 aS) mi_m1 (33, 1)) H := hP 109 _ rfl
set_option maxRecDepth 100000 in
theorem cv_80 {D : va_G} {cys : Nat → ClassId} {N0 : Nat} {aS : Nat → Nat → Nat} {H : Heap} (hP : va_P D vwCl (wd_12 (mi_GG D cys N0 aS) N0 ++ wd_11 (mi_GG D cys N0 aS) N0 (N0 + 1)) H) : va_at D vwCl (mi_ad N0 aS 33 2, mi_c (mi_GG D cys N0 aS) mi_m1 (33, 2)) H := hP 117 _ rfl
set_option maxRecDepth 100000 in
theorem cv_81 {D : va_G} {cys : Nat → ClassId} {N0 : Nat} {aS : Nat → Nat → Nat} {H : Heap} (hP : va_P D vwCl (wd_12 (mi_GG D cys N0 aS) N0 ++ wd_11 (mi_GG D cys N0 aS) N0 (N0 + 1)) H) : va_at D vwCl (mi_ad N0 aS 33 3, mi_c (mi_GG D cys N0 aS) mi_m1 (33, 3)) H := hP 125 _ rfl
set_option maxRecDepth 100000 in
theorem cv_82 {D : va_G} {cys : Nat → ClassId} {N0 : Nat} {aS : Nat → Nat → Nat} {H : Heap} (hP : va_P D vwCl (wd_12 (mi_GG D cys N0 aS) N0 ++ wd_11 (mi_GG D cys N0 aS) N0 (N0 + 1)) H) : va_at D vwCl (mi_ad N0 aS 33 4, mi_c (mi_GG D cys N0 aS) mi_m1 (33, 4)) H := hP 133 _ rfl
set_option maxRecDepth 100000 in
theorem cv_83 {D : va_G} {cys : Nat → ClassId} {N0 : Nat} {aS : Nat → Nat → Nat} {H : Heap} (hP : va_P D vwCl (wd_12 (mi_GG D cys N0 aS) N0 ++ wd_11 (mi_GG D cys N0 aS) N0 (N0 + 1)) H) : va_at D vwCl (mi_ad N0 aS 34 0, mi_c (mi_GG D cys N0 aS) mi_m1 (34, 0)) H := hP 31 _ rfl
set_option maxRecDepth 100000 in
theorem cv_84 {D : va_G} {cys : Nat → ClassId} {N0 : Nat} {aS : Nat → Nat → Nat} {H : Heap} (hP : va_P D vwCl (wd_12 (mi_GG D cys N0 aS) N0 ++ wd_11 (mi_GG D cys N0 aS) N0 (N0 + 1)) H) : va_at D vwCl (mi_ad N0 aS 34 1, mi_c (mi_GG D cys N0 aS) mi_m1 (34, 1)) H := hP 39 _ rfl
set_option maxRecDepth 100000 in
theorem cv_85 {D : va_G} {cys : Nat → ClassId} {N0 : Nat} {aS : Nat → Nat → Nat} {H : Heap} (hP : va_P D vwCl (wd_12 (mi_GG D cys N0 aS) N0 ++ wd_11 (mi_GG D cys N0 aS) N0 (N0 + 1)) H) : va_at D vwCl (mi_ad N0 aS 34 2, mi_c (mi_GG D cys N0 aS) mi_m1 (34, 2)) H := hP 43 _ rfl
set_option maxRecDepth 100000 in
theorem cv_86 {D : va_G} {cys : Nat → ClassId} {N0 : Nat} {aS : Nat → Nat → Nat} {H : Heap} (hP : va_P D vwCl (wd_12 (mi_GG D cys N0 aS) N0 ++ wd_11 (mi_GG D cys N0 aS) N0 (N0 + 1)) H) : va_at D vwCl (mi_ad N0 aS 34 3, mi_c (mi_GG D cys N0 aS) mi_m1 (34, 3)) H := hP 47 _ rfl
set_option maxRecDepth 100000 in
theorem cv_87 {D : va_G} {cys : Nat → ClassId} {N0 : Nat} {aS : Nat → Nat → Nat} {H : Heap} (hP : va_P D vwCl (wd_12 (mi_GG D cys N0 aS) N0 ++ wd_11 (mi_GG D cys N0 aS) N0 (N0 + 1)) H) : va_at D vwCl (mi_ad N0 aS 34 4, mi_c (mi_GG D cys N0 aS) mi_m1 (34, 4)) H := hP 51 _ rfl
set_option maxRecDepth 100000 in
theorem cv_88 {D : va_G} {cys : Nat → ClassId} {N0 : Nat} {aS : Nat → Nat → Nat} {H : Heap} (hP : va_P D vwCl (wd_12 (mi_GG D cys N0 aS) N0 ++ wd_11 (mi_GG D cys N0 aS) N0 (N0 + 1)) H) : va_at D vwCl (mi_ad N0 aS 34 5, mi_c (mi_GG D cys N0 aS) mi_m1 (34, 5)) H := hP 55 _ rfl
set_option maxRecDepth 100000 in
theorem cv_89 {D : va_G} {cys : Nat → ClassId} {N0 : Nat} {aS : Nat → Nat → Nat} {H : Heap} (hP : va_P D vwCl (wd_12 (mi_GG D cys N0 aS) N0 ++ wd_11 (mi_GG D cys N0 aS) N0 (N0 + 1)) H) : va_at D vwCl (mi_ad N0 aS 34 6, mi_c (mi_GG D cys N0 aS) mi_m1 (34, 6)) H := hP 59 _ rfl
set_option maxRecDepth 100000 in
theorem cv_90 {D : va_G} {cys : Nat → ClassId} {N0 : Nat} {aS : Nat → Nat → Nat} {H : Heap} (hP : va_P D vwCl (wd_12 (mi_GG D cys N0 aS) N0 ++ wd_11 (mi_GG D cys N0 aS) N0 (N0 + 1)) H) : va_at D vwCl (mi_ad N0 aS 34 7, mi_c (mi_GG D cys N0 aS) mi_m1 (34, 7)) H := hP 63 _ rfl
set_option maxRecDepth 100000 in
theorem cv_91 {D : va_G} {cys : Nat → ClassId} {N0 : Nat} {aS : Nat → Nat → Nat} {H : Heap} (hP : va_P D vwCl (wd_12 (mi_GG D cys N0 aS) N0 ++ wd_11 (mi_GG D cys N0 aS) N0 (N0 + 1)) H) : va_at D vwCl (mi_ad N0 aS 34 8, mi_c (mi_GG D cys N0 aS) mi_m1 (34, 8)) H := hP 67 _ rfl
set_option maxRecDepth 100000 in
theorem cv_92 {D : va_G} {cys : Nat → ClassId} {N0 : Nat} {aS : Nat → Nat → Nat} {H : Heap} (hP : va_P D vwCl (wd_12 (mi_GG D cys N0 aS) N0 ++ wd_11 (mi_GG D cys N0 aS) N0 (N0 + 1)) H) : va_at D vwCl (mi_ad N0 aS 34 9, mi_c (mi_GG D cys N0 aS) mi_m1 (34, 9)) H := hP 71 _ rfl
set_option maxRecDepth 100000 in
theorem cv_93 {D : va_G} {cys : Nat → ClassId} {N0 : Nat} {aS : Nat → Nat → Nat} {H : Heap} (hP : va_P D vwCl (wd_12 (mi_GG D cys N0 aS) N0 ++ wd_11 (mi_GG D cys N0 aS) N0 (N0 + 1)) H) : va_at D vwCl (mi_ad N0 aS 34 10, mi_c (mi_GG D cys N0 aS) mi_m1 (34, 10)) H := hP 75 _ rfl
set_option maxRecDepth 100000 in
theorem cv_94 {D : va_G} {cys : Nat → ClassId} {N0 : Nat} {aS : Nat → Nat → Nat} {H : Heap} (hP : va_P D vwCl (wd_12 (mi_GG D cys N0 aS) N0 ++ wd_11 (mi_GG D cys N0 aS) N0 (N0 + 1)) H) : va_at D vwCl (mi_ad N0 aS 34 11, mi_c (mi_GG D cys N0 aS) mi_m1 (34, 11)) H := hP 79 _ rfl
set_option maxRecDepth 100000 in
theorem cv_95 {D : va_G} {cys : Nat → ClassId} {N0 : Nat} {aS : Nat → Nat → Nat} {H : Heap} (hP : va_P D vwCl (wd_12 (mi_GG D cys N0 aS) N0 ++ wd_11 (mi_GG D cys N0 aS) N0 (N0 + 1)) H) : va_at D vwCl (mi_ad N0 aS 34 12, mi_c (mi_GG D cys N0 aS) mi_m1 (34, 12)) H := hP 83 _ rfl
set_option maxRecDepth 100000 in
theorem cv_96 {D : va_G} {cys : Nat → ClassId} {N0 : Nat} {aS : Nat → Nat → Nat} {H : Heap} (hP : va_P D vwCl (wd_12 (mi_GG D cys N0 aS) N0 ++ wd_11 (mi_GG D cys N0 aS) N0 (N0 + 1)) H) : va_at D vwCl (mi_ad N0 aS 34 13, mi_c (mi_GG D cys N0 aS) mi_m1 (34, 13)) H := hP 87 _ rfl
set_option maxRecDepth 100000 in
theorem cv_97 {D : va_G} {cys : Nat → ClassId} {N0 : Nat} {aS : Nat → Nat → Nat} {H : Heap} (hP : va_P D vwCl (wd_12 (mi_GG D cys N0 aS) N0 ++ wd_11 (mi_GG D cys N0 aS) N0 (N0 + 1)) H) : va_at D vwCl (mi_ad N0 aS 34 14, mi_c (mi_GG D cys N0 aS) mi_m1 (34, 14)) H := hP 91 _ rfl
set_option maxRecDepth 100000 in
theorem cv_98 {D : va_G} {cys : Nat → ClassId} {N0 : Nat} {aS : Nat → Nat → Nat} {H : Heap} (hP : va_P D vwCl (wd_12 (mi_GG D cys N0 aS) N0 ++ wd_11 (mi_GG D cys N0 aS) N0 (N0 + 1)) H) : va_at D vwCl (mi_ad N0 aS 34 15, mi_c (mi_GG D cys N0 aS) mi_m1 (34, 15)) H := hP 95 _ rfl
set_option maxRecDepth 100000 in
theorem cv_99 {D : va_G} {cys : Nat → ClassId} {N0 : Nat} {aS : Nat → Nat → Nat} {H : Heap} (hP : va_P D vwCl (wd_12 (mi_GG D cys N0 aS) N0 ++ wd_11 (mi_GG D cys N0 aS) N0 (N0 + 1)) H) : va_at D vwCl (mi_ad N0 aS 34 16, mi_c (mi_GG D cys N0 aS) mi_m1 (34, 16)) H := hP 99 _ rfl
set_option maxRecDepth 100000 in
theorem cv_100 {D : va_G} {cys : Nat → ClassId} {N0 : Nat} {aS : Nat → Nat → Nat} {H : Heap} (hP : va_P D vwCl (wd_12 (mi_GG D cys N0 aS) N0 ++ wd_11 (mi_GG D cys N0 aS) N0 (N0 + 1)) H) : va_at D vwCl (mi_ad N0 aS 34 17, mi_c (mi_GG D cys N0 aS) mi_m1 (34, 17)) H := hP 103 _ rfl
set_option maxRecDepth 100000 in
theorem cv_101 {D : va_G} {cys : Nat → ClassId} {N0 : Nat} {aS : Nat → Nat → Nat} {H : Heap} (hP : va_P D vwCl (wd_12 (mi_GG D cys N0 aS) N0 ++ wd_11 (mi_GG D cys N0 aS) N0 (N0 + 1)) H) : va_at D vwCl (mi_ad N0 aS 34 18, mi_c (mi_GG D cys N0 aS) mi_m1 (34, 18)) H := hP 111 _ rfl
set_option maxRecDepth 100000 in
theorem cv_102 {D : va_G} {cys : Nat → ClassId} {N0 : Nat} {aS : Nat → Nat → Nat} {H : Heap} (hP : va_P D vwCl (wd_12 (mi_GG D cys N0 aS) N0 ++ wd_11 (mi_GG D cys N0 aS) N0 (N0 + 1)) H) : va_at D vwCl (mi_ad N0 aS 34 19, mi_c (mi_GG D cys N0 aS) mi_m1 (34, 19)) H := hP 119 _ rfl
set_option maxRecDepth 100000 in
theorem cv_103 {D : va_G} {cys : Nat → ClassId} {N0 : Nat} {aS : Nat → Nat → Nat} {H : Heap} (hP : va_P D vwCl (wd_12 (mi_GG D cys N0 aS) N0 ++ wd_11 (mi_GG D cys N0 aS) N0 (N0 + 1)) H) : va_at D vwCl (mi_ad N0 aS 34 20, mi_c (mi_GG D cys N0 aS) mi_m1 (34, 20)) H := hP 127 _ rfl
set_option maxRecDepth 100000 in
theorem cv_104 {D : va_G} {cys : Nat → ClassId} {N0 : Nat} {aS : Nat → Nat → Nat} {H : Heap} (hP : va_P D vwCl (wd_12 (mi_GG D cys N0 aS) N0 ++ wd_11 (mi_GG D cys N0 aS) N0 (N0 + 1)) H) : va_at D vwCl (mi_ad N0 aS 34 21, mi_c (mi_GG D cys N0 aS) mi_m1 (34, 21)) H := hP 140 _ rfl
set_option maxRecDepth 100000 in
theorem cv_105 {D : va_G} {cys : Nat → ClassId} {N0 : Nat} {aS : Nat → Nat → Nat} {H : Heap} (hP : va_P D vwCl (wd_12 (mi_GG D cys N0 aS) N0 ++ wd_11 (mi_GG D cys N0 aS) N0 (N0 + 1)) H) : va_at D vwCl (mi_ad N0 aS 34 22, mi_c (mi_GG D cys N0 aS) mi_m1 (34, 22)) H := hP 147 _ rfl
set_option maxRecDepth 100000 in
theorem cv_106 {D : va_G} {cys : Nat → ClassId} {N0 : Nat} {aS : Nat → Nat → Nat} {H : Heap} (hP : va_P D vwCl (wd_12 (mi_GG D cys N0 aS) N0 ++ wd_11 (mi_GG D cys N0 aS) N0 (N0 + 1)) H) : va_at D vwCl (mi_ad N0 aS 34 23, mi_c (mi_GG D cys N0 aS) mi_m1 (34, 23)) H := hP 151 _ rfl
set_option maxRecDepth 100000 in
theorem cv_107 {D : va_G} {cys : Nat → ClassId} {N0 : Nat} {aS : Nat → Nat → Nat} {H : Heap} (hP : va_P D vwCl (wd_12 (mi_GG D cys N0 aS) N0 ++ wd_11 (mi_GG D cys N0 aS) N0 (N0 + 1)) H) : va_at D vwCl (mi_ad N0 aS 34 24, mi_c (mi_GG D cys N0 aS) mi_m1 (34, 24)) H := hP 155 _ rfl
set_option maxRecDepth 100000 in
theorem cv_108 {D : va_G} {cys : Nat → ClassId} {N0 : Nat} {aS : Nat → Nat → Nat} {H : Heap} (hP : va_P D vwCl (wd_12 (mi_GG D cys N0 aS) N0 ++ wd_11 (mi_GG D cys N0 aS) N0 (N0 + 1)) H) : va_at D vwCl (mi_ad N0 aS 34 25, mi_c (mi_GG D cys N0 aS) mi_m1 (34, 25)) H := hP 159 _ rfl
set_option maxRecDepth 100000 in
theorem cv_109 {D : va_G} {cys : Nat → ClassId} {N0 : Nat} {aS : Nat → Nat → Nat} {H : Heap} (hP : va_P D vwCl (wd_12 (mi_GG D cys N0 aS) N0 ++ wd_11 (mi_GG D cys N0 aS) N0 (N0 + 1)) H) : va_at D vwCl (mi_ad N0 aS 35 0, mi_c (mi_GG D cys N0 aS) mi_m1 (35, 0)) H := hP 32 _ rfl
set_option maxRecDepth 100000 in
theorem cv_110 {D : va_G} {cys : Nat → ClassId} {N0 : Nat} {aS : Nat → Nat → Nat} {H : Heap} (hP : va_P D vwCl (wd_12 (mi_GG D cys N0 aS) N0 ++ wd_11 (mi_GG D cys N0 aS) N0 (N0 + 1)) H) : va_at D vwCl (mi_ad N0 aS 35 1, mi_c (mi_GG D cys N0 aS) mi_m1 (35, 1)) H := hP 40 _ rfl
set_option maxRecDepth 100000 in
theorem cv_111 {D : va_G} {cys : Nat → ClassId} {N0 : Nat} {aS : Nat → Nat → Nat} {H : Heap} (hP : va_P D vwCl (wd_12 (mi_GG D cys N0 aS) N0 ++ wd_11 (mi_GG D cys N0 aS) N0 (N0 + 1)) H) : va_at D vwCl (mi_ad N0 aS 35 2, mi_c (mi_GG D cys N0 aS) mi_m1 (35, 2)) H := hP 44 _ rfl
set_option maxRecDepth 100000 in
theorem cv_112 {D : va_G} {cys : Nat → ClassId} {N0 : Nat} {aS : Nat → Nat → Nat} {H : Heap} (hP : va_P D vwCl (wd_12 (mi_GG D cys N0 aS) N0 ++ wd_11 (mi_GG D cys N0 aS) N0 (N0 + 1)) H) : va_at D vwCl (mi_ad N0 aS 35 3, mi_c (mi_GG D cys N0 aS) mi_m1 (35, 3)) H := hP 48 _ rfl
set_option maxRecDepth 100000 in
theorem cv_113 {D : va_G} {cys : Nat → ClassId} {N0 : Nat} {aS : Nat → Nat → Nat} {H : Heap} (hP : va_P D vwCl (wd_12 (mi_GG D cys N0 aS) N0 ++ wd_11 (mi_GG D cys N0 aS) N0 (N0 + 1)) H) : va_at D vwCl (mi_ad N0 aS 35 4, mi_c (mi_GG D cys N0 aS) mi_m1 (35, 4)) H := hP 52 _ rfl
set_option maxRecDepth 100000 in
theorem cv_114 {D : va_G} {cys : Nat → ClassId} {N0 : Nat} {aS : Nat → Nat → Nat} {H : Heap} (hP : va_P D vwCl (wd_12 (mi_GG D cys N0 aS) N0 ++ wd_11 (mi_GG D cys N0 aS) N0 (N0 + 1)) H) : va_at D vwCl (mi_ad N0 aS 35 5, mi_c (mi_GG D cys N0 aS) mi_m1 (35, 5)) H := hP 56 _ rfl
set_option maxRecDepth 100000 in
theorem cv_115 {D : va_G} {cys : Nat → ClassId} {N0 : Nat} {aS : Nat → Nat → Nat} {H : Heap} (hP : va_P D vwCl (wd_12 (mi_GG D cys N0 aS) N0 ++ wd_11 (mi_GG D cys N0 aS) N0 (N0 + 1)) H) : va_at D vwCl (mi_ad N0 aS 35 6, mi_c (mi_GG D cys N0 aS) mi_m1 (35, 6)) H := hP 60 _ rfl
set_option maxRecDepth 100000 in
theorem cv_116 {D : va_G} {cys : Nat → ClassId} {N0 : Nat} {aS : Nat → Nat → Nat} {H : Heap} (hP : va_P D vwCl (wd_12 (mi_GG D cys N0 aS) N0 ++ wd_11 (mi_GG D cys N0 aS) N0 (N0 + 1)) H) : va_at D vwCl (mi_ad N0 aS 35 7, mi_c (mi_GG D cys N0 aS) mi_m1 (35, 7)) H := hP 64 _ rfl
set_option maxRecDepth 100000 in
theorem cv_117 {D : va_G} {cys : Nat → ClassId} {N0 : Nat} {aS : Nat → Nat → Nat} {H : Heap} (hP : va_P D vwCl (wd_12 (mi_GG D cys N0 aS) N0 ++ wd_11 (mi_GG D cys N0 aS) N0 (N0 + 1)) H) : va_at D vwCl (mi_ad N0 aS 35 8, mi_c (mi_GG D cys N0 aS) mi_m1 (35, 8)) H := hP 68 _ rfl
set_option maxRecDepth 100000 in
theorem cv_118 {D : va_G} {cys : Nat → ClassId} {N0 : Nat} {aS : Nat → Nat → Nat} {H : Heap} (hP : va_P D vwCl (wd_12 (mi_GG D cys N0 aS) N0 ++ wd_11 (mi_GG D cys N0 aS) N0 (N0 + 1)) H) : va_at D vwCl (mi_ad N0 aS 35 9, mi_c (mi_GG D cys N0 aS) mi_m1 (35, 9)) H := hP 72 _ rfl
set_option maxRecDepth 100000 in
theorem cv_119 {D : va_G} {cys : Nat → ClassId} {N0 : Nat} {aS : Nat → Nat → Nat} {H : Heap} (hP : va_P D vwCl (wd_12 (mi_GG D cys N0 aS) N0 ++ wd_11 (mi_GG D cys N0 aS) N0 (N0 + 1)) H) : va_at D vwCl (mi_ad N0 aS 35 10, mi_c (mi_GG D cys N0 aS) mi_m1 (35, 10)) H := hP 76 _ rfl
set_option maxRecDepth 100000 in
theorem cv_120 {D : va_G} {cys : Nat → ClassId} {N0 : Nat} {aS : Nat → Nat → Nat} {H : Heap} (hP : va_P D vwCl (wd_12 (mi_GG D cys N0 aS) N0 ++ wd_11 (mi_GG D cys N0 aS) N0 (N0 + 1)) H) : va_at D vwCl (mi_ad N0 aS 35 11, mi_c (mi_GG D cys N0 aS) mi_m1 (35, 11)) H := hP 80 _ rfl
set_option maxRecDepth 100000 in
theorem cv_121 {D : va_G} {cys : Nat → ClassId} {N0 : Nat} {aS : Nat → Nat → Nat} {H : Heap} (hP : va_P D vwCl (wd_12 (mi_GG D cys N0 aS) N0 ++ wd_11 (mi_GG D cys N0 aS) N0 (N0 + 1)) H) : va_at D vwCl (mi_ad N0 aS 35 12, mi_c (mi_GG D cys N0 aS) mi_m1 (35, 12)) H := hP 84 _ rfl
set_option maxRecDepth 100000 in
theorem cv_122 {D : va_G} {cys : Nat → ClassId} {N0 : Nat} {aS : Nat → Nat → Nat} {H : Heap} (hP : va_P D vwCl (wd_12 (mi_GG D cys N0 aS) N0 ++ wd_11 (mi_GG D cys N0 aS) N0 (N0 + 1)) H) : va_at D vwCl (mi_ad N0 aS 35 13, mi_c (mi_GG D cys N0 aS) mi_m1 (35, 13)) H := hP 88 _ rfl
set_option maxRecDepth 100000 in
theorem cv_123 {D : va_G} {cys : Nat → ClassId} {N0 : Nat} {aS : Nat → Nat → Nat} {H : Heap} (hP : va_P D vwCl (wd_12 (mi_GG D cys N0 aS) N0 ++ wd_11 (mi_GG D cys N0 aS) N0 (N0 + 1)) H) : va_at D vwCl (mi_ad N0 aS 35 14, mi_c (mi_GG D cys N0 aS) mi_m1 (35, 14)) H := hP 92 _ rfl
set_option maxRecDepth 100000 in
theorem cv_124 {D : va_G} {cys : Nat → ClassId} {N0 : Nat} {aS : Nat → Nat → Nat} {H : Heap} (hP : va_P D vwCl (wd_12 (mi_GG D cys N0 aS) N0 ++ wd_11 (mi_GG D cys N0 aS) N0 (N0 + 1)) H) : va_at D vwCl (mi_ad N0 aS 35 15, mi_c (mi_GG D cys N0 aS) mi_m1 (35, 15)) H := hP 96 _ rfl
set_option maxRecDepth 100000 in
theorem cv_125 {D : va_G} {cys : Nat → ClassId} {N0 : Nat} {aS : Nat → Nat → Nat} {H : Heap} (hP : va_P D vwCl (wd_12 (mi_GG D cys N0 aS) N0 ++ wd_11 (mi_GG D cys N0 aS) N0 (N0 + 1)) H) : va_at D vwCl (mi_ad N0 aS 35 16, mi_c (mi_GG D cys N0 aS) mi_m1 (35, 16)) H := hP 100 _ rfl
set_option maxRecDepth 100000 in
theorem cv_126 {D : va_G} {cys : Nat → ClassId} {N0 : Nat} {aS : Nat → Nat → Nat} {H : Heap} (hP : va_P D vwCl (wd_12 (mi_GG D cys N0 aS) N0 ++ wd_11 (mi_GG D cys N0 aS) N0 (N0 + 1)) H) : va_at D vwCl (mi_ad N0 aS 35 17, mi_c (mi_GG D cys N0 aS) mi_m1 (35, 17)) H := hP 104 _ rfl
set_option maxRecDepth 100000 in
theorem cv_127 {D : va_G} {cys : Nat → ClassId} {N0 : Nat} {aS : Nat → Nat → Nat} {H : Heap} (hP : va_P D vwCl (wd_12 (mi_GG D cys N0 aS) N0 ++ wd_11 (mi_GG D cys N0 aS) N0 (N0 + 1)) H) : va_at D vwCl (mi_ad N0 aS 35 18, mi_c (mi_GG D cys N0 aS) mi_m1 (35, 18)) H := hP 112 _ rfl
set_option maxRecDepth 100000 in
theorem cv_128 {D : va_G} {cys : Nat → ClassId} {N0 : Nat} {aS : Nat → Nat → Nat} {H : Heap} (hP : va_P D vwCl (wd_12 (mi_GG D cys N0 aS) N0 ++ wd_11 (mi_GG D cys N0 aS) N0 (N0 + 1)) H) : va_at D vwCl (mi_ad N0 aS 35 19, mi_c (mi_GG D cys N0 aS) mi_m1 (35, 19)) H := hP 120 _ rfl
set_option maxRecDepth 100000 in
theorem cv_129 {D : va_G} {cys : Nat → ClassId} {N0 : Nat} {aS : Nat → Nat → Nat} {H : Heap} (hP : va_P D vwCl (wd_12 (mi_GG D cys N0 aS) N0 ++ wd_11 (mi_GG D cys N0 aS) N0 (N0 + 1)) H) : va_at D vwCl (mi_ad N0 aS 35 20, mi_c (mi_GG D cys N0 aS) mi_m1 (35, 20)) H := hP 128 _ rfl
set_option maxRecDepth 100000 in
theorem cv_130 {D : va_G} {cys : Nat → ClassId} {N0 : Nat} {aS : Nat → Nat → Nat} {H : Heap} (hP : va_P D vwCl (wd_12 (mi_GG D cys N0 aS) N0 ++ wd_11 (mi_GG D cys N0 aS) N0 (N0 + 1)) H) : va_at D vwCl (mi_ad N0 aS 35 21, mi_c (mi_GG D cys N0 aS) mi_m1 (35, 21)) H := hP 141 _ rfl
set_option maxRecDepth 100000 in
theorem cv_131 {D : va_G} {cys : Nat → ClassId} {N0 : Nat} {aS : Nat → Nat → Nat} {H : Heap} (hP : va_P D vwCl (wd_12 (mi_GG D cys N0 aS) N0 ++ wd_11 (mi_GG D cys N0 aS) N0 (N0 + 1)) H) : va_at D vwCl (mi_ad N0 aS 35 22, mi_c (mi_GG D cys N0 aS) mi_m1 (35, 22)) H := hP 148 _ rfl
set_option maxRecDepth 100000 in
theorem cv_132 {D : va_G} {cys : Nat → ClassId} {N0 : Nat} {aS : Nat → Nat → Nat} {H : Heap} (hP : va_P D vwCl (wd_12 (mi_GG D cys N0 aS) N0 ++ wd_11 (mi_GG D cys N0 aS) N0 (N0 + 1)) H) : va_at D vwCl (mi_ad N0 aS 35 23, mi_c (mi_GG D cys N0 aS) mi_m1 (35, 23)) H := hP 152 _ rfl
set_option maxRecDepth 100000 in
theorem cv_133 {D : va_G} {cys : Nat → ClassId} {N0 : Nat} {aS : Nat → Nat → Nat} {H : Heap} (hP : va_P D vwCl (wd_12 (mi_GG D cys N0 aS) N0 ++ wd_11 (mi_GG D cys N0 aS) N0 (N0 + 1)) H) : va_at D vwCl (mi_ad N0 aS 35 24, mi_c (mi_GG D cys N0 aS) mi_m1 (35, 24)) H := hP 156 _ rfl
set_option maxRecDepth 100000 in
theorem cv_134 {D : va_G} {cys : Nat → ClassId} {N0 : Nat} {aS : Nat → Nat → Nat} {H : Heap} (hP : va_P D vwCl (wd_12 (mi_GG D cys N0 aS) N0 ++ wd_11 (mi_GG D cys N0 aS) N0 (N0 + 1)) H) : va_at D vwCl (mi_ad N0 aS 35 25, mi_c (mi_GG D cys N0 aS) mi_m1 (35, 25)) H := hP 160 _ rfl
set_option maxRecDepth 100000 in
theorem cv_135 {D : va_G} {cys : Nat → ClassId} {N0 : Nat} {aS : Nat → Nat → Nat} {H : Heap} (hP : va_P D vwCl (wd_12 (mi_GG D cys N0 aS) N0 ++ wd_11 (mi_GG D cys N0 aS) N0 (N0 + 1)) H) : va_at D vwCl (mi_ad N0 aS 36 0, mi_c (mi_GG D cys N0 aS) mi_m1 (36, 0)) H := hP 33 _ rfl
set_option maxRecDepth 100000 in
theorem cv_136 {D : va_G} {cys : Nat → ClassId} {N0 : Nat} {aS : Nat → Nat → Nat} {H : Heap} (hP : va_P D vwCl (wd_12 (mi_GG D cys N0 aS) N0 ++ wd_11 (mi_GG D cys N0 aS) N0 (N0 + 1)) H) : va_at D vwCl (mi_ad N0 aS 36 1, mi_c (mi_GG D cys N0 aS) mi_m1 (36, 1)) H := hP 41 _ rfl
set_option maxRecDepth 100000 in
theorem cv_137 {D : va_G} {cys : Nat → ClassId} {N0 : Nat} {aS : Nat → Nat → Nat} {H : Heap} (hP : va_P D vwCl (wd_12 (mi_GG D cys N0 aS) N0 ++ wd_11 (mi_GG D cys N0 aS) N0 (N0 + 1)) H) : va_at D vwCl (mi_ad N0 aS 36 2, mi_c (mi_GG D cys N0 aS) mi_m1 (36, 2)) H := hP 45 _ rfl
set_option maxRecDepth 100000 in
theorem cv_138 {D : va_G} {cys : Nat → ClassId} {N0 : Nat} {aS : Nat → Nat → Nat} {H : Heap} (hP : va_P D vwCl (wd_12 (mi_GG D cys N0 aS) N0 ++ wd_11 (mi_GG D cys N0 aS) N0 (N0 + 1)) H) : va_at D vwCl (mi_ad N0 aS 36 3, mi_c (mi_GG D cys N0 aS) mi_m1 (36, 3)) H := hP 49 _ rfl
set_option maxRecDepth 100000 in
theorem cv_139 {D : va_G} {cys : Nat → ClassId} {N0 : Nat} {aS : Nat → Nat → Nat} {H : Heap} (hP : va_P D vwCl (wd_12 (mi_GG D cys N0 aS) N0 ++ wd_11 (mi_GG D cys N0 aS) N0 (N0 + 1)) H) : va_at D vwCl (mi_ad N0 aS 36 4, mi_c (mi_GG D cys N0 aS) mi_m1 (36, 4)) H := hP 53 _ rfl
set_option maxRecDepth 100000 in
theorem cv_140 {D : va_G} {cys : Nat → ClassId} {N0 : Nat} {aS : Nat → Nat → Nat} {H : Heap} (hP : va_P D vwCl (wd_12 (mi_GG D cys N0 aS) N0 ++ wd_11 (mi_GG D cys N0 aS) N0 (N0 + 1)) H) : va_at D vwCl (mi_ad N0 aS 36 5, mi_c (mi_GG D cys N0 aS) mi_m1 (36, 5)) H := hP 57 _ rfl
set_option maxRecDepth 100000 in
theorem cv_141 {D : va_G} {cys : Nat → ClassId} {N0 : Nat} {aS : Nat → Nat → Nat} {H : Heap} (hP : va_P D vwCl (wd_12 (mi_GG D cys N0 aS) N0 ++ wd_11 (mi_GG D cys N0 aS) N0 (N0 + 1)) H) : va_at D vwCl (mi_ad N0 aS 36 6, mi_c (mi_GG D cys N0 aS) mi_m1 (36, 6)) H := hP 61 _ rfl
set_option maxRecDepth 100000 in
theorem cv_142 {D : va_G} {cys : Nat → ClassId} {N0 : Nat} {aS : Nat → Nat → Nat} {H : Heap} (hP : va_P D vwCl (wd_12 (mi_GG D cys N0 aS) N0 ++ wd_11 (mi_GG D cys N0 aS) N0 (N0 + 1)) H) : va_at D vwCl (mi_ad N0 aS 36 7, mi_c (mi_GG D cys N0 aS) mi_m1 (36, 7)) H := hP 65 _ rfl
set_option maxRecDepth 100000 in
theorem cv_143 {D : va_G} {cys : Nat → ClassId} {N0 : Nat} {aS : Nat → Nat → Nat} {H : Heap} (hP : va_P D vwCl (wd_12 (mi_GG D cys N0 aS) N0 ++ wd_11 (mi_GG D cys N0 aS) N0 (N0 + 1)) H) : va_at D vwCl (mi_ad N0 aS 36 8, mi_c (mi_GG D cys N0 aS) mi_m1 (36, 8)) H := hP 69 _ rfl
set_option maxRecDepth 100000 in
theorem cv_144 {D : va_G} {cys : Nat → ClassId} {N0 : Nat} {aS : Nat → Nat → Nat} {H : Heap} (hP : va_P D vwCl (wd_12 (mi_GG D cys N0 aS) N0 ++ wd_11 (mi_GG D cys N0 aS) N0 (N0 + 1)) H) : va_at D vwCl (mi_ad N0 aS 36 9, mi_c (mi_GG D cys N0 aS) mi_m1 (36, 9)) H := hP 73 _ rfl
set_option maxRecDepth 100000 in
theorem cv_145 {D : va_G} {cys : Nat → ClassId} {N0 : Nat} {aS : Nat → Nat → Nat} {H : Heap} (hP : va_P D vwCl (wd_12 (mi_GG D cys N0 aS) N0 ++ wd_11 (mi_GG D cys N0 aS) N0 (N0 + 1)) H) : va_at D vwCl (mi_ad N0 aS 36 10, mi_c (mi_GG D cys N0 aS) mi_m1 (36, 10)) H := hP 77 _ rfl
set_option maxRecDepth 100000 in
theorem cv_146 {D : va_G} {cys : Nat → ClassId} {N0 : Nat} {aS : Nat → Nat → Nat} {H : Heap} (hP : va_P D vwCl (wd_12 (mi_GG D cys N0 aS) N0 ++ wd_11 (mi_GG D cys N0 aS) N0 (N0 + 1)) H) : va_at D vwCl (mi_ad N0 aS 36 11, mi_c (mi_GG D cys N0 aS) mi_m1 (36, 11)) H := hP 81 _ rfl
set_option maxRecDepth 100000 in
theorem cv_147 {D : va_G} {cys : Nat → ClassId} {N0 : Nat} {aS : Nat → Nat → Nat} {H : Heap} (hP : va_P D vwCl (wd_12 (mi_GG D cys N0 aS) N0 ++ wd_11 (mi_GG D cys N0 aS) N0 (N0 + 1)) H) : va_at D vwCl (mi_ad N0 aS 36 12, mi_c (mi_GG D cys N0 aS) mi_m1 (36, 12)) H := hP 85 _ rfl
set_option maxRecDepth 100000 in
theorem cv_148 {D : va_G} {cys : Nat → ClassId} {N0 : Nat} {aS : Nat → Nat → Nat} {H : Heap} (hP : va_P D vwCl (wd_12 (mi_GG D cys N0 aS) N0 ++ wd_11 (mi_GG D cys N0 aS) N0 (N0 + 1)) H) : va_at D vwCl (mi_ad N0 aS 36 13, mi_c (mi_GG D cys N0 aS) mi_m1 (36, 13)) H := hP 89 _ rfl
set_option maxRecDepth 100000 in
theorem cv_149 {D : va_G} {cys : Nat → ClassId} {N0 : Nat} {aS : Nat → Nat → Nat} {H : Heap} (hP : va_P D vwCl (wd_12 (mi_GG D cys N0 aS) N0 ++ wd_11 (mi_GG D cys N0 aS) N0 (N0 + 1)) H) : va_at D vwCl (mi_ad N0 aS 36 14, mi_c (mi_GG D cys N0 aS) mi_m1 (36, 14)) H := hP 93 _ rfl
set_option maxRecDepth 100000 in
theorem cv_150 {D : va_G} {cys : Nat → ClassId} {N0 : Nat} {aS : Nat → Nat → Nat} {H : Heap} (hP : va_P D vwCl (wd_12 (mi_GG D cys N0 aS) N0 ++ wd_11 (mi_GG D cys N0 aS) N0 (N0 + 1)) H) : va_at D vwCl (mi_ad N0 aS 36 15, mi_c (mi_GG D cys N0 aS) mi_m1 (36, 15)) H := hP 97 _ rfl
set_option maxRecDepth 100000 in
theorem cv_151 {D : va_G} {cys : Nat → ClassId} {N0 : Nat} {aS : Nat → Nat → Nat} {H : Heap} (hP : va_P D vwCl (wd_12 (mi_GG D cys N0 aS) N0 ++ wd_11 (mi_GG D cys N0 aS) N0 (N0 + 1)) H) : va_at D vwCl (mi_ad N0 aS 36 16, mi_c (mi_GG D cys N0 aS) mi_m1 (36, 16)) H := hP 101 _ rfl
set_option maxRecDepth 100000 in
theorem cv_152 {D : va_G} {cys : Nat → ClassId} {N0 : Nat} {aS : Nat → Nat → Nat} {H : Heap} (hP : va_P D vwCl (wd_12 (mi_GG D cys N0 aS) N0 ++ wd_11 (mi_GG D cys N0 aS) N0 (N0 + 1)) H) : va_at D vwCl (mi_ad N0 aS 36 17, mi_c (mi_GG D cys N0 aS) mi_m1 (36, 17)) H := hP 105 _ rfl
set_option maxRecDepth 100000 in
theorem cv_153 {D : va_G} {cys : Nat → ClassId} {N0 : Nat} {aS : Nat → Nat → Nat} {H : Heap} (hP : va_P D vwCl (wd_12 (mi_GG D cys N0 aS) N0 ++ wd_11 (mi_GG D cys N0 aS) N0 (N0 + 1)) H) : va_at D vwCl (mi_ad N0 aS 36 18, mi_c (mi_GG D cys N0 aS) mi_m1 (36, 18)) H := hP 113 _ rfl
set_option maxRecDepth 100000 in
theorem cv_154 {D : va_G} {cys : Nat → ClassId} {N0 : Nat} {aS : Nat → Nat → Nat} {H : Heap} (hP : va_P D vwCl (wd_12 (mi_GG D cys N0 aS) N0 ++ wd_11 (mi_GG D cys N0 aS) N0 (N0 + 1)) H) : va_at D vwCl (mi_ad N0 aS 36 19, mi_c (mi_GG D cys N0 aS) mi_m1 (36, 19)) H := hP 121 _ rfl
set_option maxRecDepth 100000 in
theorem cv_155 {D : va_G} {cys : Nat → ClassId} {N0 : Nat} {aS : Nat → Nat → Nat} {H : Heap} (hP : va_P D vwCl (wd_12 (mi_GG D cys N0 aS) N0 ++ wd_11 (mi_GG D cys N0 aS) N0 (N0 + 1)) H) : va_at D vwCl (mi_ad N0 aS 36 20, mi_c (mi_GG D cys N0 aS) mi_m1 (36, 20)) H := hP 129 _ rfl
set_option maxRecDepth 100000 in
theorem cv_156 {D : va_G} {cys : Nat → ClassId} {N0 : Nat} {aS : Nat → Nat → Nat} {H : Heap} (hP : va_P D vwCl (wd_12 (mi_GG D cys N0 aS) N0 ++ wd_11 (mi_GG D cys N0 aS) N0 (N0 + 1)) H) : va_at D vwCl (mi_ad N0 aS 36 21, mi_c (mi_GG D cys N0 aS) mi_m1 (36, 21)) H := hP 142 _ rfl
set_option maxRecDepth 100000 in
theorem cv_157 {D : va_G} {cys : Nat → ClassId} {N0 : Nat} {aS : Nat → Nat → Nat} {H : Heap} (hP : va_P D vwCl (wd_12 (mi_GG D cys N0 aS) N0 ++ wd_11 (mi_GG D cys N0 aS) N0 (N0 + 1)) H) : va_at D vwCl (mi_ad N0 aS 36 22, mi_c (mi_GG D cys N0 aS) mi_m1 (36, 22)) H := hP 149 _ rfl
set_option maxRecDepth 100000 in
theorem cv_158 {D : va_G} {cys : Nat → ClassId} {N0 : Nat} {aS : Nat → Nat → Nat} {H : Heap} (hP : va_P D vwCl (wd_12 (mi_GG D cys N0 aS) N0 ++ wd_11 (mi_GG D cys N0 aS) N0 (N0 + 1)) H) : va_at D vwCl (mi_ad N0 aS 36 23, mi_c (mi_GG D cys N0 aS) mi_m1 (36, 23)) H := hP 153 _ rfl
set_option maxRecDepth 100000 in
theorem cv_159 {D : va_G} {cys : Nat → ClassId} {N0 : Nat} {aS : Nat → Nat → Nat} {H : Heap} (hP : va_P D vwCl (wd_12 (mi_GG D cys N0 aS) N0 ++ wd_11 (mi_GG D cys N0 aS) N0 (N0 + 1)) H) : va_at D vwCl (mi_ad N0 aS 36 24, mi_c (mi_GG D cys N0 aS) mi_m1 (36, 24)) H := hP 157 _ rfl
set_option maxRecDepth 100000 in
theorem cv_160 {D : va_G} {cys : Nat → ClassId} {N0 : Nat} {aS : Nat → Nat → Nat} {H : Heap} (hP : va_P D vwCl (wd_12 (mi_GG D cys N0 aS) N0 ++ wd_11 (mi_GG D cys N0 aS) N0 (N0 + 1)) H) : va_at D vwCl (mi_ad N0 aS 36 25, mi_c (mi_GG D cys N0 aS) mi_m1 (36, 25)) H := hP 161 _ rfl
set_option maxRecDepth 100000 in
theorem cv_161 {D : va_G} {cys : Nat → ClassId} {N0 : Nat} {aS : Nat → Nat → Nat} {H : Heap} (hP : va_P D vwCl (wd_12 (mi_GG D cys N0 aS) N0 ++ wd_11 (mi_GG D cys N0 aS) N0 (N0 + 1)) H) : va_at D vwCl (mi_ad N0 aS 37 0, mi_c (mi_GG D cys N0 aS) mi_m1 (37, 0)) H := hP 29 _ rfl
set_option maxRecDepth 100000 in
theorem cv_162 {D : va_G} {cys : Nat → ClassId} {N0 : Nat} {aS : Nat → Nat → Nat} {H : Heap} (hP : va_P D vwCl (wd_12 (mi_GG D cys N0 aS) N0 ++ wd_11 (mi_GG D cys N0 aS) N0 (N0 + 1)) H) : va_at D vwCl (mi_ad N0 aS 38 0, mi_c (mi_GG D cys N0 aS) mi_m1 (38, 0)) H := hP 172 _ rfl
set_option maxRecDepth 100000 in
theorem cv_163 {D : va_G} {cys : Nat → ClassId} {N0 : Nat} {aS : Nat → Nat → Nat} {H : Heap} (hP : va_P D vwCl (wd_12 (mi_GG D cys N0 aS) N0 ++ wd_11 (mi_GG D cys N0 aS) N0 (N0 + 1)) H) : va_at D vwCl (mi_ad N0 aS 38 1, mi_c (mi_GG D cys N0 aS) mi_m1 (38, 1)) H := hP 195 _ rfl
set_option maxRecDepth 100000 in
theorem cv_164 {D : va_G} {cys : Nat → ClassId} {N0 : Nat} {aS : Nat → Nat → Nat} {H : Heap} (hP : va_P D vwCl (wd_12 (mi_GG D cys N0 aS) N0 ++ wd_11 (mi_GG D cys N0 aS) N0 (N0 + 1)) H) : va_at D vwCl (mi_ad N0 aS 39 0, mi_c (mi_GG D cys N0 aS) mi_m1 (39, 0)) H := hP 173 _ rfl
set_option maxRecDepth 100000 in
theorem cv_165 {D : va_G} {cys : Nat → ClassId} {N0 : Nat} {aS : Nat → Nat → Nat} {H : Heap} (hP : va_P D vwCl (wd_12 (mi_GG D cys N0 aS) N0 ++ wd_11 (mi_GG D cys N0 aS) N0 (N0 + 1)) H) : va_at D vwCl (mi_ad N0 aS 39 1, mi_c (mi_GG D cys N0 aS) mi_m1 (39, 1)) H := hP 196 _ rfl
set_option maxRecDepth 100000 in
theorem cv_166 {D : va_G} {cys : Nat → ClassId} {N0 : Nat} {aS : Nat → Nat → Nat} {H : Heap} (hP : va_P D vwCl (wd_12 (mi_GG D cys N0 aS) N0 ++ wd_11 (mi_GG D cys N0 aS) N0 (N0 + 1)) H) : va_at D vwCl (mi_ad N0 aS 40 0, mi_c (mi_GG D cys N0 aS) mi_m1 (40, 0)) H := hP 174 _ rfl
set_option maxRecDepth 100000 in
theorem cv_167 {D : va_G} {cys : Nat → ClassId} {N0 : Nat} {aS : Nat → Nat → Nat} {H : Heap} (hP : va_P D vwCl (wd_12 (mi_GG D cys N0 aS) N0 ++ wd_11 (mi_GG D cys N0 aS) N0 (N0 + 1)) H) : va_at D vwCl (mi_ad N0 aS 40 1, mi_c (mi_GG D cys N0 aS) mi_m1 (40, 1)) H := hP 197 _ rfl
set_option maxRecDepth 100000 in
theorem cv_168 {D : va_G} {cys : Nat → ClassId} {N0 : Nat} {aS : Nat → Nat → Nat} {H : Heap} (hP : va_P D vwCl (wd_12 (mi_GG D cys N0 aS) N0 ++ wd_11 (mi_GG D cys N0 aS) N0 (N0 + 1)) H) : va_at D vwCl (mi_ad N0 aS 41 0, mi_c (mi_GG D cys N0 aS) mi_m1 (41, 0)) H := hP 175 _ rfl
set_option maxRecDepth 100000 in
theorem cv_169 {D : va_G} {cys : Nat → ClassId} {N0 : Nat} {aS : Nat → Nat → Nat} {H : Heap} (hP : va_P D vwCl (wd_12 (mi_GG D cys N0 aS) N0 ++ wd_11 (mi_GG D cys N0 aS) N0 (N0 + 1)) H) : va_at D vwCl (mi_ad N0 aS 41 1, mi_c (mi_GG D cys N0 aS) mi_m1 (41, 1)) H := hP 198 _ rfl
set_option maxRecDepth 100000 in
theorem cv_170 {D : va_G} {cys : Nat → ClassId} {N0 : Nat} {aS : Nat → Nat → Nat} {H : Heap} (hP : va_P D vwCl (wd_12 (mi_GG D cys N0 aS) N0 ++ wd_11 (mi_GG D cys N0 aS) N0 (N0 + 1)) H) : va_at D vwCl (mi_ad N0 aS 42 0, mi_c (mi_GG D cys N0 aS) mi_m1 (42, 0)) H := hP 176 _ rfl
set_option maxRecDepth 100000 in
theorem cv_171 {D : va_G} {cys : Nat → ClassId} {N0 : Nat} {aS : Nat → Nat → Nat} {H : Heap} (hP : va_P D vwCl (wd_12 (mi_GG D cys N0 aS) N0 ++ wd_11 (mi_GG D cys N0 aS) N0 (N0 + 1)) H) : va_at D vwCl (mi_ad N0 aS 42 1, mi_c (mi_GG D cys N0 aS) mi_m1 (42, 1)) H := hP 199 _ rfl
set_option maxRecDepth 100000 in
theorem cv_172 {D : va_G} {cys : Nat → ClassId} {N0 : Nat} {aS : Nat → Nat → Nat} {H : Heap} (hP : va_P D vwCl (wd_12 (mi_GG D cys N0 aS) N0 ++ wd_11 (mi_GG D cys N0 aS) N0 (N0 + 1)) H) : va_at D vwCl (mi_ad N0 aS 43 0, mi_c (mi_GG D cys N0 aS) mi_m1 (43, 0)) H := hP 177 _ rfl
set_option maxRecDepth 100000 in
theorem cv_173 {D : va_G} {cys : Nat → ClassId} {N0 : Nat} {aS : Nat → Nat → Nat} {H : Heap} (hP : va_P D vwCl (wd_12 (mi_GG D cys N0 aS) N0 ++ wd_11 (mi_GG D cys N0 aS) N0 (N0 + 1)) H) : va_at D vwCl (mi_ad N0 aS 43 1, mi_c (mi_GG D cys N0 aS) mi_m1 (43, 1)) H := hP 200 _ rfl
set_option maxRecDepth 100000 in
theorem cv_174 {D : va_G} {cys : Nat → ClassId} {N0 : Nat} {aS : Nat → Nat → Nat} {H : Heap} (hP : va_P D vwCl (wd_12 (mi_GG D cys N0 aS) N0 ++ wd_11 (mi_GG D cys N0 aS) N0 (N0 + 1)) H) : va_at D vwCl (mi_ad N0 aS 44 0, mi_c (mi_GG D cys N0 aS) mi_m1 (44, 0)) H :=
  va_atq (hP 184 _ rfl) (fun j hj => match j, hj with | 0, _ => rfl | 1, _ => rfl | 2, _ => rfl | 3, _ => rfl | 4, _ => rfl | 5, _ => rfl | _ + 6, h => absurd h (by omega))
set_option maxRecDepth 100000 in
theorem cv_175 {D : va_G} {cys : Nat → ClassId} {N0 : Nat} {aS : Nat → Nat → Nat} {H : Heap} (hP : va_P D vwCl (wd_12 (mi_GG D cys N0 aS) N0 ++ wd_11 (mi_GG D cys N0 aS) N0 (N0 + 1)) H) : va_at D vwCl (mi_ad N0 aS 44 1, mi_c (mi_GG D cys N0 aS) mi_m1 (44, 1)) H :=
  va_atq (hP 207 _ rfl) (fun j hj => match j, hj with | 0, _ => rfl | 1, _ => rfl | 2, _ => rfl | 3, _ => rfl | 4, _ => rfl | 5, _ => rfl | _ + 6, h => absurd h (by omega))
set_option maxRecDepth 100000 in
theorem cv_176 {D : va_G} {cys : Nat → ClassId} {N0 : Nat} {aS : Nat → Nat → Nat} {H : Heap} (hP : va_P D vwCl (wd_12 (mi_GG D cys N0 aS) N0 ++ wd_11 (mi_GG D cys N0 aS) N0 (N0 + 1)) H) : va_at D vwCl (mi_ad N0 aS 45 0, mi_c (mi_GG D cys N0 aS) mi_m1 (45, 0)) H := hP 191 _ rfl
set_option maxRecDepth 100000 in
theorem cv_177 {D : va_G} {cys : Nat → ClassId} {N0 : Nat} {aS : Nat → Nat → Nat} {H : Heap} (hP : va_P D vwCl (wd_12 (mi_GG D cys N0 aS) N0 ++ wd_11 (mi_GG D cys N0 aS) N0 (N0 + 1)) H) : va_at D vwCl (mi_ad N0 aS 45 1, mi_c (mi_GG D cys N0 aS) mi_m1 (45, 1)) H := hP 214 _ rfl
set_option maxRecDepth 100000 in
theorem cv_178 {D : va_G} {cys : Nat → ClassId} {N0 : Nat} {aS : Nat → Nat → Nat} {H : Heap} (hP : va_P D vwCl (wd_12 (mi_GG D cys N0 aS) N0 ++ wd_11 (mi_GG D cys N0 aS) N0 (N0 + 1)) H) : va_at D vwCl (mi_ad N0 aS 46 0, mi_c (mi_GG D cys N0 aS) mi_m1 (46, 0)) H := hP 192 _ rfl
set_option maxRecDepth 100000 in
theorem cv_179 {D : va_G} {cys : Nat → ClassId} {N0 : Nat} {aS : Nat → Nat → Nat} {H : Heap} (hP : va_P D vwCl (wd_12 (mi_GG D cys N0 aS) N0 ++ wd_11 (mi_GG D cys N0 aS) N0 (N0 + 1)) H) : va_at D vwCl (mi_ad N0 aS 46 1, mi_c (mi_GG D cys N0 aS) mi_m1 (46, 1)) H := hP 215 _ rfl
set_option maxRecDepth 100000 in
theorem cv_180 {D : va_G} {cys : Nat → ClassId} {N0 : Nat} {aS : Nat → Nat → Nat} {H : Heap} (hP : va_P D vwCl (wd_12 (mi_GG D cys N0 aS) N0 ++ wd_11 (mi_GG D cys N0 aS) N0 (N0 + 1)) H) : va_at D vwCl (mi_ad N0 aS 47 0, mi_c (mi_GG D cys N0 aS) mi_m1 (47, 0)) H := hP 193 _ rfl
set_option maxRecDepth 100000 in
theorem cv_181 {D : va_G} {cys : Nat → ClassId} {N0 : Nat} {aS : Nat → Nat → Nat} {H : Heap} (hP : va_P D vwCl (wd_12 (mi_GG D cys N0 aS) N0 ++ wd_11 (mi_GG D cys N0 aS) N0 (N0 + 1)) H) : va_at D vwCl (mi_ad N0 aS 47 1, mi_c (mi_GG D cys N0 aS) mi_m1 (47, 1)) H := hP 216 _ rfl
set_option maxRecDepth 100000 in
theorem cv_182 {D : va_G} {cys : Nat → ClassId} {N0 : Nat} {aS : Nat → Nat → Nat} {H : Heap} (hP : va_P D vwCl (wd_12 (mi_GG D cys N0 aS) N0 ++ wd_11 (mi_GG D cys N0 aS) N0 (N0 + 1)) H) : va_at D vwCl (mi_ad N0 aS 48 0, mi_c (mi_GG D cys N0 aS) mi_m1 (48, 0)) H := hP 218 _ rfl
set_option maxRecDepth 100000 in
theorem cv_183 {D : va_G} {cys : Nat → ClassId} {N0 : Nat} {aS : Nat → Nat → Nat} {H : Heap} (hP : va_P D vwCl (wd_12 (mi_GG D cys N0 aS) N0 ++ wd_11 (mi_GG D cys N0 aS) N0 (N0 + 1)) H) : va_at D vwCl (mi_ad N0 aS 48 1, mi_c (mi_GG D cys N0 aS) mi_m1 (48, 1)) H := hP 222 _ rfl
set_option maxRecDepth 100000 in
theorem cv_184 {D : va_G} {cys : Nat → ClassId} {N0 : Nat} {aS : Nat → Nat → Nat} {H : Heap} (hP : va_P D vwCl (wd_12 (mi_GG D cys N0 aS) N0 ++ wd_11 (mi_GG D cys N0 aS) N0 (N0 + 1)) H) : va_at D vwCl (mi_ad N0 aS 49 0, mi_c (mi_GG D cys N0 aS) mi_m1 (49, 0)) H := hP 219 _ rfl
set_option maxRecDepth 100000 in
theorem cv_185 {D : va_G} {cys : Nat → ClassId} {N0 : Nat} {aS : Nat → Nat → Nat} {H : Heap} (hP : va_P D vwCl (wd_12 (mi_GG D cys N0 aS) N0 ++ wd_11 (mi_GG D cys N0 aS) N0 (N0 + 1)) H) : va_at D vwCl (mi_ad N0 aS 49 1, mi_c (mi_GG D cys N0 aS) mi_m1 (49, 1)) H := hP 223 _ rfl
set_option maxRecDepth 100000 in
theorem cv_186 {D : va_G} {cys : Nat → ClassId} {N0 : Nat} {aS : Nat → Nat → Nat} {H : Heap} (hP : va_P D vwCl (wd_12 (mi_GG D cys N0 aS) N0 ++ wd_11 (mi_GG D cys N0 aS) N0 (N0 + 1)) H) : va_at D vwCl (mi_ad N0 aS 50 0, mi_c (mi_GG D cys N0 aS) mi_m1 (50, 0)) H := hP 220 _ rfl
set_option maxRecDepth 100000 in
theorem cv_187 {D : va_G} {cys : Nat → ClassId} {N0 : Nat} {aS : Nat → Nat → Nat} {H : Heap} (hP : va_P D vwCl (wd_12 (mi_GG D cys N0 aS) N0 ++ wd_11 (mi_GG D cys N0 aS) N0 (N0 + 1)) H) : va_at D vwCl (mi_ad N0 aS 50 1, mi_c (mi_GG D cys N0 aS) mi_m1 (50, 1)) H := hP 224 _ rfl
set_option maxRecDepth 100000 in
theorem cv_188 {D : va_G} {cys : Nat → ClassId} {N0 : Nat} {aS : Nat → Nat → Nat} {H : Heap} (hP : va_P D vwCl (wd_12 (mi_GG D cys N0 aS) N0 ++ wd_11 (mi_GG D cys N0 aS) N0 (N0 + 1)) H) : va_at D vwCl (mi_ad N0 aS 51 0, mi_c (mi_GG D cys N0 aS) mi_m1 (51, 0)) H := hP 1 _ rfl
set_option maxRecDepth 100000 in
theorem cv_189 {D : va_G} {cys : Nat → ClassId} {N0 : Nat} {aS : Nat → Nat → Nat} {H : Heap} (hP : va_P D vwCl (wd_12 (mi_GG D cys N0 aS) N0 ++ wd_11 (mi_GG D cys N0 aS) N0 (N0 + 1)) H) : va_at D vwCl (mi_ad N0 aS 52 0, mi_c (mi_GG D cys N0 aS) mi_m1 (52, 0)) H := hP 2 _ rfl
set_option maxRecDepth 100000 in
theorem cv_190 {D : va_G} {cys : Nat → ClassId} {N0 : Nat} {aS : Nat → Nat → Nat} {H : Heap} (hP : va_P D vwCl (wd_12 (mi_GG D cys N0 aS) N0 ++ wd_11 (mi_GG D cys N0 aS) N0 (N0 + 1)) H) : va_at D vwCl (mi_ad N0 aS 53 0, mi_c (mi_GG D cys N0 aS) mi_m1 (53, 0)) H := hP 3 _ rfl
set_option maxRecDepth 100000 in
theorem cv_191 {D : va_G} {cys : Nat → ClassId} {N0 : Nat} {aS : Nat → Nat → Nat} {H : Heap} (hP : va_P D vwCl (wd_12 (mi_GG D cys N0 aS) N0 ++ wd_11 (mi_GG D cys N0 aS) N0 (N0 + 1)) H) : va_at D vwCl (mi_ad N0 aS 54 0, mi_c (mi_GG D cys N0 aS) mi_m1 (54, 0)) H := hP 4 _ rfl
set_option maxRecDepth 100000 in
theorem cv_192 {D : va_G} {cys : Nat → ClassId} {N0 : Nat} {aS : Nat → Nat → Nat} {H : Heap} (hP : va_P D vwCl (wd_12 (mi_GG D cys N0 aS) N0 ++ wd_11 (mi_GG D cys N0 aS) N0 (N0 + 1)) H) : va_at D vwCl (mi_ad N0 aS 55 0, mi_c (mi_GG D cys N0 aS) mi_m1 (55, 0)) H := hP 5 _ rfl
set_option maxRecDepth 100000 in
theorem cv_193 {D : va_G} {cys : Nat → ClassId} {N0 : Nat} {aS : Nat → Nat → Nat} {H : Heap} (hP : va_P D vwCl (wd_12 (mi_GG D cys N0 aS) N0 ++ wd_11 (mi_GG D cys N0 aS) N0 (N0 + 1)) H) : va_at D vwCl (mi_ad N0 aS 56 0, mi_c (mi_GG D cys N0 aS) mi_m1 (56, 0)) H := hP 6 _ rfl
set_option maxRecDepth 100000 in
theorem cv_194 {D : va_G} {cys : Nat → ClassId} {N0 : Nat} {aS : Nat → Nat → Nat} {H : Heap} (hP : va_P D vwCl (wd_12 (mi_GG D cys N0 aS) N0 ++ wd_11 (mi_GG D cys N0 aS) N0 (N0 + 1)) H) : va_at D vwCl (mi_ad N0 aS 57 0, mi_c (mi_GG D cys N0 aS) mi_m1 (57, 0)) H := hP 7 _ rfl
set_option maxRecDepth 100000 in
theorem cv_195 {D : va_G} {cys : Nat → ClassId} {N0 : Nat} {aS : Nat → Nat → Nat} {H : Heap} (hP : va_P D vwCl (wd_12 (mi_GG D cys N0 aS) N0 ++ wd_11 (mi_GG D cys N0 aS) N0 (N0 + 1)) H) : va_at D vwCl (mi_ad N0 aS 58 0, mi_c (mi_GG D cys N0 aS) mi_m1 (58, 0)) H := hP 8 _ rfl
set_option maxRecDepth 100000 in
theorem cv_196 {D : va_G} {cys : Nat → ClassId} {N0 : Nat} {aS : Nat → Nat → Nat} {H : Heap} (hP : va_P D vwCl (wd_12 (mi_GG D cys N0 aS) N0 ++ wd_11 (mi_GG D cys N0 aS) N0 (N0 + 1)) H) : va_at D vwCl (mi_ad N0 aS 59 0, mi_c (mi_GG D cys N0 aS) mi_m1 (59, 0)) H := hP 9 _ rfl
set_option maxRecDepth 100000 in
theorem cv_197 {D : va_G} {cys : Nat → ClassId} {N0 : Nat} {aS : Nat → Nat → Nat} {H : Heap} (hP : va_P D vwCl (wd_12 (mi_GG D cys N0 aS) N0 ++ wd_11 (mi_GG D cys N0 aS) N0 (N0 + 1)) H) : va_at D vwCl (mi_ad N0 aS 60 0, mi_c (mi_GG D cys N0 aS) mi_m1 (60, 0)) H := hP 10 _ rfl
set_option maxRecDepth 100000 in
theorem cv_198 {D : va_G} {cys : Nat → ClassId} {N0 : Nat} {aS : Nat → Nat → Nat} {H : Heap} (hP : va_P D vwCl (wd_12 (mi_GG D cys N0 aS) N0 ++ wd_11 (mi_GG D cys N0 aS) N0 (N0 + 1)) H) : va_at D vwCl (mi_ad N0 aS 61 0, mi_c (mi_GG D cys N0 aS) mi_m1 (61, 0)) H := hP 11 _ rfl
set_option maxRecDepth 100000 in
theorem cv_199 {D : va_G} {cys : Nat → ClassId} {N0 : Nat} {aS : Nat → Nat → Nat} {H : Heap} (hP : va_P D vwCl (wd_12 (mi_GG D cys N0 aS) N0 ++ wd_11 (mi_GG D cys N0 aS) N0 (N0 + 1)) H) : va_at D vwCl (mi_ad N0 aS 62 0, mi_c (mi_GG D cys N0 aS) mi_m1 (62, 0)) H := hP 12 _ rfl
set_option maxRecDepth 100000 in
theorem cv_200 {D : va_G} {cys : Nat → ClassId} {N0 : Nat} {aS : Nat → Nat → Nat} {H : Heap} (hP : va_P D vwCl (wd_12 (mi_GG D cys N0 aS) N0 ++ wd_11 (mi_GG D cys N0 aS) N0 (N0 + 1)) H) : va_at D vwCl (mi_ad N0 aS 63 0, mi_c (mi_GG D cys N0 aS) mi_m1 (63, 0)) H := hP 13 _ rfl
set_option maxRecDepth 100000 in
theorem cv_201 {D : va_G} {cys : Nat → ClassId} {N0 : Nat} {aS : Nat → Nat → Nat} {H : Heap} (hP : va_P D vwCl (wd_12 (mi_GG D cys N0 aS) N0 ++ wd_11 (mi_GG D cys N0 aS) N0 (N0 + 1)) H) : va_at D vwCl (mi_ad N0 aS 64 0, mi_c (mi_GG D cys N0 aS) mi_m1 (64, 0)) H := hP 14 _ rfl
set_option maxRecDepth 100000 in
theorem cv_202 {D : va_G} {cys : Nat → ClassId} {N0 : Nat} {aS : Nat → Nat → Nat} {H : Heap} (hP : va_P D vwCl (wd_12 (mi_GG D cys N0 aS) N0 ++ wd_11 (mi_GG D cys N0 aS) N0 (N0 + 1)) H) : va_at D vwCl (mi_ad N0 aS 65 0, mi_c (mi_GG D cys N0 aS) mi_m1 (65, 0)) H := hP 15 _ rfl
set_option maxRecDepth 100000 in
theorem cv_203 {D : va_G} {cys : Nat → ClassId} {N0 : Nat} {aS : Nat → Nat → Nat} {H : Heap} (hP : va_P D vwCl (wd_12 (mi_GG D cys N0 aS) N0 ++ wd_11 (mi_GG D cys N0 aS) N0 (N0 + 1)) H) : va_at D vwCl (mi_ad N0 aS 66 0, mi_c (mi_GG D cys N0 aS) mi_m1 (66, 0)) H := hP 16 _ rfl
set_option maxRecDepth 100000 in
theorem cv_204 {D : va_G} {cys : Nat → ClassId} {N0 : Nat} {aS : Nat → Nat → Nat} {H : Heap} (hP : va_P D vwCl (wd_12 (mi_GG D cys N0 aS) N0 ++ wd_11 (mi_GG D cys N0 aS) N0 (N0 + 1)) H) : va_at D vwCl (mi_ad N0 aS 67 0, mi_c (mi_GG D cys N0 aS) mi_m1 (67, 0)) H := hP 17 _ rfl
set_option maxRecDepth 100000 in
theorem cv_205 {D : va_G} {cys : Nat → ClassId} {N0 : Nat} {aS : Nat → Nat → Nat} {H : Heap} (hP : va_P D vwCl (wd_12 (mi_GG D cys N0 aS) N0 ++ wd_11 (mi_GG D cys N0 aS) N0 (N0 + 1)) H) : va_at D vwCl (mi_ad N0 aS 68 0, mi_c (mi_GG D cys N0 aS) mi_m1 (68, 0)) H := hP 18 _ rfl
set_option maxRecDepth 100000 in
theorem cv_206 {D : va_G} {cys : Nat → ClassId} {N0 : Nat} {aS : Nat → Nat → Nat} {H : Heap} (hP : va_P D vwCl (wd_12 (mi_GG D cys N0 aS) N0 ++ wd_11 (mi_GG D cys N0 aS) N0 (N0 + 1)) H) : va_at D vwCl (mi_ad N0 aS 69 0, mi_c (mi_GG D cys N0 aS) mi_m1 (69, 0)) H := hP 19 _ rfl
set_option maxRecDepth 100000 in
theorem cv_207 {D : va_G} {cys : Nat → ClassId} {N0 : Nat} {aS : Nat → Nat → Nat} {H : Heap} (hP : va_P D vwCl (wd_12 (mi_GG D cys N0 aS) N0 ++ wd_11 (mi_GG D cys N0 aS) N0 (N0 + 1)) H) : va_at D vwCl (mi_ad N0 aS 70 0, mi_c (mi_GG D cys N0 aS) mi_m1 (70, 0)) H := hP 20 _ rfl
set_option maxRecDepth 100000 in
theorem cv_208 {D : va_G} {cys : Nat → ClassId} {N0 : Nat} {aS : Nat → Nat → Nat} {H : Heap} (hP : va_P D vwCl (wd_12 (mi_GG D cys N0 aS) N0 ++ wd_11 (mi_GG D cys N0 aS) N0 (N0 + 1)) H) : va_at D vwCl (mi_ad N0 aS 71 0, mi_c (mi_GG D cys N0 aS) mi_m1 (71, 0)) H := hP 21 _ rfl
set_option maxRecDepth 100000 in
theorem cv_209 {D : va_G} {cys : Nat → ClassId} {N0 : Nat} {aS : Nat → Nat → Nat} {H : Heap} (hP : va_P D vwCl (wd_12 (mi_GG D cys N0 aS) N0 ++ wd_11 (mi_GG D cys N0 aS) N0 (N0 + 1)) H) : va_at D vwCl (mi_ad N0 aS 72 0, mi_c (mi_GG D cys N0 aS) mi_m1 (72, 0)) H := hP 22 _ rfl
set_option maxRecDepth 100000 in
theorem cv_210 {D : va_G} {cys : Nat → ClassId} {N0 : Nat} {aS : Nat → Nat → Nat} {H : Heap} (hP : va_P D vwCl (wd_12 (mi_GG D cys N0 aS) N0 ++ wd_11 (mi_GG D cys N0 aS) N0 (N0 + 1)) H) : va_at D vwCl (mi_ad N0 aS 73 0, mi_c (mi_GG D cys N0 aS) mi_m1 (73, 0)) H := hP 23 _ rfl
set_option maxRecDepth 100000 in
theorem cv_211 {D : va_G} {cys : Nat → ClassId} {N0 : Nat} {aS : Nat → Nat → Nat} {H : Heap} (hP : va_P D vwCl (wd_12 (mi_GG D cys N0 aS) N0 ++ wd_11 (mi_GG D cys N0 aS) N0 (N0 + 1)) H) : va_at D vwCl (mi_ad N0 aS 74 0, mi_c (mi_GG D cys N0 aS) mi_m1 (74, 0)) H := hP 24 _ rfl
set_option maxRecDepth 100000 in
theorem cv_212 {D : va_G} {cys : Nat → ClassId} {N0 : Nat} {aS : Nat → Nat → Nat} {H : Heap} (hP : va_P D vwCl (wd_12 (mi_GG D cys N0 aS) N0 ++ wd_11 (mi_GG D cys N0 aS) N0 (N0 + 1)) H) : va_at D vwCl (mi_ad N0 aS 75 0, mi_c (mi_GG D cys N0 aS) mi_m1 (75, 0)) H := hP 25 _ rfl
set_option maxRecDepth 100000 in
theorem cv_213 {D : va_G} {cys : Nat → ClassId} {N0 : Nat} {aS : Nat → Nat → Nat} {H : Heap} (hP : va_P D vwCl (wd_12 (mi_GG D cys N0 aS) N0 ++ wd_11 (mi_GG D cys N0 aS) N0 (N0 + 1)) H) : va_at D vwCl (mi_ad N0 aS 76 0, mi_c (mi_GG D cys N0 aS) mi_m1 (76, 0)) H := hP 185 _ rfl
set_option maxRecDepth 100000 in
theorem cv_214 {D : va_G} {cys : Nat → ClassId} {N0 : Nat} {aS : Nat → Nat → Nat} {H : Heap} (hP : va_P D vwCl (wd_12 (mi_GG D cys N0 aS) N0 ++ wd_11 (mi_GG D cys N0 aS) N0 (N0 + 1)) H) : va_at D vwCl (mi_ad N0 aS 76 1, mi_c (mi_GG D cys N0 aS) mi_m1 (76, 1)) H := hP 186 _ rfl
set_option maxRecDepth 100000 in
theorem cv_215 {D : va_G} {cys : Nat → ClassId} {N0 : Nat} {aS : Nat → Nat → Nat} {H : Heap} (hP : va_P D vwCl (wd_12 (mi_GG D cys N0 aS) N0 ++ wd_11 (mi_GG D cys N0 aS) N0 (N0 + 1)) H) : va_at D vwCl (mi_ad N0 aS 76 2, mi_c (mi_GG D cys N0 aS) mi_m1 (76, 2)) H := hP 187 _ rfl
set_option maxRecDepth 100000 in
theorem cv_216 {D : va_G} {cys : Nat → ClassId} {N0 : Nat} {aS : Nat → Nat → Nat} {H : Heap} (hP : va_P D vwCl (wd_12 (mi_GG D cys N0 aS) N0 ++ wd_11 (mi_GG D cys N0 aS) N0 (N0 + 1)) H) : va_at D vwCl (mi_ad N0 aS 76 3, mi_c (mi_GG D cys N0 aS) mi_m1 (76, 3)) H := hP 188 _ rfl
set_option maxRecDepth 100000 in
theorem cv_217 {D : va_G} {cys : Nat → ClassId} {N0 : Nat} {aS : Nat → Nat → Nat} {H : Heap} (hP : va_P D vwCl (wd_12 (mi_GG D cys N0 aS) N0 ++ wd_11 (mi_GG D cys N0 aS) N0 (N0 + 1)) H) : va_at D vwCl (mi_ad N0 aS 76 4, mi_c (mi_GG D cys N0 aS) mi_m1 (76, 4)) H := hP 189 _ rfl
set_option maxRecDepth 100000 in
theorem cv_218 {D : va_G} {cys : Nat → ClassId} {N0 : Nat} {aS : Nat → Nat → Nat} {H : Heap} (hP : va_P D vwCl (wd_12 (mi_GG D cys N0 aS) N0 ++ wd_11 (mi_GG D cys N0 aS) N0 (N0 + 1)) H) : va_at D vwCl (mi_ad N0 aS 76 5, mi_c (mi_GG D cys N0 aS) mi_m1 (76, 5)) H := hP 190 _ rfl
set_option maxRecDepth 100000 in
theorem cv_219 {D : va_G} {cys : Nat → ClassId} {N0 : Nat} {aS : Nat → Nat → Nat} {H : Heap} (hP : va_P D vwCl (wd_12 (mi_GG D cys N0 aS) N0 ++ wd_11 (mi_GG D cys N0 aS) N0 (N0 + 1)) H) : va_at D vwCl (mi_ad N0 aS 76 6, mi_c (mi_GG D cys N0 aS) mi_m1 (76, 6)) H := hP 208 _ rfl
set_option maxRecDepth 100000 in
theorem cv_220 {D : va_G} {cys : Nat → ClassId} {N0 : Nat} {aS : Nat → Nat → Nat} {H : Heap} (hP : va_P D vwCl (wd_12 (mi_GG D cys N0 aS) N0 ++ wd_11 (mi_GG D cys N0 aS) N0 (N0 + 1)) H) : va_at D vwCl (mi_ad N0 aS 76 7, mi_c (mi_GG D cys N0 aS) mi_m1 (76, 7)) H := hP 209 _ rfl
set_option maxRecDepth 100000 in
theorem cv_221 {D : va_G} {cys : Nat → ClassId} {N0 : Nat} {aS : Nat → Nat → Nat} {H : Heap} (hP : va_P D vwCl (wd_12 (mi_GG D cys N0 aS) N0 ++ wd_11 (mi_GG D cys N0 aS) N0 (N0 + 1)) H) : va_at D vwCl (mi_ad N0 aS 76 8, mi_c (mi_GG D cys N0 aS) mi_m1 (76, 8)) H := hP 210 _ rfl
set_option maxRecDepth 100000 in
theorem cv_222 {D : va_G} {cys : Nat → ClassId} {N0 : Nat} {aS : Nat → Nat → Nat} {H : Heap} (hP : va_P D vwCl (wd_12 (mi_GG D cys N0 aS) N0 ++ wd_11 (mi_GG D cys N0 aS) N0 (N0 + 1)) H) : va_at D vwCl (mi_ad N0 aS 76 9, mi_c (mi_GG D cys N0 aS) mi_m1 (76, 9)) H := hP 211 _ rfl
set_option maxRecDepth 100000 in
theorem cv_223 {D : va_G} {cys : Nat → ClassId} {N0 : Nat} {aS : Nat → Nat → Nat} {H : Heap} (hP : va_P D vwCl (wd_12 (mi_GG D cys N0 aS) N0 ++ wd_11 (mi_GG D cys N0 aS) N0 (N0 + 1)) H) : va_at D vwCl (mi_ad N0 aS 76 10, mi_c (mi_GG D cys N0 aS) mi_m1 (76, 10)) H := hP 212 _ rfl
set_option maxRecDepth 100000 in
theorem cv_224 {D : va_G} {cys : Nat → ClassId} {N0 : Nat} {aS : Nat → Nat → Nat} {H : Heap} (hP : va_P D vwCl (wd_12 (mi_GG D cys N0 aS) N0 ++ wd_11 (mi_GG D cys N0 aS) N0 (N0 + 1)) H) : va_at D vwCl (mi_ad N0 aS 76 11, mi_c (mi_GG D cys N0 aS) mi_m1 (76, 11)) H := hP 213 _ rfl
