theorem mi_c_o {G : mi_G} {m : mi_M} {k i : Nat} (hk : k < 13) : mi_c G m (k, i) = .inr (k, mi_fs G.2.1 m k i) := if_pos hk
theorem mi_c_a {G : mi_G} {m : mi_M} {k i : Nat} (hk : Nat.ble 13 k = true) : mi_c G m (k, i) = .inl (G.2.2 (mi_A k).1, mi_ac G.2.1 m k i) := if_neg (Nat.not_lt.mpr (Nat.le_of_ble_eq_true hk))
theorem mi_ws_set2 {G : mi_G} {m m' : mi_M} {n k i : Nat} (h : mi_kt[n]? = some (k, i)) (ho : ∀ q ∈ mi_kt, q ≠ (k, i) → mi_c G m' q = mi_c G m q) : (mi_ws G m).set n (G.2.1 k i, mi_c G m' (k, i)) = mi_ws G m' := by
  apply List.ext_getElem?
  intro j
  have hl : n < (mi_ws G m).length := by
    have := (List.getElem?_eq_some_iff.mp h).1
    unfold mi_ws
    rw [List.length_map]
    exact this
  by_cases hj : j = n
  · subst hj
    rw [List.getElem?_set_self hl, mi_ws_at h]
  · rw [List.getElem?_set_ne (Ne.symm hj)]
    unfold mi_ws
    rw [List.getElem?_map, List.getElem?_map]
    cases hq : mi_kt[j]? with
    | none => rfl
    | some q =>
      have hne : q ≠ (k, i) := by
        intro e
        subst e
        exact hj ((List.getElem?_inj (List.getElem?_eq_some_iff.mp hq).1 mi_kt_nd).mp (hq.trans h.symm))
      show some (G.2.1 q.1 q.2, mi_c G m q) = some (G.2.1 q.1 q.2, mi_c G m' q)
      rw [ho q (List.mem_of_getElem? hq) hne]
theorem mi_fs_at {ad : Nat → Nat → Nat} {m : mi_M} {k i f : Nat} (h : f < mi_Cs k) : (mi_fs ad m k i)[f]? = some (mi_tv ad (mi_fm m k i f)) := by
  unfold mi_fs
  rw [List.getElem?_map, List.getElem?_range h]
  rfl
theorem mi_fs_len {ad : Nat → Nat → Nat} {m : mi_M} {k i : Nat} : (mi_fs ad m k i).length = mi_Cs k := by
  unfold mi_fs
  rw [List.length_map, List.length_range]
theorem mi_fs_set {ad : Nat → Nat → Nat} {m m' : mi_M} {k i f : Nat} {v : mi_V} (hf : f < mi_Cs k) (hv : mi_fm m' k i f = v) (ho : ∀ g, g < mi_Cs k → g ≠ f → mi_fm m' k i g = mi_fm m k i g) : (mi_fs ad m k i).set f (mi_tv ad v) = mi_fs ad m' k i := by
  apply List.ext_getElem?
  intro j
  by_cases hj : j = f
  · subst hj
    rw [List.getElem?_set_self (by rw [mi_fs_len]; exact hf), mi_fs_at hf, hv]
  · rw [List.getElem?_set_ne (Ne.symm hj)]
    by_cases hl : j < mi_Cs k
    · rw [mi_fs_at hl, mi_fs_at hl, ho j hl hj]
    · rw [List.getElem?_eq_none (by rw [mi_fs_len]; omega), List.getElem?_eq_none (by rw [mi_fs_len]; omega)]
theorem mi_fm_congr {m m' : mi_M} {k i g : Nat} (h1 : m'.1 k i g = m.1 k i g) (h2 : m'.2.1 k i g = m.2.1 k i g) (h3 : (mi_F k g).1 < 4 ∨ ∀ p, m'.2.2 p = m.2.2 p) : mi_fm m' k i g = mi_fm m k i g := by
  unfold mi_fm
  rcases hz : mi_F k g with ⟨t, a, b⟩
  rw [hz] at h3
  rcases t with _ | _ | _ | _ | t
  · show vi _ = vi _
    rw [h1]
  · show vl _ = vl _
    rw [h2]
  · rfl
  · rfl
  · rcases h3 with h3 | h3
    · exact absurd h3 (by show ¬ t + 1 + 1 + 1 + 1 < 4; omega)
    · show vr a _ = vr a _
      rw [h3]
theorem mi_c_congr {G : mi_G} {m m' : mi_M} {q : Nat × Nat} (h1 : ∀ p, m'.1 q.1 q.2 p = m.1 q.1 q.2 p) (h2 : ∀ p, m'.2.1 q.1 q.2 p = m.2.1 q.1 q.2 p) (h3 : (q.1 < 13 → ∀ g, g < mi_Cs q.1 → (mi_F q.1 g).1 < 4) ∨ ∀ p, m'.2.2 p = m.2.2 p) : mi_c G m' q = mi_c G m q := by
  have e1 : m'.1 q.1 q.2 = m.1 q.1 q.2 := funext h1
  have e2 : m'.2.1 q.1 q.2 = m.2.1 q.1 q.2 := funext h2
  unfold mi_c
  by_cases hk : q.1 < 13
  · rw [if_pos hk, if_pos hk]
    have ef : mi_fs G.2.1 m' q.1 q.2 = mi_fs G.2.1 m q.1 q.2 := by
      unfold mi_fs
      apply List.map_congr_left
      intro g hg
      rw [mi_fm_congr (h1 g) (h2 g) (h3.imp (fun h => h hk g (List.mem_range.mp hg)) id)]
    rw [ef]
  · rw [if_neg hk, if_neg hk]
    have ea : mi_ac G.2.1 m' q.1 q.2 = mi_ac G.2.1 m q.1 q.2 := by
      unfold mi_ac
      rw [e1, e2]
    rw [ea]
theorem mi_kt_lt {q : Nat × Nat} (h : q ∈ mi_kt) : q.2 < mi_n q.1 := by
  obtain ⟨k, -, h⟩ := List.mem_flatMap.mp h
  obtain ⟨i, hi, rfl⟩ := List.mem_map.mp h
  exact List.mem_range.mp hi
theorem mi_wI_o {G : mi_G} {m : mi_M} {k i p : Nat} {v : Int32} {q : Nat × Nat} (h : q ≠ (k, i)) : mi_c G (mi_wI m k i p v) q = mi_c G m q := by
  refine mi_c_congr (fun p' => ?_) (fun _ => rfl) (Or.inr fun _ => rfl)
  show (if q.1 = k ∧ q.2 = i ∧ p' = p then v else m.1 q.1 q.2 p') = _
  rw [if_neg]
  rintro ⟨h1, h2, -⟩
  exact h (Prod.ext h1 h2)
theorem mi_wL_o {G : mi_G} {m : mi_M} {k i p : Nat} {v : Int64} {q : Nat × Nat} (h : q ≠ (k, i)) : mi_c G (mi_wL m k i p v) q = mi_c G m q := by
  refine mi_c_congr (fun _ => rfl) (fun p' => ?_) (Or.inr fun _ => rfl)
  show (if q.1 = k ∧ q.2 = i ∧ p' = p then v else m.2.1 q.1 q.2 p') = _
  rw [if_neg]
  rintro ⟨h1, h2, -⟩
  exact h (Prod.ext h1 h2)
theorem mi_F4 : ∀ k, k < 13 → k ≠ 11 → ∀ g, g < mi_Cs k → (mi_F k g).1 < 4 := by decide +kernel
theorem mi_F11 : ∀ f, f < 10 → ∀ g, g < 10 → (g = f ∨ ((mi_F 11 f).1 ≠ 4 ∨ ((mi_F 11 g).1 < 4 ∨ ((mi_F 11 g).1 = 4 ∧ (mi_F 11 g).2.2 ≠ (mi_F 11 f).2.2)))) := by decide +kernel
theorem mi_fm_I {m : mi_M} {k i f : Nat} (h : mi_F k f = (0, 0, 0)) : mi_fm m k i f = vi (m.1 k i f) := by unfold mi_fm; rw [h]; rfl
theorem mi_fm_L {m : mi_M} {k i f : Nat} (h : mi_F k f = (1, 0, 0)) : mi_fm m k i f = vl (m.2.1 k i f) := by unfold mi_fm; rw [h]; rfl
theorem mi_fm_S {m : mi_M} {k i f k2 : Nat} (h : mi_F k f = (2, k2, 0)) : mi_fm m k i f = vr k2 i := by unfold mi_fm; rw [h]; rfl
theorem mi_fm_C {m : mi_M} {k i f k2 j : Nat} (h : mi_F k f = (3, k2, j)) : mi_fm m k i f = vr k2 j := by unfold mi_fm; rw [h]; rfl
theorem mi_fm_M {m : mi_M} {k i f k2 j : Nat} (h : mi_F k f = (4, k2, j)) : mi_fm m k i f = vr k2 (m.2.2 j) := by unfold mi_fm; rw [h]; rfl
section MH
variable {y : mi_MD} {d pc : Nat} {ls ls' : List (Nat × mi_V)} {st : List mi_V} {mem : mi_M} {Q : Option mi_V → mi_M → Prop}
theorem x_get {index k i f : Nat} {v : mi_V} (hd : decode y.2.1 pc = .ok (.getfield index, 3)) (hf : mi_fl y.1.cls index k f) (hi : i < mi_n k) (hv : mi_fm mem k i f = v) (kk : mi_X y d (pc + 3) ls (v :: st) mem Q) : mi_X y d pc ls (vr k i :: st) mem Q := by
  intro p l e R s m args below meth c H locs cells slots Z A G lsm C Rt hP hD hS hl
  obtain ⟨n, hn⟩ := mi_at hi
  have he := mi_ws_at (G := G) (m := mem) hn
  rw [mi_c_o hf.1] at he
  exact va_get C.1 C.2.1 C.2.2.2.2.2.2.1 (mi_uw k hf.1) C.2.2.2.2.2.1 C.2.2.2.2.2.2.2.1 hP n he (mi_cl k hf.1) f hf.2.1 (C.2.2.2.2.2.2.1 _ hf.2.2) (fun _ h => h) (v := mi_tv G.2.1 v) (by rw [mi_fs_at hf.2.1, hv]) hd (kk p l e R s m args below meth c H locs cells slots Z A G lsm C Rt hP hD hS hl)
theorem x_getI {index k i f : Nat} (hd : decode y.2.1 pc = .ok (.getfield index, 3)) (hf : mi_fl y.1.cls index k f) (ht : mi_F k f = (0, 0, 0)) (hi : i < mi_n k) (kk : mi_X y d (pc + 3) ls (vi (mem.1 k i f) :: st) mem Q) : mi_X y d pc ls (vr k i :: st) mem Q := x_get hd hf hi (mi_fm_I ht) kk
theorem x_getL {index k i f : Nat} (hd : decode y.2.1 pc = .ok (.getfield index, 3)) (hf : mi_fl y.1.cls index k f) (ht : mi_F k f = (1, 0, 0)) (hi : i < mi_n k) (kk : mi_X y d (pc + 3) ls (vl (mem.2.1 k i f) :: st) mem Q) : mi_X y d pc ls (vr k i :: st) mem Q := x_get hd hf hi (mi_fm_L ht) kk
theorem x_getS {index k i f k2 : Nat} (hd : decode y.2.1 pc = .ok (.getfield index, 3)) (hf : mi_fl y.1.cls index k f) (ht : mi_F k f = (2, k2, 0)) (hi : i < mi_n k) (kk : mi_X y d (pc + 3) ls (vr k2 i :: st) mem Q) : mi_X y d pc ls (vr k i :: st) mem Q := x_get hd hf hi (mi_fm_S ht) kk
theorem x_getC {index k i f k2 j : Nat} (hd : decode y.2.1 pc = .ok (.getfield index, 3)) (hf : mi_fl y.1.cls index k f) (ht : mi_F k f = (3, k2, j)) (hi : i < mi_n k) (kk : mi_X y d (pc + 3) ls (vr k2 j :: st) mem Q) : mi_X y d pc ls (vr k i :: st) mem Q := x_get hd hf hi (mi_fm_C ht) kk
theorem x_getM {index k i f k2 j : Nat} (hd : decode y.2.1 pc = .ok (.getfield index, 3)) (hf : mi_fl y.1.cls index k f) (ht : mi_F k f = (4, k2, j)) (hi : i < mi_n k) (kk : mi_X y d (pc + 3) ls (vr k2 (mem.2.2 j) :: st) mem Q) : mi_X y d pc ls (vr k i :: st) mem Q := x_get hd hf hi (mi_fm_M ht) kk
theorem x_put {index k i f : Nat} {v : mi_V} {mem' : mi_M} (hd : decode y.2.1 pc = .ok (.putfield index, 3)) (hf : mi_fl y.1.cls index k f) (hi : i < mi_n k) (hfin : (mi_Ct k f).2.2.2 = false) (hn : ∀ ad : Nat → Nat → Nat, narrow (mi_Ty k f) (mi_tv ad v) = mi_tv ad v ∧ fits (mi_Ty k f) (mi_tv ad v) = true) (hv : mi_fm mem' k i f = v) (ho : ∀ g, g < mi_Cs k → g ≠ f → mi_fm mem' k i g = mi_fm mem k i g) (hq : ∀ (G : mi_G), ∀ q ∈ mi_kt, q ≠ (k, i) → mi_c G mem' q = mi_c G mem q) (kk : mi_X y d (pc + 3) ls st mem' Q) : mi_X y d pc ls (v :: vr k i :: st) mem Q := by
  intro p l e R s m args below meth c H locs cells slots Z A G lsm C Rt hP hD hS hl
  obtain ⟨n, hnn⟩ := mi_at hi
  have he := mi_ws_at (G := G) (m := mem) hnn
  rw [mi_c_o hf.1] at he
  have ee : (mi_ws G mem).set n (G.2.1 k i, .inr (k, (mi_fs G.2.1 mem k i).set f (mi_tv G.2.1 v))) = mi_ws G mem' := by
    rw [mi_fs_set hf.2.1 hv ho, ← mi_c_o (G := G) (m := mem') hf.1]
    exact mi_ws_set2 hnn (hq G)
  refine va_put C.1 C.2.1 C.2.2.2.2.2.2.1 (mi_uw k hf.1) (mi_Ty k) (mi_tyok k hf.1) (mi_nm k hf.1) C.2.2.2.2.2.1 C.2.2.2.2.2.2.2.1 hP hD hS n he (mi_cl k hf.1) f hf.2.1 (C.2.2.2.2.2.2.1 _ hf.2.2) (fun _ h => h) hfin (mi_tyok k hf.1 f hf.2.1) (hn G.2.1).1 (hn G.2.1).2 (by rw [mi_fs_len]; exact hf.2.1) hd (fun H1 locs1 hP1 hD1 hS1 => ?_)
  rw [ee] at hP1 hD1
  exact kk p l e R s m args below meth c H1 locs1 cells slots Z A G lsm C Rt hP1 hD1 hS1 hl
theorem x_putI {index k i f : Nat} {x : Int32} (hd : decode y.2.1 pc = .ok (.putfield index, 3)) (hf : mi_fl y.1.cls index k f) (ht : mi_F k f = (0, 0, 0)) (hi : i < mi_n k) (hfin : (mi_Ct k f).2.2.2 = false) (hty : mi_Ty k f = .int) (kk : mi_X y d (pc + 3) ls st (mi_wI mem k i f x) Q) : mi_X y d pc ls (vi x :: vr k i :: st) mem Q := by
  refine x_put hd hf hi hfin (fun ad => by rw [hty]; exact ⟨rfl, rfl⟩) (mem' := mi_wI mem k i f x) ?_ ?_ (fun G q _ hq => mi_wI_o hq) kk
  · rw [mi_fm_I ht]
    simp [mi_wI]
  · intro g _ hg
    exact mi_fm_congr (by simp [mi_wI, hg]) rfl (Or.inr fun _ => rfl)
theorem x_putL {index k i f : Nat} {x : Int64} (hd : decode y.2.1 pc = .ok (.putfield index, 3)) (hf : mi_fl y.1.cls index k f) (ht : mi_F k f = (1, 0, 0)) (hi : i < mi_n k) (hfin : (mi_Ct k f).2.2.2 = false) (hty : mi_Ty k f = .long) (kk : mi_X y d (pc + 3) ls st (mi_wL mem k i f x) Q) : mi_X y d pc ls (vl x :: vr k i :: st) mem Q := by
  refine x_put hd hf hi hfin (fun ad => by rw [hty]; exact ⟨rfl, rfl⟩) (mem' := mi_wL mem k i f x) ?_ ?_ (fun G q _ hq => mi_wL_o hq) kk
  · rw [mi_fm_L ht]
    simp [mi_wL]
  · intro g _ hg
    exact mi_fm_congr rfl (by simp [mi_wL, hg]) (Or.inr fun _ => rfl)
theorem x_putM {index f k2 j t : Nat} (hd : decode y.2.1 pc = .ok (.putfield index, 3)) (hf : mi_fl y.1.cls index 11 f) (ht : mi_F 11 f = (4, k2, j)) (hfin : (mi_Ct 11 f).2.2.2 = false) (hty : ∃ C, mi_Ty 11 f = .object C) (kk : mi_X y d (pc + 3) ls st (mi_wR mem j t) Q) : mi_X y d pc ls (vr k2 t :: vr 11 0 :: st) mem Q := by
  obtain ⟨Cn, hty⟩ := hty
  refine x_put hd hf (by decide) hfin (fun ad => by rw [hty]; exact ⟨rfl, rfl⟩) (mem' := mi_wR mem j t) ?_ ?_ ?_ kk
  · rw [mi_fm_M ht]
    simp [mi_wR]
  · intro g hg hne
    have hfin2 := ((mi_F11 f hf.2.1 g hg).resolve_left hne).resolve_left (by rw [ht]; exact fun h => h rfl)
    unfold mi_fm
    rcases hz : mi_F 11 g with ⟨tg, a, b⟩
    rw [hz, ht] at hfin2
    rcases tg with _ | _ | _ | _ | _ | tg
    · rfl
    · rfl
    · rfl
    · rfl
    · show vr a _ = vr a _
      have hb : b ≠ j := by
        rcases hfin2 with h | h
        · exact absurd (show 4 < 4 from h) (by omega)
        · exact h.2
      simp [mi_wR, hb]
    · exfalso
      rcases hfin2 with h | h
      · have : tg + 1 + 1 + 1 + 1 + 1 < 4 := h
        omega
      · have : tg + 1 + 1 + 1 + 1 + 1 = 4 := h.1
        omega
  · intro G q hq hne
    refine mi_c_congr (fun _ => rfl) (fun _ => rfl) (Or.inl fun hk => mi_F4 q.1 hk ?_)
    intro e
    have h2 := mi_kt_lt hq
    rw [e] at h2
    have h3 : q.2 < 1 := h2
    exact hne (Prod.ext e (by show q.2 = 0; omega))
theorem x_iald {k i n t : Nat} {j : Int32} (hd : decode y.2.1 pc = .ok (.iaload, 1)) (hA : mi_A k = (0, n, 0, 0, 0)) (hk : Nat.ble 13 k = true) (hi : i < mi_n k) (ht : t < n) (hn : Nat.ble n 2147483647 = true) (hj : j = nI t) (kk : mi_X y d (pc + 1) ls (vi (mem.1 k i t) :: st) mem Q) : mi_X y d pc ls (vi j :: vr k i :: st) mem Q := by
  intro p l e R s m args below meth c H locs cells slots Z A G lsm C Rt hP hD hS hl
  obtain ⟨q, hq⟩ := mi_at hi
  have he := mi_ws_at (G := G) (m := mem) hq
  rw [mi_c_a hk] at he
  unfold mi_ac at he
  rw [hA] at he
  have hn2 : n < 2 ^ 31 := by have := Nat.le_of_ble_eq_true hn; omega
  subst hj
  refine va_iald C.1 C.2.1 C.2.2.2.2.2.2.2.1 hP q 0 he rfl (vp_in_nI ht hn2) hd ?_
  rw [nI_clamp (by omega)]
  exact kk p l e R s m args below meth c H locs cells slots Z A G lsm C Rt hP hD hS hl
theorem x_lald {k i n t : Nat} {j : Int32} (hd : decode y.2.1 pc = .ok (.laload, 1)) (hA : mi_A k = (1, n, 0, 0, 0)) (hk : Nat.ble 13 k = true) (hi : i < mi_n k) (ht : t < n) (hn : Nat.ble n 2147483647 = true) (hj : j = nI t) (kk : mi_X y d (pc + 1) ls (vl (mem.2.1 k i t) :: st) mem Q) : mi_X y d pc ls (vi j :: vr k i :: st) mem Q := by
  intro p l e R s m args below meth c H locs cells slots Z A G lsm C Rt hP hD hS hl
  obtain ⟨q, hq⟩ := mi_at hi
  have he := mi_ws_at (G := G) (m := mem) hq
  rw [mi_c_a hk] at he
  unfold mi_ac at he
  rw [hA] at he
  have hn2 : n < 2 ^ 31 := by have := Nat.le_of_ble_eq_true hn; omega
  subst hj
  refine va_lald C.1 C.2.1 C.2.2.2.2.2.2.2.1 hP q 1 he rfl (vp_in_nI ht hn2) hd ?_
  rw [nI_clamp (by omega)]
  exact kk p l e R s m args below meth c H locs cells slots Z A G lsm C Rt hP hD hS hl
theorem x_bald {k i n t : Nat} {j : Int32} (hd : decode y.2.1 pc = .ok (.baload, 1)) (hA : mi_A k = (2, n, 0, 0, 0)) (hk : Nat.ble 13 k = true) (hi : i < mi_n k) (ht : t < n) (hn : Nat.ble n 2147483647 = true) (hj : j = nI t) (kk : mi_X y d (pc + 1) ls (vi (mem.1 k i t) :: st) mem Q) : mi_X y d pc ls (vi j :: vr k i :: st) mem Q := by
  intro p l e R s m args below meth c H locs cells slots Z A G lsm C Rt hP hD hS hl
  obtain ⟨q, hq⟩ := mi_at hi
  have he := mi_ws_at (G := G) (m := mem) hq
  rw [mi_c_a hk] at he
  unfold mi_ac at he
  rw [hA] at he
  have hn2 : n < 2 ^ 31 := by have := Nat.le_of_ble_eq_true hn; omega
  subst hj
  refine va_bald C.1 C.2.1 C.2.2.2.2.2.2.2.1 hP q 2 he rfl (vp_in_nI ht hn2) hd ?_
  rw [nI_clamp (by omega)]
  exact kk p l e R s m args below meth c H locs cells slots Z A G lsm C Rt hP hD hS hl
theorem x_zald {k i n t : Nat} {j : Int32} (hd : decode y.2.1 pc = .ok (.baload, 1)) (hA : mi_A k = (3, n, 0, 0, 0)) (hk : Nat.ble 13 k = true) (hi : i < mi_n k) (ht : t < n) (hn : Nat.ble n 2147483647 = true) (hj : j = nI t) (kk : mi_X y d (pc + 1) ls (vi (mem.1 k i t) :: st) mem Q) : mi_X y d pc ls (vi j :: vr k i :: st) mem Q := by
  intro p l e R s m args below meth c H locs cells slots Z A G lsm C Rt hP hD hS hl
  obtain ⟨q, hq⟩ := mi_at hi
  have he := mi_ws_at (G := G) (m := mem) hq
  rw [mi_c_a hk] at he
  unfold mi_ac at he
  rw [hA] at he
  have hn2 : n < 2 ^ 31 := by have := Nat.le_of_ble_eq_true hn; omega
  subst hj
  refine va_zald C.1 C.2.1 C.2.2.2.2.2.2.2.1 hP q 3 he rfl (vp_in_nI ht hn2) hd ?_
  rw [nI_clamp (by omega)]
  exact kk p l e R s m args below meth c H locs cells slots Z A G lsm C Rt hP hD hS hl
theorem x_iast {k i n t : Nat} {j : Int32} {x : Int32} (hd : decode y.2.1 pc = .ok (.iastore, 1)) (hA : mi_A k = (0, n, 0, 0, 0)) (hk : Nat.ble 13 k = true) (hi : i < mi_n k) (ht : t < n) (hn : Nat.ble n 2147483647 = true) (hj : j = nI t) (kk : mi_X y d (pc + 1) ls st (mi_wI mem k i t x) Q) : mi_X y d pc ls (vi x :: vi j :: vr k i :: st) mem Q := by
  intro p l e R s m args below meth c H locs cells slots Z A G lsm C Rt hP hD hS hl
  obtain ⟨q, hq⟩ := mi_at hi
  have he := mi_ws_at (G := G) (m := mem) hq
  rw [mi_c_a hk] at he
  unfold mi_ac at he
  rw [hA] at he
  have hn2 : n < 2 ^ 31 := by have := Nat.le_of_ble_eq_true hn; omega
  subst hj
  refine va_iast C.1 C.2.1 C.2.2.2.2.2.2.2.1 hP hD hS q 0 he rfl (vp_in_nI ht hn2) hd (fun H1 locs1 hP1 hD1 hS1 => ?_)
  rw [nI_clamp (by omega)] at hP1 hD1
  have ee : (mi_ws G mem).set q (G.2.1 k i, .inl (G.2.2 0, n, .inl (upd (mem.1 k i) t x))) = mi_ws G (mi_wI mem k i t x) := by
    have e2 : mi_c G (mi_wI mem k i t x) (k, i) = .inl (G.2.2 0, n, .inl (upd (mem.1 k i) t x)) := by
      rw [mi_c_a hk]
      unfold mi_ac
      rw [hA]
      show (Sum.inl (G.2.2 0, n, .inl ((mi_wI mem k i t x).1 k i)) : va_E) = _
      have ef : (mi_wI mem k i t x).1 k i = upd (mem.1 k i) t x := by
        funext c2
        simp [mi_wI, upd]
      rw [ef]
    rw [← e2]
    exact mi_ws_set2 hq (fun q2 _ h2 => mi_wI_o h2)
  rw [ee] at hP1 hD1
  exact kk p l e R s m args below meth c H1 locs1 cells slots Z A G lsm C Rt hP1 hD1 hS1 hl
theorem x_bast {k i n t : Nat} {j : Int32} {x : Int32} (hd : decode y.2.1 pc = .ok (.bastore, 1)) (hA : mi_A k = (2, n, 0, 0, 0)) (hk : Nat.ble 13 k = true) (hi : i < mi_n k) (ht : t < n) (hn : Nat.ble n 2147483647 = true) (hj : j = nI t) (kk : mi_X y d (pc + 1) ls st (mi_wI mem k i t (vp_nar .byte x)) Q) : mi_X y d pc ls (vi x :: vi j :: vr k i :: st) mem Q := by
  intro p l e R s m args below meth c H locs cells slots Z A G lsm C Rt hP hD hS hl
  obtain ⟨q, hq⟩ := mi_at hi
  have he := mi_ws_at (G := G) (m := mem) hq
  rw [mi_c_a hk] at he
  unfold mi_ac at he
  rw [hA] at he
  have hn2 : n < 2 ^ 31 := by have := Nat.le_of_ble_eq_true hn; omega
  subst hj
  refine va_bast C.1 C.2.1 C.2.2.2.2.2.2.2.1 hP hD hS q 2 he rfl (vp_in_nI ht hn2) hd (fun H1 locs1 hP1 hD1 hS1 => ?_)
  rw [nI_clamp (by omega)] at hP1 hD1
  have ee : (mi_ws G mem).set q (G.2.1 k i, .inl (G.2.2 2, n, .inl (upd (mem.1 k i) t (vp_nar .byte x)))) = mi_ws G (mi_wI mem k i t (vp_nar .byte x)) := by
    have e2 : mi_c G (mi_wI mem k i t (vp_nar .byte x)) (k, i) = .inl (G.2.2 2, n, .inl (upd (mem.1 k i) t (vp_nar .byte x))) := by
      rw [mi_c_a hk]
      unfold mi_ac
      rw [hA]
      show (Sum.inl (G.2.2 2, n, .inl ((mi_wI mem k i t (vp_nar .byte x)).1 k i)) : va_E) = _
      have ef : (mi_wI mem k i t (vp_nar .byte x)).1 k i = upd (mem.1 k i) t (vp_nar .byte x) := by
        funext c2
        simp [mi_wI, upd]
      rw [ef]
    rw [← e2]
    exact mi_ws_set2 hq (fun q2 _ h2 => mi_wI_o h2)
  rw [ee] at hP1 hD1
  exact kk p l e R s m args below meth c H1 locs1 cells slots Z A G lsm C Rt hP1 hD1 hS1 hl
theorem x_zast {k i n t : Nat} {j : Int32} {x : Int32} (hd : decode y.2.1 pc = .ok (.bastore, 1)) (hA : mi_A k = (3, n, 0, 0, 0)) (hk : Nat.ble 13 k = true) (hi : i < mi_n k) (ht : t < n) (hn : Nat.ble n 2147483647 = true) (hj : j = nI t) (kk : mi_X y d (pc + 1) ls st (mi_wI mem k i t (vp_nar .boolean x)) Q) : mi_X y d pc ls (vi x :: vi j :: vr k i :: st) mem Q := by
  intro p l e R s m args below meth c H locs cells slots Z A G lsm C Rt hP hD hS hl
  obtain ⟨q, hq⟩ := mi_at hi
  have he := mi_ws_at (G := G) (m := mem) hq
  rw [mi_c_a hk] at he
  unfold mi_ac at he
  rw [hA] at he
  have hn2 : n < 2 ^ 31 := by have := Nat.le_of_ble_eq_true hn; omega
  subst hj
  refine va_zast C.1 C.2.1 C.2.2.2.2.2.2.2.1 hP hD hS q 3 he rfl (vp_in_nI ht hn2) hd (fun H1 locs1 hP1 hD1 hS1 => ?_)
  rw [nI_clamp (by omega)] at hP1 hD1
  have ee : (mi_ws G mem).set q (G.2.1 k i, .inl (G.2.2 3, n, .inl (upd (mem.1 k i) t (vp_nar .boolean x)))) = mi_ws G (mi_wI mem k i t (vp_nar .boolean x)) := by
    have e2 : mi_c G (mi_wI mem k i t (vp_nar .boolean x)) (k, i) = .inl (G.2.2 3, n, .inl (upd (mem.1 k i) t (vp_nar .boolean x))) := by
      rw [mi_c_a hk]
      unfold mi_ac
      rw [hA]
      show (Sum.inl (G.2.2 3, n, .inl ((mi_wI mem k i t (vp_nar .boolean x)).1 k i)) : va_E) = _
      have ef : (mi_wI mem k i t (vp_nar .boolean x)).1 k i = upd (mem.1 k i) t (vp_nar .boolean x) := by
        funext c2
        simp [mi_wI, upd]
      rw [ef]
    rw [← e2]
    exact mi_ws_set2 hq (fun q2 _ h2 => mi_wI_o h2)
  rw [ee] at hP1 hD1
  exact kk p l e R s m args below meth c H1 locs1 cells slots Z A G lsm C Rt hP1 hD1 hS1 hl
theorem x_last {k i n t : Nat} {j : Int32} {x : Int64} (hd : decode y.2.1 pc = .ok (.lastore, 1)) (hA : mi_A k = (1, n, 0, 0, 0)) (hk : Nat.ble 13 k = true) (hi : i < mi_n k) (ht : t < n) (hn : Nat.ble n 2147483647 = true) (hj : j = nI t) (kk : mi_X y d (pc + 1) ls st (mi_wL mem k i t x) Q) : mi_X y d pc ls (vl x :: vi j :: vr k i :: st) mem Q := by
  intro p l e R s m args below meth c H locs cells slots Z A G lsm C Rt hP hD hS hl
  obtain ⟨q, hq⟩ := mi_at hi
  have he := mi_ws_at (G := G) (m := mem) hq
  rw [mi_c_a hk] at he
  unfold mi_ac at he
  rw [hA] at he
  have hn2 : n < 2 ^ 31 := by have := Nat.le_of_ble_eq_true hn; omega
  subst hj
  refine va_last C.1 C.2.1 C.2.2.2.2.2.2.2.1 hP hD hS q 1 he rfl (vp_in_nI ht hn2) hd (fun H1 locs1 hP1 hD1 hS1 => ?_)
  rw [nI_clamp (by omega)] at hP1 hD1
  have ee : (mi_ws G mem).set q (G.2.1 k i, .inl (G.2.2 1, n, .inr (.inl (vp_updL (mem.2.1 k i) t x)))) = mi_ws G (mi_wL mem k i t x) := by
    have e2 : mi_c G (mi_wL mem k i t x) (k, i) = .inl (G.2.2 1, n, .inr (.inl (vp_updL (mem.2.1 k i) t x))) := by
      rw [mi_c_a hk]
      unfold mi_ac
      rw [hA]
      show (Sum.inl (G.2.2 1, n, .inr (.inl ((mi_wL mem k i t x).2.1 k i))) : va_E) = _
      have ef : (mi_wL mem k i t x).2.1 k i = vp_updL (mem.2.1 k i) t x := by
        funext c2
        simp [mi_wL, vp_updL]
      rw [ef]
    rw [← e2]
    exact mi_ws_set2 hq (fun q2 _ h2 => mi_wL_o h2)
  rw [ee] at hP1 hD1
  exact kk p l e R s m args below meth c H1 locs1 cells slots Z A G lsm C Rt hP1 hD1 hS1 hl
theorem x_aaldSt {k i n t k2 mul off i2 : Nat} {j : Int32} (hd : decode y.2.1 pc = .ok (.aaload, 1)) (hA : mi_A k = (4, n, k2, mul, off)) (hk : Nat.ble 13 k = true) (hi : i < mi_n k) (ht : t < n) (hn : Nat.ble n 2147483647 = true) (hj : j = nI t) (hi2 : mul * i + off + t = i2) (kk : mi_X y d (pc + 1) ls (vr k2 i2 :: st) mem Q) : mi_X y d pc ls (vi j :: vr k i :: st) mem Q := by
  intro p l e R s m args below meth c H locs cells slots Z A G lsm C Rt hP hD hS hl
  obtain ⟨q, hq⟩ := mi_at hi
  have he := mi_ws_at (G := G) (m := mem) hq
  rw [mi_c_a hk] at he
  unfold mi_ac at he
  rw [hA] at he
  have hn2 : n < 2 ^ 31 := by have := Nat.le_of_ble_eq_true hn; omega
  subst hj
  subst hi2
  refine va_aldq C.1 C.2.1 C.2.2.2.2.2.2.2.1 hP q 4 he rfl (vp_in_nI ht hn2) hd ?_
  rw [nI_clamp (by omega)]
  exact kk p l e R s m args below meth c H locs cells slots Z A G lsm C Rt hP hD hS hl
theorem x_aaldSi {k i n t k2 mul off i2 : Nat} {j : Int32} (hd : decode y.2.1 pc = .ok (.aaload, 1)) (hA : mi_A k = (5, n, k2, mul, off)) (hk : Nat.ble 13 k = true) (hi : i < mi_n k) (ht : t < n) (hn : Nat.ble n 2147483647 = true) (hj : j = nI t) (hi2 : mul * i + off + t = i2) (kk : mi_X y d (pc + 1) ls (vr k2 i2 :: st) mem Q) : mi_X y d pc ls (vi j :: vr k i :: st) mem Q := by
  intro p l e R s m args below meth c H locs cells slots Z A G lsm C Rt hP hD hS hl
  obtain ⟨q, hq⟩ := mi_at hi
  have he := mi_ws_at (G := G) (m := mem) hq
  rw [mi_c_a hk] at he
  unfold mi_ac at he
  rw [hA] at he
  have hn2 : n < 2 ^ 31 := by have := Nat.le_of_ble_eq_true hn; omega
  subst hj
  subst hi2
  refine va_aldq C.1 C.2.1 C.2.2.2.2.2.2.2.1 hP q 5 he rfl (vp_in_nI ht hn2) hd ?_
  rw [nI_clamp (by omega)]
  exact kk p l e R s m args below meth c H locs cells slots Z A G lsm C Rt hP hD hS hl
theorem x_aaldRow {k i n t k2 mul off i2 : Nat} {j : Int32} (hd : decode y.2.1 pc = .ok (.aaload, 1)) (hA : mi_A k = (6, n, k2, mul, off)) (hk : Nat.ble 13 k = true) (hi : i < mi_n k) (ht : t < n) (hn : Nat.ble n 2147483647 = true) (hj : j = nI t) (hi2 : mul * i + off + t = i2) (kk : mi_X y d (pc + 1) ls (vr k2 i2 :: st) mem Q) : mi_X y d pc ls (vi j :: vr k i :: st) mem Q := by
  intro p l e R s m args below meth c H locs cells slots Z A G lsm C Rt hP hD hS hl
  obtain ⟨q, hq⟩ := mi_at hi
  have he := mi_ws_at (G := G) (m := mem) hq
  rw [mi_c_a hk] at he
  unfold mi_ac at he
  rw [hA] at he
  have hn2 : n < 2 ^ 31 := by have := Nat.le_of_ble_eq_true hn; omega
  subst hj
  subst hi2
  have hin : vp_in (nI t) n := vp_in_nI ht hn2
  have he : (mi_ws G mem)[q]? = some (G.2.1 k i, .inl (G.2.2 6, n, .inr (.inr (.inr (.inr (fun j => some (G.2.1 k2 (mul * i + off + j)))))))) := he
  refine W.aald (v := .ref (G.2.1 k2 (mul * i + off + t))) (ty := .array .int) C.1 C.2.1 (hP q _ he) ((C.2.2.2.2.2.2.2.1.2 6 _ rfl).1 n (fun j => va_rf (some (G.2.1 k2 (mul * i + off + j))))) rfl (fun q => by cases q) (by show ¬ (nI t < 0 ∨ (arrV _ _ _).slots.size ≤ _); rw [arrV_size]; exact hin) (by rw [nI_clamp (by omega)]; show (arrV _ _ _).slots[_]? = _; rw [arrV_read _ _ ht]; rfl) rfl rfl hd ?_
  exact kk p l e R s m args below meth c H locs cells slots Z A G lsm C Rt hP hD hS hl
theorem x_alen {k i tag n k2 mul off : Nat} {v : Int32} (hd : decode y.2.1 pc = .ok (.arraylength, 1)) (hA : mi_A k = (tag, n, k2, mul, off)) (htag : tag < 7) (hk : Nat.ble 13 k = true) (hi : i < mi_n k) (hv : Int32.ofNat n = v) (kk : mi_X y d (pc + 1) ls (vi v :: st) mem Q) : mi_X y d pc ls (vr k i :: st) mem Q := by
  intro p l e R s m args below meth c H locs cells slots Z A G lsm C Rt hP hD hS hl
  obtain ⟨q, hq⟩ := mi_at hi
  have he := mi_ws_at (G := G) (m := mem) hq
  rw [mi_c_a hk] at he
  have hx : (mi_ac G.2.1 mem k i).1 = n := by
    unfold mi_ac
    rw [hA]
    rcases tag with _ | _ | _ | _ | tag <;> rfl
  have ht : ∃ ty, (mi_tys G)[tag]? = some (G.2.2 (mi_A k).1, ty) := by
    rw [hA]
    unfold mi_tys
    rcases tag with _ | _ | _ | _ | _ | _ | _ | tag
    · exact ⟨_, rfl⟩
    · exact ⟨_, rfl⟩
    · exact ⟨_, rfl⟩
    · exact ⟨_, rfl⟩
    · exact ⟨_, rfl⟩
    · exact ⟨_, rfl⟩
    · exact ⟨_, rfl⟩
    · omega
  obtain ⟨ty, ht⟩ := ht
  exact va_alen C.1 C.2.1 C.2.2.2.2.2.2.2.1 hP q tag he ht (by rw [hx]; exact hv) hd (kk p l e R s m args below meth c H locs cells slots Z A G lsm C Rt hP hD hS hl)
theorem mi_szcat (ad : Nat → Nat → Nat) : ∀ st : List mi_V, ((st.map (mi_tv ad)).map fun v => v.category).sum = mi_sz st
  | [] => rfl
  | v :: r => by
    show (mi_tv ad v).category + ((r.map (mi_tv ad)).map fun v => v.category).sum = cond (mi_2 v) 2 1 + mi_sz r
    rw [mi_cat, mi_szcat ad r]
theorem mi_AA {G : mi_G} {H0 H : Heap} {locs : List Loc} {A : Nat → Prop} (hA : ∀ q, H0.size ≤ q → A q) (hD : va_D A (mi_ws G mem)) (hS : va_S A H0 H locs) : ∀ q, va_A (mi_ws G mem) H.size q → A q := by
  intro q h
  rcases h with ⟨k, e, h⟩ | h
  · exact hD.2 k (q, e) h
  · exact hA q (Nat.le_trans hS.1 h)
theorem mi_blind {G : mi_G} {sz : Nat} {av : List Value} : FrameBlind (va_Pc av (mi_Wd G mem sz)) := fun a U g mk q => by
  obtain ⟨q0, q1, q2, q3, q4, q5⟩ := q
  exact ⟨q0, q1, q2, va_K.moved (u := U) (U := U.calling g mk a) (Vm.Alike.refl U.vm) q3, q4, q5.calling⟩
/-- what a call gives back, at the caller -/
theorem mi_back {G : mi_G} {p : Program} {l : Launch} {e : Env} {R : Room} {s : State} {m : MethodId} {args : Array Value} {below : List Frame} {meth : Method} {c : Code} {H : Heap} {locs : List Loc} {cells slots : Nat} {Z : State → Prop} {A : Nat → Prop} {lsm : Array Slot} {Q1 : Option mi_V → mi_M → Prop} {a : Array Value} {stk : List Value}
    (C : mi_Cx y d p R s m args meth c A G cells slots) (Rt : mi_Rt y p l e R s m args below meth c cells slots Z A G Q) (hD : va_D A (mi_ws G mem)) (hS : va_S A s.heap H locs) (hl : lv_has lsm y.2.2.1 (mi_lm G ls))
    (run : va_Run p l e R s m args below meth c H locs cells slots 0 0 (F0 m pc lsm stk) (st.map (mi_tv G.2.1)) (mi_Qc G mem H.size Q1 a) (va_A (mi_ws G mem) H.size))
    (kk : ∀ r m', Q1 r m' → mi_X y d (pc + 3) ls (r.toList ++ st) m' Q) : W p l e R s m args below meth c H locs cells slots Z (F0 m pc lsm stk) := by
  have hAA := mi_AA (mem := mem) (G := G) C.2.2.2.2.2.2.2.2.1 hD hS
  intro T hT X
  obtain ⟨v, st₀, t, T', L, h0, X', hL, e1, e2, ⟨⟨r, m', hv, hQ, hP'⟩, hz, hkeep⟩, go⟩ := run T hT X
  rw [h0] at hz hkeep
  have hS' : va_S A s.heap T'.heap (locs ++ L) := by
    refine ⟨Nat.le_trans hS.1 (by rw [e1]; exact hz), fun q h1 h2 => ?_, fun q hq => ?_⟩
    · rw [e1, hkeep q (Nat.lt_of_lt_of_le h1 hS.1) (fun z => h2 (hAA q z))]
      exact hS.2.1 q h1 h2
    · rcases List.mem_append.mp hq with h | h
      · exact hS.2.2 q h
      · exact hAA _ (hL q h)
  obtain ⟨t2, a1, b1⟩ := kk r m' hQ p l e R s m args below meth c T'.heap (locs ++ L) cells slots Z A G lsm C Rt (by rw [e1]; exact hP') (mi_D hD) hS' hl T' rfl X'
  refine ⟨t2, go t2 ?_, b1⟩
  have hv2 : v = r.map (mi_tv G.2.1) := by
    injection hv
  have es : (r.toList ++ st).map (mi_tv G.2.1) = v.toList ++ st.map (mi_tv G.2.1) := by
    rw [hv2, List.map_append]
    cases r <;> rfl
  rw [es] at a1
  exact a1
theorem mi_goodY {y' : mi_MD} (h : Cond.code y'.1 y'.2.1 y'.2.2.1 y'.2.2.2 ∈ mi_T) : GoodIn mi_T (mi_yw y') := fun w hw => (List.mem_cons.mp hw).elim (fun e => by rw [e]; exact mi_goodT _ h) (fun h => mi_goodT w h)
theorem x_callV {index n k i d' : Nat} {y' : mi_MD} {av : List mi_V} {Q1 : Option mi_V → mi_M → Prop} (hd : decode y.2.1 pc = .ok (.invokevirtual index, 3)) (hm : mi_lv y.1.cls index y' n k) (hn : av.length = n) (hi : i < mi_n k) (hdd : d' < d) (hst : Nat.ble (mi_sz st) 8 = true) (hc : mi_C d' y' (vr k i :: av) mem Q1) (kk : ∀ r m', Q1 r m' → mi_X y d (pc + 3) ls (r.toList ++ st) m' Q) : mi_X y d pc ls (av.reverse ++ vr k i :: st) mem Q := by
  intro p l e R s m args below meth c H locs cells slots Z A G lsm C Rt hP hD hS hl
  obtain ⟨⟨hk13, hcls⟩, ⟨w1, w2, w3, w4, w5⟩, hnm, hmax⟩ := hm
  have hts := C.2.2.2.2.2.2.1
  have hAA := mi_AA (mem := mem) (G := G) C.2.2.2.2.2.2.2.2.1 hD hS
  obtain ⟨r1, r2, r3, r4⟩ := C.2.2.2.2.2.2.2.2.2.1
  obtain ⟨q, hq⟩ := mi_at hi
  have he := mi_ws_at (G := G) (m := mem) hq
  rw [mi_c_o hk13] at he
  have hM := hc l G H.size
  have cw : CallW R s args y.1.cls y'.1.cls index y'.1 y'.2.1 y'.2.2.1 y'.2.2.2 (mi_yw y') (mi_rm d') 0 0 n := ⟨callB_of n hts (mi_goodY w5) rfl rfl rfl (hts _ w4) (hts _ w1) hnm ⟨by show d' + 1 ≤ _; omega, by show 8 + (y'.2.2.1 + 11) + 64 * d' ≤ _; omega⟩, hts _ w2, hts _ w3⟩
  have hp : PreV s H y'.1.cls (G.2.1 k i) (va_Pc ((vr k i :: av).map (mi_tv G.2.1)) (mi_Wd G mem H.size)) (av.map (mi_tv G.2.1)) := by
    refine ⟨mi_blind, ?_, fun U hU hW => ⟨rfl, by rw [hU], by rw [hU]; exact hP, va_K.moved hW.alike C.2.2.2.2.2.2.2.1, ⟨hD.1, fun _ _ _ => trivial⟩, (C.2.2.2.2.2.2.2.2.2.2).at hS hU hW hAA⟩⟩
    rw [hcls]
    exact va_recv C.2.2.2.2.2.2.2.1 hP (mi_cl k hk13) he
  have es : (av.reverse ++ vr k i :: st).map (mi_tv G.2.1) = (av.map (mi_tv G.2.1)).reverse ++ .ref (G.2.1 k i) :: st.map (mi_tv G.2.1) := by
    rw [List.map_append, List.map_reverse]
    rfl
  rw [es]
  exact mi_back C Rt hD hS hl (va_runV (S := ⟨C.1, C.2.1, C.2.2.1, C.2.2.2.2.2.1, hts⟩) hM cw hp rfl (by rw [List.length_map]; exact hn) hl.1 rfl (lv_room (by rw [mi_szcat]; exact Nat.le_of_ble_eq_true hst)) hd ⟨r3, r4⟩) kk
theorem x_callS {index n d' : Nat} {y' : mi_MD} {av : List mi_V} {Q1 : Option mi_V → mi_M → Prop} (hd : decode y.2.1 pc = .ok (.invokestatic index, 3)) (hm : mi_ls y.1.cls index y' n) (hn : av.length = n) (hdd : d' < d) (hst : Nat.ble (mi_sz st) 8 = true) (hc : mi_C d' y' av mem Q1) (kk : ∀ r m', Q1 r m' → mi_X y d (pc + 3) ls (r.toList ++ st) m' Q) : mi_X y d pc ls (av.reverse ++ st) mem Q := by
  intro p l e R s m args below meth c H locs cells slots Z A G lsm C Rt hP hD hS hl
  obtain ⟨⟨w1, w2, w4, w5⟩, hnm, hmax⟩ := hm
  have hts := C.2.2.2.2.2.2.1
  have hAA := mi_AA (mem := mem) (G := G) C.2.2.2.2.2.2.2.2.1 hD hS
  obtain ⟨r1, r2, r3, r4⟩ := C.2.2.2.2.2.2.2.2.2.1
  have hM := hc l G H.size
  have cw : CallB R s args y.1.cls index y'.1 y'.2.1 y'.2.2.1 y'.2.2.2 (mi_yw y') (mi_rm d') 0 0 n := callB_of n hts (mi_goodY w5) rfl rfl rfl (hts _ w4) (hts _ w1) hnm ⟨by show d' + 1 ≤ _; omega, by show 8 + (y'.2.2.1 + 11) + 64 * d' ≤ _; omega⟩
  have hp : PreS s H (va_Pc (av.map (mi_tv G.2.1)) (mi_Wd G mem H.size)) (av.map (mi_tv G.2.1)) :=
    ⟨mi_blind, fun U hU hW => ⟨rfl, by rw [hU], by rw [hU]; exact hP, va_K.moved hW.alike C.2.2.2.2.2.2.2.1, ⟨hD.1, fun _ _ _ => trivial⟩, (C.2.2.2.2.2.2.2.2.2.2).at hS hU hW hAA⟩⟩
  have es : (av.reverse ++ st).map (mi_tv G.2.1) = (av.map (mi_tv G.2.1)).reverse ++ st.map (mi_tv G.2.1) := by
    rw [List.map_append, List.map_reverse]
  rw [es]
  exact mi_back C Rt hD hS hl (va_runS (S := ⟨C.1, C.2.1, C.2.2.1, C.2.2.2.2.2.1, hts⟩) hM ⟨cw, hts _ w2⟩ hp rfl (by rw [List.length_map]; exact hn) hl.1 rfl (lv_room (by rw [mi_szcat]; exact Nat.le_of_ble_eq_true hst)) hd ⟨r3, r4⟩) kk
theorem x_callSN {index n d' : Nat} {host : String} {y' : mi_MD} {av : List mi_V} {Q1 : Option mi_V → mi_M → Prop} (hd : decode y.2.1 pc = .ok (.invokestatic index, 3)) (hm : mi_lsn y.1.cls index host y' n) (hn : av.length = n) (hdd : d' < d) (hst : Nat.ble (mi_sz st) 8 = true) (hc : mi_C d' y' av mem Q1) (kk : ∀ r m', Q1 r m' → mi_X y d (pc + 3) ls (r.toList ++ st) m' Q) : mi_X y d pc ls (av.reverse ++ st) mem Q := by
  intro p l e R s m args below meth c H locs cells slots Z A G lsm C Rt hP hD hS hl
  obtain ⟨⟨w1, w2, w4, w5⟩, hnm, hmax⟩ := hm
  have hts := C.2.2.2.2.2.2.1
  have hAA := mi_AA (mem := mem) (G := G) C.2.2.2.2.2.2.2.2.1 hD hS
  obtain ⟨r1, r2, r3, r4⟩ := C.2.2.2.2.2.2.2.2.2.1
  have hM := hc l G H.size
  have cw : va_CN R s args y.1.cls index y'.1 host y'.2.1 y'.2.2.1 y'.2.2.2 (mi_yw y') (mi_rm d') 0 0 n := va_cnB n hts (mi_goodY w5) rfl rfl rfl ((C.2.2.2.2.2.2.2.2.2.2).2.2.2.1 _ w1) (hts _ w4) hnm ⟨by show d' + 1 ≤ _; omega, by show 8 + (y'.2.2.1 + 11) + 64 * d' ≤ _; omega⟩
  have hp : PreS s H (va_Pc (av.map (mi_tv G.2.1)) (mi_Wd G mem H.size)) (av.map (mi_tv G.2.1)) :=
    ⟨mi_blind, fun U hU hW => ⟨rfl, by rw [hU], by rw [hU]; exact hP, va_K.moved hW.alike C.2.2.2.2.2.2.2.1, ⟨hD.1, fun _ _ _ => trivial⟩, (C.2.2.2.2.2.2.2.2.2.2).at hS hU hW hAA⟩⟩
  have es : (av.reverse ++ st).map (mi_tv G.2.1) = (av.map (mi_tv G.2.1)).reverse ++ st.map (mi_tv G.2.1) := by
    rw [List.map_append, List.map_reverse]
  rw [es]
  exact mi_back C Rt hD hS hl (va_runSN (S := ⟨C.1, C.2.1, C.2.2.1, C.2.2.2.2.2.1, hts⟩) hM ⟨cw, hts _ w2, trivial⟩ hp rfl (by rw [List.length_map]; exact hn) hl.1 rfl (lv_room (by rw [mi_szcat]; exact Nat.le_of_ble_eq_true hst)) hd ⟨r3, r4⟩) kk
/-- contracts by what is answered -/
def mi_Ci (d : Nat) (y : mi_MD) (av : List mi_V) (mem : mi_M) (Q : Int32 → mi_M → Prop) : Prop := mi_C d y av mem (fun r m' => ∃ x, r = some (vi x) ∧ Q x m')
def mi_Cl (d : Nat) (y : mi_MD) (av : List mi_V) (mem : mi_M) (Q : Int64 → mi_M → Prop) : Prop := mi_C d y av mem (fun r m' => ∃ x, r = some (vl x) ∧ Q x m')
def mi_Cv (d : Nat) (y : mi_MD) (av : List mi_V) (mem : mi_M) (Q : mi_M → Prop) : Prop := mi_C d y av mem (fun r m' => r = none ∧ Q m')
theorem x_Vi0 {index k i d' : Nat} {y' : mi_MD} {Q1 : Int32 → mi_M → Prop} (hd : decode y.2.1 pc = .ok (.invokevirtual index, 3)) (hm : mi_lv y.1.cls index y' 0 k) (hi : i < mi_n k) (hdd : d' < d) (hst : Nat.ble (mi_sz st) 8 = true) (hc : mi_Ci d' y' (vr k i :: []) mem Q1) (kk : ∀ x m', Q1 x m' → mi_X y d (pc + 3) ls (vi x :: st) m' Q) : mi_X y d pc ls (vr k i :: st) mem Q := x_callV (av := []) hd hm rfl hi hdd hst hc (fun r m' h => match r, h with | _, ⟨x, rfl, h⟩ => kk x m' h)
theorem x_Si0 {index d' : Nat} {y' : mi_MD} {Q1 : Int32 → mi_M → Prop} (hd : decode y.2.1 pc = .ok (.invokestatic index, 3)) (hm : mi_ls y.1.cls index y' 0) (hdd : d' < d) (hst : Nat.ble (mi_sz st) 8 = true) (hc : mi_Ci d' y' [] mem Q1) (kk : ∀ x m', Q1 x m' → mi_X y d (pc + 3) ls (vi x :: st) m' Q) : mi_X y d pc ls (st) mem Q := x_callS (av := []) hd hm rfl hdd hst hc (fun r m' h => match r, h with | _, ⟨x, rfl, h⟩ => kk x m' h)
theorem x_Ni0 {index d' : Nat} {host : String} {y' : mi_MD} {Q1 : Int32 → mi_M → Prop} (hd : decode y.2.1 pc = .ok (.invokestatic index, 3)) (hm : mi_lsn y.1.cls index host y' 0) (hdd : d' < d) (hst : Nat.ble (mi_sz st) 8 = true) (hc : mi_Ci d' y' [] mem Q1) (kk : ∀ x m', Q1 x m' → mi_X y d (pc + 3) ls (vi x :: st) m' Q) : mi_X y d pc ls (st) mem Q := x_callSN (av := []) hd hm rfl hdd hst hc (fun r m' h => match r, h with | _, ⟨x, rfl, h⟩ => kk x m' h)
theorem x_Vl0 {index k i d' : Nat} {y' : mi_MD} {Q1 : Int64 → mi_M → Prop} (hd : decode y.2.1 pc = .ok (.invokevirtual index, 3)) (hm : mi_lv y.1.cls index y' 0 k) (hi : i < mi_n k) (hdd : d' < d) (hst : Nat.ble (mi_sz st) 8 = true) (hc : mi_Cl d' y' (vr k i :: []) mem Q1) (kk : ∀ x m', Q1 x m' → mi_X y d (pc + 3) ls (vl x :: st) m' Q) : mi_X y d pc ls (vr k i :: st) mem Q := x_callV (av := []) hd hm rfl hi hdd hst hc (fun r m' h => match r, h with | _, ⟨x, rfl, h⟩ => kk x m' h)
theorem x_Sl0 {index d' : Nat} {y' : mi_MD} {Q1 : Int64 → mi_M → Prop} (hd : decode y.2.1 pc = .ok (.invokestatic index, 3)) (hm : mi_ls y.1.cls index y' 0) (hdd : d' < d) (hst : Nat.ble (mi_sz st) 8 = true) (hc : mi_Cl d' y' [] mem Q1) (kk : ∀ x m', Q1 x m' → mi_X y d (pc + 3) ls (vl x :: st) m' Q) : mi_X y d pc ls (st) mem Q := x_callS (av := []) hd hm rfl hdd hst hc (fun r m' h => match r, h with | _, ⟨x, rfl, h⟩ => kk x m' h)
theorem x_Nl0 {index d' : Nat} {host : String} {y' : mi_MD} {Q1 : Int64 → mi_M → Prop} (hd : decode y.2.1 pc = .ok (.invokestatic index, 3)) (hm : mi_lsn y.1.cls index host y' 0) (hdd : d' < d) (hst : Nat.ble (mi_sz st) 8 = true) (hc : mi_Cl d' y' [] mem Q1) (kk : ∀ x m', Q1 x m' → mi_X y d (pc + 3) ls (vl x :: st) m' Q) : mi_X y d pc ls (st) mem Q := x_callSN (av := []) hd hm rfl hdd hst hc (fun r m' h => match r, h with | _, ⟨x, rfl, h⟩ => kk x m' h)
theorem x_Vv0 {index k i d' : Nat} {y' : mi_MD} {Q1 : mi_M → Prop} (hd : decode y.2.1 pc = .ok (.invokevirtual index, 3)) (hm : mi_lv y.1.cls index y' 0 k) (hi : i < mi_n k) (hdd : d' < d) (hst : Nat.ble (mi_sz st) 8 = true) (hc : mi_Cv d' y' (vr k i :: []) mem Q1) (kk : ∀ m', Q1 m' → mi_X y d (pc + 3) ls st m' Q) : mi_X y d pc ls (vr k i :: st) mem Q := x_callV (av := []) hd hm rfl hi hdd hst hc (fun r m' h => match r, h with | _, ⟨rfl, h⟩ => kk m' h)
theorem x_Sv0 {index d' : Nat} {y' : mi_MD} {Q1 : mi_M → Prop} (hd : decode y.2.1 pc = .ok (.invokestatic index, 3)) (hm : mi_ls y.1.cls index y' 0) (hdd : d' < d) (hst : Nat.ble (mi_sz st) 8 = true) (hc : mi_Cv d' y' [] mem Q1) (kk : ∀ m', Q1 m' → mi_X y d (pc + 3) ls st m' Q) : mi_X y d pc ls (st) mem Q := x_callS (av := []) hd hm rfl hdd hst hc (fun r m' h => match r, h with | _, ⟨rfl, h⟩ => kk m' h)
theorem x_Nv0 {index d' : Nat} {host : String} {y' : mi_MD} {Q1 : mi_M → Prop} (hd : decode y.2.1 pc = .ok (.invokestatic index, 3)) (hm : mi_lsn y.1.cls index host y' 0) (hdd : d' < d) (hst : Nat.ble (mi_sz st) 8 = true) (hc : mi_Cv d' y' [] mem Q1) (kk : ∀ m', Q1 m' → mi_X y d (pc + 3) ls st m' Q) : mi_X y d pc ls (st) mem Q := x_callSN (av := []) hd hm rfl hdd hst hc (fun r m' h => match r, h with | _, ⟨rfl, h⟩ => kk m' h)
theorem x_Vi1 {index k i d' : Nat} {y' : mi_MD} {a0 : mi_V} {Q1 : Int32 → mi_M → Prop} (hd : decode y.2.1 pc = .ok (.invokevirtual index, 3)) (hm : mi_lv y.1.cls index y' 1 k) (hi : i < mi_n k) (hdd : d' < d) (hst : Nat.ble (mi_sz st) 8 = true) (hc : mi_Ci d' y' (vr k i :: [a0]) mem Q1) (kk : ∀ x m', Q1 x m' → mi_X y d (pc + 3) ls (vi x :: st) m' Q) : mi_X y d pc ls (a0 :: vr k i :: st) mem Q := x_callV (av := [a0]) hd hm rfl hi hdd hst hc (fun r m' h => match r, h with | _, ⟨x, rfl, h⟩ => kk x m' h)
theorem x_Si1 {index d' : Nat} {y' : mi_MD} {a0 : mi_V} {Q1 : Int32 → mi_M → Prop} (hd : decode y.2.1 pc = .ok (.invokestatic index, 3)) (hm : mi_ls y.1.cls index y' 1) (hdd : d' < d) (hst : Nat.ble (mi_sz st) 8 = true) (hc : mi_Ci d' y' [a0] mem Q1) (kk : ∀ x m', Q1 x m' → mi_X y d (pc + 3) ls (vi x :: st) m' Q) : mi_X y d pc ls (a0 :: st) mem Q := x_callS (av := [a0]) hd hm rfl hdd hst hc (fun r m' h => match r, h with | _, ⟨x, rfl, h⟩ => kk x m' h)
theorem x_Ni1 {index d' : Nat} {host : String} {y' : mi_MD} {a0 : mi_V} {Q1 : Int32 → mi_M → Prop} (hd : decode y.2.1 pc = .ok (.invokestatic index, 3)) (hm : mi_lsn y.1.cls index host y' 1) (hdd : d' < d) (hst : Nat.ble (mi_sz st) 8 = true) (hc : mi_Ci d' y' [a0] mem Q1) (kk : ∀ x m', Q1 x m' → mi_X y d (pc + 3) ls (vi x :: st) m' Q) : mi_X y d pc ls (a0 :: st) mem Q := x_callSN (av := [a0]) hd hm rfl hdd hst hc (fun r m' h => match r, h with | _, ⟨x, rfl, h⟩ => kk x m' h)
theorem x_Vl1 {index k i d' : Nat} {y' : mi_MD} {a0 : mi_V} {Q1 : Int64 → mi_M → Prop} (hd : decode y.2.1 pc = .ok (.invokevirtual index, 3)) (hm : mi_lv y.1.cls index y' 1 k) (hi : i < mi_n k) (hdd : d' < d) (hst : Nat.ble (mi_sz st) 8 = true) (hc : mi_Cl d' y' (vr k i :: [a0]) mem Q1) (kk : ∀ x m', Q1 x m' → mi_X y d (pc + 3) ls (vl x :: st) m' Q) : mi_X y d pc ls (a0 :: vr k i :: st) mem Q := x_callV (av := [a0]) hd hm rfl hi hdd hst hc (fun r m' h => match r, h with | _, ⟨x, rfl, h⟩ => kk x m' h)
theorem x_Sl1 {index d' : Nat} {y' : mi_MD} {a0 : mi_V} {Q1 : Int64 → mi_M → Prop} (hd : decode y.2.1 pc = .ok (.invokestatic index, 3)) (hm : mi_ls y.1.cls index y' 1) (hdd : d' < d) (hst : Nat.ble (mi_sz st) 8 = true) (hc : mi_Cl d' y' [a0] mem Q1) (kk : ∀ x m', Q1 x m' → mi_X y d (pc + 3) ls (vl x :: st) m' Q) : mi_X y d pc ls (a0 :: st) mem Q := x_callS (av := [a0]) hd hm rfl hdd hst hc (fun r m' h => match r, h with | _, ⟨x, rfl, h⟩ => kk x m' h)
theorem x_Nl1 {index d' : Nat} {host : String} {y' : mi_MD} {a0 : mi_V} {Q1 : Int64 → mi_M → Prop} (hd : decode y.2.1 pc = .ok (.invokestatic index, 3)) (hm : mi_lsn y.1.cls index host y' 1) (hdd : d' < d) (hst : Nat.ble (mi_sz st) 8 = true) (hc : mi_Cl d' y' [a0] mem Q1) (kk : ∀ x m', Q1 x m' → mi_X y d (pc + 3) ls (vl x :: st) m' Q) : mi_X y d pc ls (a0 :: st) mem Q := x_callSN (av := [a0]) hd hm rfl hdd hst hc (fun r m' h => match r, h with | _, ⟨x, rfl, h⟩ => kk x m' h)
theorem x_Vv1 {index k i d' : Nat} {y' : mi_MD} {a0 : mi_V} {Q1 : mi_M → Prop} (hd : decode y.2.1 pc = .ok (.invokevirtual index, 3)) (hm : mi_lv y.1.cls index y' 1 k) (hi : i < mi_n k) (hdd : d' < d) (hst : Nat.ble (mi_sz st) 8 = true) (hc : mi_Cv d' y' (vr k i :: [a0]) mem Q1) (kk : ∀ m', Q1 m' → mi_X y d (pc + 3) ls st m' Q) : mi_X y d pc ls (a0 :: vr k i :: st) mem Q := x_callV (av := [a0]) hd hm rfl hi hdd hst hc (fun r m' h => match r, h with | _, ⟨rfl, h⟩ => kk m' h)
theorem x_Sv1 {index d' : Nat} {y' : mi_MD} {a0 : mi_V} {Q1 : mi_M → Prop} (hd : decode y.2.1 pc = .ok (.invokestatic index, 3)) (hm : mi_ls y.1.cls index y' 1) (hdd : d' < d) (hst : Nat.ble (mi_sz st) 8 = true) (hc : mi_Cv d' y' [a0] mem Q1) (kk : ∀ m', Q1 m' → mi_X y d (pc + 3) ls st m' Q) : mi_X y d pc ls (a0 :: st) mem Q := x_callS (av := [a0]) hd hm rfl hdd hst hc (fun r m' h => match r, h with | _, ⟨rfl, h⟩ => kk m' h)
theorem x_Nv1 {index d' : Nat} {host : String} {y' : mi_MD} {a0 : mi_V} {Q1 : mi_M → Prop} (hd : decode y.2.1 pc = .ok (.invokestatic index, 3)) (hm : mi_lsn y.1.cls index host y' 1) (hdd : d' < d) (hst : Nat.ble (mi_sz st) 8 = true) (hc : mi_Cv d' y' [a0] mem Q1) (kk : ∀ m', Q1 m' → mi_X y d (pc + 3) ls st m' Q) : mi_X y d pc ls (a0 :: st) mem Q := x_callSN (av := [a0]) hd hm rfl hdd hst hc (fun r m' h => match r, h with | _, ⟨rfl, h⟩ => kk m' h)
theorem x_Vi2 {index k i d' : Nat} {y' : mi_MD} {a0 a1 : mi_V} {Q1 : Int32 → mi_M → Prop} (hd : decode y.2.1 pc = .ok (.invokevirtual index, 3)) (hm : mi_lv y.1.cls index y' 2 k) (hi : i < mi_n k) (hdd : d' < d) (hst : Nat.ble (mi_sz st) 8 = true) (hc : mi_Ci d' y' (vr k i :: [a0, a1]) mem Q1) (kk : ∀ x m', Q1 x m' → mi_X y d (pc + 3) ls (vi x :: st) m' Q) : mi_X y d pc ls (a1 :: a0 :: vr k i :: st) mem Q := x_callV (av := [a0, a1]) hd hm rfl hi hdd hst hc (fun r m' h => match r, h with | _, ⟨x, rfl, h⟩ => kk x m' h)
theorem x_Si2 {index d' : Nat} {y' : mi_MD} {a0 a1 : mi_V} {Q1 : Int32 → mi_M → Prop} (hd : decode y.2.1 pc = .ok (.invokestatic index, 3)) (hm : mi_ls y.1.cls index y' 2) (hdd : d' < d) (hst : Nat.ble (mi_sz st) 8 = true) (hc : mi_Ci d' y' [a0, a1] mem Q1) (kk : ∀ x m', Q1 x m' → mi_X y d (pc + 3) ls (vi x :: st) m' Q) : mi_X y d pc ls (a1 :: a0 :: st) mem Q := x_callS (av := [a0, a1]) hd hm rfl hdd hst hc (fun r m' h => match r, h with | _, ⟨x, rfl, h⟩ => kk x m' h)
theorem x_Ni2 {index d' : Nat} {host : String} {y' : mi_MD} {a0 a1 : mi_V} {Q1 : Int32 → mi_M → Prop} (hd : decode y.2.1 pc = .ok (.invokestatic index, 3)) (hm : mi_lsn y.1.cls index host y' 2) (hdd : d' < d) (hst : Nat.ble (mi_sz st) 8 = true) (hc : mi_Ci d' y' [a0, a1] mem Q1) (kk : ∀ x m', Q1 x m' → mi_X y d (pc + 3) ls (vi x :: st) m' Q) : mi_X y d pc ls (a1 :: a0 :: st) mem Q := x_callSN (av := [a0, a1]) hd hm rfl hdd hst hc (fun r m' h => match r, h with | _, ⟨x, rfl, h⟩ => kk x m' h)
theorem x_Vl2 {index k i d' : Nat} {y' : mi_MD} {a0 a1 : mi_V} {Q1 : Int64 → mi_M → Prop} (hd : decode y.2.1 pc = .ok (.invokevirtual index, 3)) (hm : mi_lv y.1.cls index y' 2 k) (hi : i < mi_n k) (hdd : d' < d) (hst : Nat.ble (mi_sz st) 8 = true) (hc : mi_Cl d' y' (vr k i :: [a0, a1]) mem Q1) (kk : ∀ x m', Q1 x m' → mi_X y d (pc + 3) ls (vl x :: st) m' Q) : mi_X y d pc ls (a1 :: a0 :: vr k i :: st) mem Q := x_callV (av := [a0, a1]) hd hm rfl hi hdd hst hc (fun r m' h => match r, h with | _, ⟨x, rfl, h⟩ => kk x m' h)
theorem x_Sl2 {index d' : Nat} {y' : mi_MD} {a0 a1 : mi_V} {Q1 : Int64 → mi_M → Prop} (hd : decode y.2.1 pc = .ok (.invokestatic index, 3)) (hm : mi_ls y.1.cls index y' 2) (hdd : d' < d) (hst : Nat.ble (mi_sz st) 8 = true) (hc : mi_Cl d' y' [a0, a1] mem Q1) (kk : ∀ x m', Q1 x m' → mi_X y d (pc + 3) ls (vl x :: st) m' Q) : mi_X y d pc ls (a1 :: a0 :: st) mem Q := x_callS (av := [a0, a1]) hd hm rfl hdd hst hc (fun r m' h => match r, h with | _, ⟨x, rfl, h⟩ => kk x m' h)
theorem x_Nl2 {index d' : Nat} {host : String} {y' : mi_MD} {a0 a1 : mi_V} {Q1 : Int64 → mi_M → Prop} (hd : decode y.2.1 pc = .ok (.invokestatic index, 3)) (hm : mi_lsn y.1.cls index host y' 2) (hdd : d' < d) (hst : Nat.ble (mi_sz st) 8 = true) (hc : mi_Cl d' y' [a0, a1] mem Q1) (kk : ∀ x m', Q1 x m' → mi_X y d (pc + 3) ls (vl x :: st) m' Q) : mi_X y d pc ls (a1 :: a0 :: st) mem Q := x_callSN (av := [a0, a1]) hd hm rfl hdd hst hc (fun r m' h => match r, h with | _, ⟨x, rfl, h⟩ => kk x m' h)
theorem x_Vv2 {index k i d' : Nat} {y' : mi_MD} {a0 a1 : mi_V} {Q1 : mi_M → Prop} (hd : decode y.2.1 pc = .ok (.invokevirtual index, 3)) (hm : mi_lv y.1.cls index y' 2 k) (hi : i < mi_n k) (hdd : d' < d) (hst : Nat.ble (mi_sz st) 8 = true) (hc : mi_Cv d' y' (vr k i :: [a0, a1]) mem Q1) (kk : ∀ m', Q1 m' → mi_X y d (pc + 3) ls st m' Q) : mi_X y d pc ls (a1 :: a0 :: vr k i :: st) mem Q := x_callV (av := [a0, a1]) hd hm rfl hi hdd hst hc (fun r m' h => match r, h with | _, ⟨rfl, h⟩ => kk m' h)
theorem x_Sv2 {index d' : Nat} {y' : mi_MD} {a0 a1 : mi_V} {Q1 : mi_M → Prop} (hd : decode y.2.1 pc = .ok (.invokestatic index, 3)) (hm : mi_ls y.1.cls index y' 2) (hdd : d' < d) (hst : Nat.ble (mi_sz st) 8 = true) (hc : mi_Cv d' y' [a0, a1] mem Q1) (kk : ∀ m', Q1 m' → mi_X y d (pc + 3) ls st m' Q) : mi_X y d pc ls (a1 :: a0 :: st) mem Q := x_callS (av := [a0, a1]) hd hm rfl hdd hst hc (fun r m' h => match r, h with | _, ⟨rfl, h⟩ => kk m' h)
theorem x_Nv2 {index d' : Nat} {host : String} {y' : mi_MD} {a0 a1 : mi_V} {Q1 : mi_M → Prop} (hd : decode y.2.1 pc = .ok (.invokestatic index, 3)) (hm : mi_lsn y.1.cls index host y' 2) (hdd : d' < d) (hst : Nat.ble (mi_sz st) 8 = true) (hc : mi_Cv d' y' [a0, a1] mem Q1) (kk : ∀ m', Q1 m' → mi_X y d (pc + 3) ls st m' Q) : mi_X y d pc ls (a1 :: a0 :: st) mem Q := x_callSN (av := [a0, a1]) hd hm rfl hdd hst hc (fun r m' h => match r, h with | _, ⟨rfl, h⟩ => kk m' h)
theorem x_Vi3 {index k i d' : Nat} {y' : mi_MD} {a0 a1 a2 : mi_V} {Q1 : Int32 → mi_M → Prop} (hd : decode y.2.1 pc = .ok (.invokevirtual index, 3)) (hm : mi_lv y.1.cls index y' 3 k) (hi : i < mi_n k) (hdd : d' < d) (hst : Nat.ble (mi_sz st) 8 = true) (hc : mi_Ci d' y' (vr k i :: [a0, a1, a2]) mem Q1) (kk : ∀ x m', Q1 x m' → mi_X y d (pc + 3) ls (vi x :: st) m' Q) : mi_X y d pc ls (a2 :: a1 :: a0 :: vr k i :: st) mem Q := x_callV (av := [a0, a1, a2]) hd hm rfl hi hdd hst hc (fun r m' h => match r, h with | _, ⟨x, rfl, h⟩ => kk x m' h)
theorem x_Si3 {index d' : Nat} {y' : mi_MD} {a0 a1 a2 : mi_V} {Q1 : Int32 → mi_M → Prop} (hd : decode y.2.1 pc = .ok (.invokestatic index, 3)) (hm : mi_ls y.1.cls index y' 3) (hdd : d' < d) (hst : Nat.ble (mi_sz st) 8 = true) (hc : mi_Ci d' y' [a0, a1, a2] mem Q1) (kk : ∀ x m', Q1 x m' → mi_X y d (pc + 3) ls (vi x :: st) m' Q) : mi_X y d pc ls (a2 :: a1 :: a0 :: st) mem Q := x_callS (av := [a0, a1, a2]) hd hm rfl hdd hst hc (fun r m' h => match r, h with | _, ⟨x, rfl, h⟩ => kk x m' h)
theorem x_Ni3 {index d' : Nat} {host : String} {y' : mi_MD} {a0 a1 a2 : mi_V} {Q1 : Int32 → mi_M → Prop} (hd : decode y.2.1 pc = .ok (.invokestatic index, 3)) (hm : mi_lsn y.1.cls index host y' 3) (hdd : d' < d) (hst : Nat.ble (mi_sz st) 8 = true) (hc : mi_Ci d' y' [a0, a1, a2] mem Q1) (kk : ∀ x m', Q1 x m' → mi_X y d (pc + 3) ls (vi x :: st) m' Q) : mi_X y d pc ls (a2 :: a1 :: a0 :: st) mem Q := x_callSN (av := [a0, a1, a2]) hd hm rfl hdd hst hc (fun r m' h => match r, h with | _, ⟨x, rfl, h⟩ => kk x m' h)
theorem x_Vl3 {index k i d' : Nat} {y' : mi_MD} {a0 a1 a2 : mi_V} {Q1 : Int64 → mi_M → Prop} (hd : decode y.2.1 pc = .ok (.invokevirtual index, 3)) (hm : mi_lv y.1.cls index y' 3 k) (hi : i < mi_n k) (hdd : d' < d) (hst : Nat.ble (mi_sz st) 8 = true) (hc : mi_Cl d' y' (vr k i :: [a0, a1, a2]) mem Q1) (kk : ∀ x m', Q1 x m' → mi_X y d (pc + 3) ls (vl x :: st) m' Q) : mi_X y d pc ls (a2 :: a1 :: a0 :: vr k i :: st) mem Q := x_callV (av := [a0, a1, a2]) hd hm rfl hi hdd hst hc (fun r m' h => match r, h with | _, ⟨x, rfl, h⟩ => kk x m' h)
theorem x_Sl3 {index d' : Nat} {y' : mi_MD} {a0 a1 a2 : mi_V} {Q1 : Int64 → mi_M → Prop} (hd : decode y.2.1 pc = .ok (.invokestatic index, 3)) (hm : mi_ls y.1.cls index y' 3) (hdd : d' < d) (hst : Nat.ble (mi_sz st) 8 = true) (hc : mi_Cl d' y' [a0, a1, a2] mem Q1) (kk : ∀ x m', Q1 x m' → mi_X y d (pc + 3) ls (vl x :: st) m' Q) : mi_X y d pc ls (a2 :: a1 :: a0 :: st) mem Q := x_callS (av := [a0, a1, a2]) hd hm rfl hdd hst hc (fun r m' h => match r, h with | _, ⟨x, rfl, h⟩ => kk x m' h)
theorem x_Nl3 {index d' : Nat} {host : String} {y' : mi_MD} {a0 a1 a2 : mi_V} {Q1 : Int64 → mi_M → Prop} (hd : decode y.2.1 pc = .ok (.invokestatic index, 3)) (hm : mi_lsn y.1.cls index host y' 3) (hdd : d' < d) (hst : Nat.ble (mi_sz st) 8 = true) (hc : mi_Cl d' y' [a0, a1, a2] mem Q1) (kk : ∀ x m', Q1 x m' → mi_X y d (pc + 3) ls (vl x :: st) m' Q) : mi_X y d pc ls (a2 :: a1 :: a0 :: st) mem Q := x_callSN (av := [a0, a1, a2]) hd hm rfl hdd hst hc (fun r m' h => match r, h with | _, ⟨x, rfl, h⟩ => kk x m' h)
theorem x_Vv3 {index k i d' : Nat} {y' : mi_MD} {a0 a1 a2 : mi_V} {Q1 : mi_M → Prop} (hd : decode y.2.1 pc = .ok (.invokevirtual index, 3)) (hm : mi_lv y.1.cls index y' 3 k) (hi : i < mi_n k) (hdd : d' < d) (hst : Nat.ble (mi_sz st) 8 = true) (hc : mi_Cv d' y' (vr k i :: [a0, a1, a2]) mem Q1) (kk : ∀ m', Q1 m' → mi_X y d (pc + 3) ls st m' Q) : mi_X y d pc ls (a2 :: a1 :: a0 :: vr k i :: st) mem Q := x_callV (av := [a0, a1, a2]) hd hm rfl hi hdd hst hc (fun r m' h => match r, h with | _, ⟨rfl, h⟩ => kk m' h)
theorem x_Sv3 {index d' : Nat} {y' : mi_MD} {a0 a1 a2 : mi_V} {Q1 : mi_M → Prop} (hd : decode y.2.1 pc = .ok (.invokestatic index, 3)) (hm : mi_ls y.1.cls index y' 3) (hdd : d' < d) (hst : Nat.ble (mi_sz st) 8 = true) (hc : mi_Cv d' y' [a0, a1, a2] mem Q1) (kk : ∀ m', Q1 m' → mi_X y d (pc + 3) ls st m' Q) : mi_X y d pc ls (a2 :: a1 :: a0 :: st) mem Q := x_callS (av := [a0, a1, a2]) hd hm rfl hdd hst hc (fun r m' h => match r, h with | _, ⟨rfl, h⟩ => kk m' h)
theorem x_Nv3 {index d' : Nat} {host : String} {y' : mi_MD} {a0 a1 a2 : mi_V} {Q1 : mi_M → Prop} (hd : decode y.2.1 pc = .ok (.invokestatic index, 3)) (hm : mi_lsn y.1.cls index host y' 3) (hdd : d' < d) (hst : Nat.ble (mi_sz st) 8 = true) (hc : mi_Cv d' y' [a0, a1, a2] mem Q1) (kk : ∀ m', Q1 m' → mi_X y d (pc + 3) ls st m' Q) : mi_X y d pc ls (a2 :: a1 :: a0 :: st) mem Q := x_callSN (av := [a0, a1, a2]) hd hm rfl hdd hst hc (fun r m' h => match r, h with | _, ⟨rfl, h⟩ => kk m' h)
theorem x_Vi4 {index k i d' : Nat} {y' : mi_MD} {a0 a1 a2 a3 : mi_V} {Q1 : Int32 → mi_M → Prop} (hd : decode y.2.1 pc = .ok (.invokevirtual index, 3)) (hm : mi_lv y.1.cls index y' 4 k) (hi : i < mi_n k) (hdd : d' < d) (hst : Nat.ble (mi_sz st) 8 = true) (hc : mi_Ci d' y' (vr k i :: [a0, a1, a2, a3]) mem Q1) (kk : ∀ x m', Q1 x m' → mi_X y d (pc + 3) ls (vi x :: st) m' Q) : mi_X y d pc ls (a3 :: a2 :: a1 :: a0 :: vr k i :: st) mem Q := x_callV (av := [a0, a1, a2, a3]) hd hm rfl hi hdd hst hc (fun r m' h => match r, h with | _, ⟨x, rfl, h⟩ => kk x m' h)
theorem x_Si4 {index d' : Nat} {y' : mi_MD} {a0 a1 a2 a3 : mi_V} {Q1 : Int32 → mi_M → Prop} (hd : decode y.2.1 pc = .ok (.invokestatic index, 3)) (hm : mi_ls y.1.cls index y' 4) (hdd : d' < d) (hst : Nat.ble (mi_sz st) 8 = true) (hc : mi_Ci d' y' [a0, a1, a2, a3] mem Q1) (kk : ∀ x m', Q1 x m' → mi_X y d (pc + 3) ls (vi x :: st) m' Q) : mi_X y d pc ls (a3 :: a2 :: a1 :: a0 :: st) mem Q := x_callS (av := [a0, a1, a2, a3]) hd hm rfl hdd hst hc (fun r m' h => match r, h with | _, ⟨x, rfl, h⟩ => kk x m' h)
theorem x_Ni4 {index d' : Nat} {host : String} {y' : mi_MD} {a0 a1 a2 a3 : mi_V} {Q1 : Int32 → mi_M → Prop} (hd : decode y.2.1 pc = .ok (.invokestatic index, 3)) (hm : mi_lsn y.1.cls index host y' 4) (hdd : d' < d) (hst : Nat.ble (mi_sz st) 8 = true) (hc : mi_Ci d' y' [a0, a1, a2, a3] mem Q1) (kk : ∀ x m', Q1 x m' → mi_X y d (pc + 3) ls (vi x :: st) m' Q) : mi_X y d pc ls (a3 :: a2 :: a1 :: a0 :: st) mem Q := x_callSN (av := [a0, a1, a2, a3]) hd hm rfl hdd hst hc (fun r m' h => match r, h with | _, ⟨x, rfl, h⟩ => kk x m' h)
theorem x_Vl4 {index k i d' : Nat} {y' : mi_MD} {a0 a1 a2 a3 : mi_V} {Q1 : Int64 → mi_M → Prop} (hd : decode y.2.1 pc = .ok (.invokevirtual index, 3)) (hm : mi_lv y.1.cls index y' 4 k) (hi : i < mi_n k) (hdd : d' < d) (hst : Nat.ble (mi_sz st) 8 = true) (hc : mi_Cl d' y' (vr k i :: [a0, a1, a2, a3]) mem Q1) (kk : ∀ x m', Q1 x m' → mi_X y d (pc + 3) ls (vl x :: st) m' Q) : mi_X y d pc ls (a3 :: a2 :: a1 :: a0 :: vr k i :: st) mem Q := x_callV (av := [a0, a1, a2, a3]) hd hm rfl hi hdd hst hc (fun r m' h => match r, h with | _, ⟨x, rfl, h⟩ => kk x m' h)
theorem x_Sl4 {index d' : Nat} {y' : mi_MD} {a0 a1 a2 a3 : mi_V} {Q1 : Int64 → mi_M → Prop} (hd : decode y.2.1 pc = .ok (.invokestatic index, 3)) (hm : mi_ls y.1.cls index y' 4) (hdd : d' < d) (hst : Nat.ble (mi_sz st) 8 = true) (hc : mi_Cl d' y' [a0, a1, a2, a3] mem Q1) (kk : ∀ x m', Q1 x m' → mi_X y d (pc + 3) ls (vl x :: st) m' Q) : mi_X y d pc ls (a3 :: a2 :: a1 :: a0 :: st) mem Q := x_callS (av := [a0, a1, a2, a3]) hd hm rfl hdd hst hc (fun r m' h => match r, h with | _, ⟨x, rfl, h⟩ => kk x m' h)
theorem x_Nl4 {index d' : Nat} {host : String} {y' : mi_MD} {a0 a1 a2 a3 : mi_V} {Q1 : Int64 → mi_M → Prop} (hd : decode y.2.1 pc = .ok (.invokestatic index, 3)) (hm : mi_lsn y.1.cls index host y' 4) (hdd : d' < d) (hst : Nat.ble (mi_sz st) 8 = true) (hc : mi_Cl d' y' [a0, a1, a2, a3] mem Q1) (kk : ∀ x m', Q1 x m' → mi_X y d (pc + 3) ls (vl x :: st) m' Q) : mi_X y d pc ls (a3 :: a2 :: a1 :: a0 :: st) mem Q := x_callSN (av := [a0, a1, a2, a3]) hd hm rfl hdd hst hc (fun r m' h => match r, h with | _, ⟨x, rfl, h⟩ => kk x m' h)
theorem x_Vv4 {index k i d' : Nat} {y' : mi_MD} {a0 a1 a2 a3 : mi_V} {Q1 : mi_M → Prop} (hd : decode y.2.1 pc = .ok (.invokevirtual index, 3)) (hm : mi_lv y.1.cls index y' 4 k) (hi : i < mi_n k) (hdd : d' < d) (hst : Nat.ble (mi_sz st) 8 = true) (hc : mi_Cv d' y' (vr k i :: [a0, a1, a2, a3]) mem Q1) (kk : ∀ m', Q1 m' → mi_X y d (pc + 3) ls st m' Q) : mi_X y d pc ls (a3 :: a2 :: a1 :: a0 :: vr k i :: st) mem Q := x_callV (av := [a0, a1, a2, a3]) hd hm rfl hi hdd hst hc (fun r m' h => match r, h with | _, ⟨rfl, h⟩ => kk m' h)
theorem x_Sv4 {index d' : Nat} {y' : mi_MD} {a0 a1 a2 a3 : mi_V} {Q1 : mi_M → Prop} (hd : decode y.2.1 pc = .ok (.invokestatic index, 3)) (hm : mi_ls y.1.cls index y' 4) (hdd : d' < d) (hst : Nat.ble (mi_sz st) 8 = true) (hc : mi_Cv d' y' [a0, a1, a2, a3] mem Q1) (kk : ∀ m', Q1 m' → mi_X y d (pc + 3) ls st m' Q) : mi_X y d pc ls (a3 :: a2 :: a1 :: a0 :: st) mem Q := x_callS (av := [a0, a1, a2, a3]) hd hm rfl hdd hst hc (fun r m' h => match r, h with | _, ⟨rfl, h⟩ => kk m' h)
theorem x_Nv4 {index d' : Nat} {host : String} {y' : mi_MD} {a0 a1 a2 a3 : mi_V} {Q1 : mi_M → Prop} (hd : decode y.2.1 pc = .ok (.invokestatic index, 3)) (hm : mi_lsn y.1.cls index host y' 4) (hdd : d' < d) (hst : Nat.ble (mi_sz st) 8 = true) (hc : mi_Cv d' y' [a0, a1, a2, a3] mem Q1) (kk : ∀ m', Q1 m' → mi_X y d (pc + 3) ls st m' Q) : mi_X y d pc ls (a3 :: a2 :: a1 :: a0 :: st) mem Q := x_callSN (av := [a0, a1, a2, a3]) hd hm rfl hdd hst hc (fun r m' h => match r, h with | _, ⟨rfl, h⟩ => kk m' h)
theorem x_Vi5 {index k i d' : Nat} {y' : mi_MD} {a0 a1 a2 a3 a4 : mi_V} {Q1 : Int32 → mi_M → Prop} (hd : decode y.2.1 pc = .ok (.invokevirtual index, 3)) (hm : mi_lv y.1.cls index y' 5 k) (hi : i < mi_n k) (hdd : d' < d) (hst : Nat.ble (mi_sz st) 8 = true) (hc : mi_Ci d' y' (vr k i :: [a0, a1, a2, a3, a4]) mem Q1) (kk : ∀ x m', Q1 x m' → mi_X y d (pc + 3) ls (vi x :: st) m' Q) : mi_X y d pc ls (a4 :: a3 :: a2 :: a1 :: a0 :: vr k i :: st) mem Q := x_callV (av := [a0, a1, a2, a3, a4]) hd hm rfl hi hdd hst hc (fun r m' h => match r, h with | _, ⟨x, rfl, h⟩ => kk x m' h)
theorem x_Si5 {index d' : Nat} {y' : mi_MD} {a0 a1 a2 a3 a4 : mi_V} {Q1 : Int32 → mi_M → Prop} (hd : decode y.2.1 pc = .ok (.invokestatic index, 3)) (hm : mi_ls y.1.cls index y' 5) (hdd : d' < d) (hst : Nat.ble (mi_sz st) 8 = true) (hc : mi_Ci d' y' [a0, a1, a2, a3, a4] mem Q1) (kk : ∀ x m', Q1 x m' → mi_X y d (pc + 3) ls (vi x :: st) m' Q) : mi_X y d pc ls (a4 :: a3 :: a2 :: a1 :: a0 :: st) mem Q := x_callS (av := [a0, a1, a2, a3, a4]) hd hm rfl hdd hst hc (fun r m' h => match r, h with | _, ⟨x, rfl, h⟩ => kk x m' h)
theorem x_Ni5 {index d' : Nat} {host : String} {y' : mi_MD} {a0 a1 a2 a3 a4 : mi_V} {Q1 : Int32 → mi_M → Prop} (hd : decode y.2.1 pc = .ok (.invokestatic index, 3)) (hm : mi_lsn y.1.cls index host y' 5) (hdd : d' < d) (hst : Nat.ble (mi_sz st) 8 = true) (hc : mi_Ci d' y' [a0, a1, a2, a3, a4] mem Q1) (kk : ∀ x m', Q1 x m' → mi_X y d (pc + 3) ls (vi x :: st) m' Q) : mi_X y d pc ls (a4 :: a3 :: a2 :: a1 :: a0 :: st) mem Q := x_callSN (av := [a0, a1, a2, a3, a4]) hd hm rfl hdd hst hc (fun r m' h => match r, h with | _, ⟨x, rfl, h⟩ => kk x m' h)
theorem x_Vl5 {index k i d' : Nat} {y' : mi_MD} {a0 a1 a2 a3 a4 : mi_V} {Q1 : Int64 → mi_M → Prop} (hd : decode y.2.1 pc = .ok (.invokevirtual index, 3)) (hm : mi_lv y.1.cls index y' 5 k) (hi : i < mi_n k) (hdd : d' < d) (hst : Nat.ble (mi_sz st) 8 = true) (hc : mi_Cl d' y' (vr k i :: [a0, a1, a2, a3, a4]) mem Q1) (kk : ∀ x m', Q1 x m' → mi_X y d (pc + 3) ls (vl x :: st) m' Q) : mi_X y d pc ls (a4 :: a3 :: a2 :: a1 :: a0 :: vr k i :: st) mem Q := x_callV (av := [a0, a1, a2, a3, a4]) hd hm rfl hi hdd hst hc (fun r m' h => match r, h with | _, ⟨x, rfl, h⟩ => kk x m' h)
theorem x_Sl5 {index d' : Nat} {y' : mi_MD} {a0 a1 a2 a3 a4 : mi_V} {Q1 : Int64 → mi_M → Prop} (hd : decode y.2.1 pc = .ok (.invokestatic index, 3)) (hm : mi_ls y.1.cls index y' 5) (hdd : d' < d) (hst : Nat.ble (mi_sz st) 8 = true) (hc : mi_Cl d' y' [a0, a1, a2, a3, a4] mem Q1) (kk : ∀ x m', Q1 x m' → mi_X y d (pc + 3) ls (vl x :: st) m' Q) : mi_X y d pc ls (a4 :: a3 :: a2 :: a1 :: a0 :: st) mem Q := x_callS (av := [a0, a1, a2, a3, a4]) hd hm rfl hdd hst hc (fun r m' h => match r, h with | _, ⟨x, rfl, h⟩ => kk x m' h)
theorem x_Nl5 {index d' : Nat} {host : String} {y' : mi_MD} {a0 a1 a2 a3 a4 : mi_V} {Q1 : Int64 → mi_M → Prop} (hd : decode y.2.1 pc = .ok (.invokestatic index, 3)) (hm : mi_lsn y.1.cls index host y' 5) (hdd : d' < d) (hst : Nat.ble (mi_sz st) 8 = true) (hc : mi_Cl d' y' [a0, a1, a2, a3, a4] mem Q1) (kk : ∀ x m', Q1 x m' → mi_X y d (pc + 3) ls (vl x :: st) m' Q) : mi_X y d pc ls (a4 :: a3 :: a2 :: a1 :: a0 :: st) mem Q := x_callSN (av := [a0, a1, a2, a3, a4]) hd hm rfl hdd hst hc (fun r m' h => match r, h with | _, ⟨x, rfl, h⟩ => kk x m' h)
theorem x_Vv5 {index k i d' : Nat} {y' : mi_MD} {a0 a1 a2 a3 a4 : mi_V} {Q1 : mi_M → Prop} (hd : decode y.2.1 pc = .ok (.invokevirtual index, 3)) (hm : mi_lv y.1.cls index y' 5 k) (hi : i < mi_n k) (hdd : d' < d) (hst : Nat.ble (mi_sz st) 8 = true) (hc : mi_Cv d' y' (vr k i :: [a0, a1, a2, a3, a4]) mem Q1) (kk : ∀ m', Q1 m' → mi_X y d (pc + 3) ls st m' Q) : mi_X y d pc ls (a4 :: a3 :: a2 :: a1 :: a0 :: vr k i :: st) mem Q := x_callV (av := [a0, a1, a2, a3, a4]) hd hm rfl hi hdd hst hc (fun r m' h => match r, h with | _, ⟨rfl, h⟩ => kk m' h)
theorem x_Sv5 {index d' : Nat} {y' : mi_MD} {a0 a1 a2 a3 a4 : mi_V} {Q1 : mi_M → Prop} (hd : decode y.2.1 pc = .ok (.invokestatic index, 3)) (hm : mi_ls y.1.cls index y' 5) (hdd : d' < d) (hst : Nat.ble (mi_sz st) 8 = true) (hc : mi_Cv d' y' [a0, a1, a2, a3, a4] mem Q1) (kk : ∀ m', Q1 m' → mi_X y d (pc + 3) ls st m' Q) : mi_X y d pc ls (a4 :: a3 :: a2 :: a1 :: a0 :: st) mem Q := x_callS (av := [a0, a1, a2, a3, a4]) hd hm rfl hdd hst hc (fun r m' h => match r, h with | _, ⟨rfl, h⟩ => kk m' h)
theorem x_Nv5 {index d' : Nat} {host : String} {y' : mi_MD} {a0 a1 a2 a3 a4 : mi_V} {Q1 : mi_M → Prop} (hd : decode y.2.1 pc = .ok (.invokestatic index, 3)) (hm : mi_lsn y.1.cls index host y' 5) (hdd : d' < d) (hst : Nat.ble (mi_sz st) 8 = true) (hc : mi_Cv d' y' [a0, a1, a2, a3, a4] mem Q1) (kk : ∀ m', Q1 m' → mi_X y d (pc + 3) ls st m' Q) : mi_X y d pc ls (a4 :: a3 :: a2 :: a1 :: a0 :: st) mem Q := x_callSN (av := [a0, a1, a2, a3, a4]) hd hm rfl hdd hst hc (fun r m' h => match r, h with | _, ⟨rfl, h⟩ => kk m' h)
theorem x_Vi6 {index k i d' : Nat} {y' : mi_MD} {a0 a1 a2 a3 a4 a5 : mi_V} {Q1 : Int32 → mi_M → Prop} (hd : decode y.2.1 pc = .ok (.invokevirtual index, 3)) (hm : mi_lv y.1.cls index y' 6 k) (hi : i < mi_n k) (hdd : d' < d) (hst : Nat.ble (mi_sz st) 8 = true) (hc : mi_Ci d' y' (vr k i :: [a0, a1, a2, a3, a4, a5]) mem Q1) (kk : ∀ x m', Q1 x m' → mi_X y d (pc + 3) ls (vi x :: st) m' Q) : mi_X y d pc ls (a5 :: a4 :: a3 :: a2 :: a1 :: a0 :: vr k i :: st) mem Q := x_callV (av := [a0, a1, a2, a3, a4, a5]) hd hm rfl hi hdd hst hc (fun r m' h => match r, h with | _, ⟨x, rfl, h⟩ => kk x m' h)
theorem x_Si6 {index d' : Nat} {y' : mi_MD} {a0 a1 a2 a3 a4 a5 : mi_V} {Q1 : Int32 → mi_M → Prop} (hd : decode y.2.1 pc = .ok (.invokestatic index, 3)) (hm : mi_ls y.1.cls index y' 6) (hdd : d' < d) (hst : Nat.ble (mi_sz st) 8 = true) (hc : mi_Ci d' y' [a0, a1, a2, a3, a4, a5] mem Q1) (kk : ∀ x m', Q1 x m' → mi_X y d (pc + 3) ls (vi x :: st) m' Q) : mi_X y d pc ls (a5 :: a4 :: a3 :: a2 :: a1 :: a0 :: st) mem Q := x_callS (av := [a0, a1, a2, a3, a4, a5]) hd hm rfl hdd hst hc (fun r m' h => match r, h with | _, ⟨x, rfl, h⟩ => kk x m' h)
theorem x_Ni6 {index d' : Nat} {host : String} {y' : mi_MD} {a0 a1 a2 a3 a4 a5 : mi_V} {Q1 : Int32 → mi_M → Prop} (hd : decode y.2.1 pc = .ok (.invokestatic index, 3)) (hm : mi_lsn y.1.cls index host y' 6) (hdd : d' < d) (hst : Nat.ble (mi_sz st) 8 = true) (hc : mi_Ci d' y' [a0, a1, a2, a3, a4, a5] mem Q1) (kk : ∀ x m', Q1 x m' → mi_X y d (pc + 3) ls (vi x :: st) m' Q) : mi_X y d pc ls (a5 :: a4 :: a3 :: a2 :: a1 :: a0 :: st) mem Q := x_callSN (av := [a0, a1, a2, a3, a4, a5]) hd hm rfl hdd hst hc (fun r m' h => match r, h with | _, ⟨x, rfl, h⟩ => kk x m' h)
theorem x_Vl6 {index k i d' : Nat} {y' : mi_MD} {a0 a1 a2 a3 a4 a5 : mi_V} {Q1 : Int64 → mi_M → Prop} (hd : decode y.2.1 pc = .ok (.invokevirtual index, 3)) (hm : mi_lv y.1.cls index y' 6 k) (hi : i < mi_n k) (hdd : d' < d) (hst : Nat.ble (mi_sz st) 8 = true) (hc : mi_Cl d' y' (vr k i :: [a0, a1, a2, a3, a4, a5]) mem Q1) (kk : ∀ x m', Q1 x m' → mi_X y d (pc + 3) ls (vl x :: st) m' Q) : mi_X y d pc ls (a5 :: a4 :: a3 :: a2 :: a1 :: a0 :: vr k i :: st) mem Q := x_callV (av := [a0, a1, a2, a3, a4, a5]) hd hm rfl hi hdd hst hc (fun r m' h => match r, h with | _, ⟨x, rfl, h⟩ => kk x m' h)
theorem x_Sl6 {index d' : Nat} {y' : mi_MD} {a0 a1 a2 a3 a4 a5 : mi_V} {Q1 : Int64 → mi_M → Prop} (hd : decode y.2.1 pc = .ok (.invokestatic index, 3)) (hm : mi_ls y.1.cls index y' 6) (hdd : d' < d) (hst : Nat.ble (mi_sz st) 8 = true) (hc : mi_Cl d' y' [a0, a1, a2, a3, a4, a5] mem Q1) (kk : ∀ x m', Q1 x m' → mi_X y d (pc + 3) ls (vl x :: st) m' Q) : mi_X y d pc ls (a5 :: a4 :: a3 :: a2 :: a1 :: a0 :: st) mem Q := x_callS (av := [a0, a1, a2, a3, a4, a5]) hd hm rfl hdd hst hc (fun r m' h => match r, h with | _, ⟨x, rfl, h⟩ => kk x m' h)
theorem x_Nl6 {index d' : Nat} {host : String} {y' : mi_MD} {a0 a1 a2 a3 a4 a5 : mi_V} {Q1 : Int64 → mi_M → Prop} (hd : decode y.2.1 pc = .ok (.invokestatic index, 3)) (hm : mi_lsn y.1.cls index host y' 6) (hdd : d' < d) (hst : Nat.ble (mi_sz st) 8 = true) (hc : mi_Cl d' y' [a0, a1, a2, a3, a4, a5] mem Q1) (kk : ∀ x m', Q1 x m' → mi_X y d (pc + 3) ls (vl x :: st) m' Q) : mi_X y d pc ls (a5 :: a4 :: a3 :: a2 :: a1 :: a0 :: st) mem Q := x_callSN (av := [a0, a1, a2, a3, a4, a5]) hd hm rfl hdd hst hc (fun r m' h => match r, h with | _, ⟨x, rfl, h⟩ => kk x m' h)
theorem x_Vv6 {index k i d' : Nat} {y' : mi_MD} {a0 a1 a2 a3 a4 a5 : mi_V} {Q1 : mi_M → Prop} (hd : decode y.2.1 pc = .ok (.invokevirtual index, 3)) (hm : mi_lv y.1.cls index y' 6 k) (hi : i < mi_n k) (hdd : d' < d) (hst : Nat.ble (mi_sz st) 8 = true) (hc : mi_Cv d' y' (vr k i :: [a0, a1, a2, a3, a4, a5]) mem Q1) (kk : ∀ m', Q1 m' → mi_X y d (pc + 3) ls st m' Q) : mi_X y d pc ls (a5 :: a4 :: a3 :: a2 :: a1 :: a0 :: vr k i :: st) mem Q := x_callV (av := [a0, a1, a2, a3, a4, a5]) hd hm rfl hi hdd hst hc (fun r m' h => match r, h with | _, ⟨rfl, h⟩ => kk m' h)
theorem x_Sv6 {index d' : Nat} {y' : mi_MD} {a0 a1 a2 a3 a4 a5 : mi_V} {Q1 : mi_M → Prop} (hd : decode y.2.1 pc = .ok (.invokestatic index, 3)) (hm : mi_ls y.1.cls index y' 6) (hdd : d' < d) (hst : Nat.ble (mi_sz st) 8 = true) (hc : mi_Cv d' y' [a0, a1, a2, a3, a4, a5] mem Q1) (kk : ∀ m', Q1 m' → mi_X y d (pc + 3) ls st m' Q) : mi_X y d pc ls (a5 :: a4 :: a3 :: a2 :: a1 :: a0 :: st) mem Q := x_callS (av := [a0, a1, a2, a3, a4, a5]) hd hm rfl hdd hst hc (fun r m' h => match r, h with | _, ⟨rfl, h⟩ => kk m' h)
theorem x_Nv6 {index d' : Nat} {host : String} {y' : mi_MD} {a0 a1 a2 a3 a4 a5 : mi_V} {Q1 : mi_M → Prop} (hd : decode y.2.1 pc = .ok (.invokestatic index, 3)) (hm : mi_lsn y.1.cls index host y' 6) (hdd : d' < d) (hst : Nat.ble (mi_sz st) 8 = true) (hc : mi_Cv d' y' [a0, a1, a2, a3, a4, a5] mem Q1) (kk : ∀ m', Q1 m' → mi_X y d (pc + 3) ls st m' Q) : mi_X y d pc ls (a5 :: a4 :: a3 :: a2 :: a1 :: a0 :: st) mem Q := x_callSN (av := [a0, a1, a2, a3, a4, a5]) hd hm rfl hdd hst hc (fun r m' h => match r, h with | _, ⟨rfl, h⟩ => kk m' h)
end MH
