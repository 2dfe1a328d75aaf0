/-! ===== grudges, count, dark, middle ===== -/
theorem po_grudges : ob_grudges Rel := by
  rintro a0 a1 mem ⟨T, cd, c, y, hR⟩ ha1
  obtain ⟨h1, h2, h3, h4, h5, h6, ⟨S, hc, hm, hs⟩, h8, h9, h10⟩ := id hR
  have hT := h2.1.2.1
  have h82 := hT.1.2.1
  have h60 := hT.1.1
  have q1 : mTw (mi_wI mem 12 0 0 0) T := h3.1.1.mv kp_thr (fun p _ x => by omega)
  have q2 : mSt (mi_wI mem 12 0 0 0) 0 S := hm.mv kp_thr (fun p a b d => by omega)
  rcases in_or (T 0) a0 with ⟨p, hp, rfl⟩ | hx
  · refine ob_rd (f1 := f_X11_grudges (n32 p) a1) (f2 := f_X12_grudges (n32 p) a1) hR (n32 (bs (fun w => decide ((if a1 = 0 then toA T w else byA T w) = p) && (S (22 + w) == 0)) (T 2))) ?_ ?_
    · unfold f_X11_grudges
      rw [h1.2.2.1, pe_g (n8 h1.1), pc_hasPerson h2.1.1 hT hp, pe_bo, if_neg (by decide)]
      apply pw_eq
      rw [pw_bo]
      refine pl_for (fun k s => s = (n32 (bs (fun w => decide ((if a1 = 0 then toA T w else byA T w) = p) && (S (22 + w) == 0)) k), n32 k)) (T 2) (by omega) rfl ?_
      rintro k s hk rfl
      unfold f_X11_grudges_B18 f_X11_grudges_J57 f_X11_grudges_J84
      simp (disch := omega) only [h1.2.2.1, pw_if, pw_some, pw_g, pw_let, pw_bo, h2.1.1.1.2.1, n32_le, lr_r, lr_l, n32_in, n32_cl, n32_al]
      refine ⟨n8 h1.1, fun hz => ?_, fun hz => ?_⟩
      · have : k = T 2 := by omega
        subst this
        unfold f_X11_grudges_K18
        rw [pw_some]
      · have hk : k < T 2 := by omega
        obtain ⟨b1, b2, b3, b4, b5⟩ := hT.2.2.1 k hk
        rw [pc_isForgiven hc hs (by omega), (h2.1.1.2.2.1 k hk).1, (h2.1.1.2.2.1 k hk).2.1]
        simp (disch := omega) only [n32_eq, pw_some]
        have fin : ∀ z, z = (if a1 = 0 then toA T k else byA T k) → (z = p → (S (22 + k) = 0 → k < T 2 ∧ (n32 (bs (fun w => decide ((if a1 = 0 then toA T w else byA T w) = p) && (S (22 + w) == 0)) k) ||| (1 : Int32) <<< (n32 k &&& 31), n32 (k + 1)) = (n32 (bs (fun w => decide ((if a1 = 0 then toA T w else byA T w) = p) && (S (22 + w) == 0)) (k + 1)), n32 (k + 1))) ∧ (¬ S (22 + k) = 0 → k < T 2 ∧ (n32 (bs (fun w => decide ((if a1 = 0 then toA T w else byA T w) = p) && (S (22 + w) == 0)) k), n32 (k + 1)) = (n32 (bs (fun w => decide ((if a1 = 0 then toA T w else byA T w) = p) && (S (22 + w) == 0)) (k + 1)), n32 (k + 1)))) ∧ (¬ z = p → k < T 2 ∧ (n32 (bs (fun w => decide ((if a1 = 0 then toA T w else byA T w) = p) && (S (22 + w) == 0)) k), n32 (k + 1)) = (n32 (bs (fun w => decide ((if a1 = 0 then toA T w else byA T w) = p) && (S (22 + w) == 0)) (k + 1)), n32 (k + 1))) := by
          intro z hz2
          refine ⟨fun e => ⟨fun e2 => ⟨hk, ?_⟩, fun e2 => ⟨hk, ?_⟩⟩, fun e => ⟨hk, ?_⟩⟩
          · rw [bs_or (P := fun w => decide ((if a1 = 0 then toA T w else byA T w) = p) && (S (22 + w) == 0)) (by omega) (by simp only [← hz2, e, e2]; simp)]
          · rw [bs_no (P := fun w => decide ((if a1 = 0 then toA T w else byA T w) = p) && (S (22 + w) == 0)) (by simp [e2])]
          · rw [bs_no (P := fun w => decide ((if a1 = 0 then toA T w else byA T w) = p) && (S (22 + w) == 0)) (by simp only [← hz2, e]; simp)]
        exact ⟨fun e => ⟨n8 h1.1, by omega, fin _ (by rw [if_pos e])⟩, fun e => ⟨n8 h1.1, by omega, fin _ (by rw [if_neg e])⟩⟩
    · unfold f_X12_grudges
      rw [pe_let, pm_isPerson q1 hT hp, pe_bo, if_neg (by decide), pw_bo]
      refine pl_for (fun k s => s = (n32 (bs (fun w => decide ((if a1 = 0 then toA T w else byA T w) = p) && (S (22 + w) == 0)) k), n32 k)) (T 2) (by omega) rfl ?_
      rintro k s hk rfl
      unfold f_X12_grudges_B20
      rw [pm_wrongs q1]
      simp (disch := omega) only [pw_if, pw_some, pw_bo, n32_le, lr_r]
      refine ⟨fun hz => ?_, fun hz => ?_⟩
      · have : k = T 2 := by omega
        subst this
        unfold f_X12_grudges_K20
        rw [pw_some]
        exact ⟨by trivial, kp_thr⟩
      · have hk : k < T 2 := by omega
        obtain ⟨b1, b2, b3, b4, b5⟩ := hT.2.2.1 k hk
        rw [show f_X12_isOpen 0 (n32 k) (mi_wI mem 12 0 0 0) = _ from pm_isOpen (b := 0) q1 hT q2 (Nat.zero_le _) hk, pw_some]
        have no : (decide ((if a1 = 0 then toA T k else byA T k) = p) && (S (22 + k) == 0)) = false → wo (f_X12_grudges_J66 (n32 (bs (fun w => decide ((if a1 = 0 then toA T w else byA T w) = p) && (S (22 + w) == 0)) k)) (n32 k)) (lr (fun s' => k < T 2 ∧ s' = (n32 (bs (fun w => decide ((if a1 = 0 then toA T w else byA T w) = p) && (S (22 + w) == 0)) (k + 1)), n32 (k + 1))) (fun e => wo (f_X12_grudges_K20 (mi_wI mem 12 0 0 0) e) (fun r => r.1 = n32 (bs (fun w => decide ((if a1 = 0 then toA T w else byA T w) = p) && (S (22 + w) == 0)) (T 2)) ∧ kp (fun k i p => pXm k i p) mem r.2))) := by
          intro hh
          unfold f_X12_grudges_J66 f_X12_grudges_J67
          simp only [pw_let, pw_some, lr_l, n32_al, Int32.or_zero]
          exact ⟨hk, by rw [bs_no (P := fun w => decide ((if a1 = 0 then toA T w else byA T w) = p) && (S (22 + w) == 0)) hh]⟩
        have yes : (decide ((if a1 = 0 then toA T k else byA T k) = p) && (S (22 + k) == 0)) = true → wo (f_X12_grudges_J67 (n32 (bs (fun w => decide ((if a1 = 0 then toA T w else byA T w) = p) && (S (22 + w) == 0)) k)) (n32 k) ((1 : Int32) <<< (n32 k &&& 31))) (lr (fun s' => k < T 2 ∧ s' = (n32 (bs (fun w => decide ((if a1 = 0 then toA T w else byA T w) = p) && (S (22 + w) == 0)) (k + 1)), n32 (k + 1))) (fun e => wo (f_X12_grudges_K20 (mi_wI mem 12 0 0 0) e) (fun r => r.1 = n32 (bs (fun w => decide ((if a1 = 0 then toA T w else byA T w) = p) && (S (22 + w) == 0)) (T 2)) ∧ kp (fun k i p => pXm k i p) mem r.2))) := by
          intro hh
          unfold f_X12_grudges_J67
          simp only [pw_let, pw_some, lr_l, n32_al]
          exact ⟨hk, by rw [bs_or (P := fun w => decide ((if a1 = 0 then toA T w else byA T w) = p) && (S (22 + w) == 0)) (by omega) hh]⟩
        by_cases e0 : S (22 + k) = 0
        · rw [if_pos e0]
          refine ⟨fun x => absurd x (by decide), fun _ => ⟨fun e => ?_, fun e => ?_⟩⟩
          · unfold f_X12_grudges_J52
            rw [pm_to q1 (by omega), pe_bo]
            simp (disch := omega) only [pw_if, n32_eq]
            exact ⟨fun e2 => yes (by simp [e, e2, e0]), fun e2 => no (by simp [e, e2])⟩
          · unfold f_X12_grudges_J52
            rw [pm_by q1 (by omega), pe_bo]
            simp (disch := omega) only [pw_if, n32_eq]
            exact ⟨fun e2 => yes (by simp [e, e2, e0]), fun e2 => no (by simp [e, e2])⟩
        · rw [if_neg e0]
          exact ⟨fun _ => no (by simp [e0]), fun x => absurd (by trivial) x⟩
  · refine ob_rd (f1 := f_X11_grudges a0 a1) (f2 := f_X12_grudges a0 a1) hR (-1) ?_ ?_
    · unfold f_X11_grudges
      rw [h1.2.2.1, pe_g (n8 h1.1), pc_hasPerson_n h2.1.1 hT hx, pe_bo, if_pos rfl]
    · unfold f_X12_grudges
      rw [pe_let, pm_isPerson_n q1 hT hx, pe_bo, if_pos rfl, pw_some]
      exact ⟨by trivial, kp_thr⟩
def sumI (f : Nat → Int32) : Nat → Int32
  | 0 => 0
  | n + 1 => sumI f n + f n
theorem sumI_ext {f : Nat → Int32} {n : Nat} : ∀ {m : Nat}, n ≤ m → (∀ w, n ≤ w → w < m → f w = 0) → sumI f m = sumI f n
  | 0, h, _ => by rw [show n = 0 by omega]
  | m + 1, h, hf => by
    by_cases e : n = m + 1
    · rw [e]
    · show sumI f m + f m = _
      rw [hf m (by omega) (by omega), Int32.add_zero]
      exact sumI_ext (by omega) (fun w a b => hf w a (by omega))
theorem pc_coinsOfAll {m : mi_M} {i : Nat} {S : Nat → Int32} (h : cSt m i S) : f_X5_coinsOfAll i m = some (sumI (fun p => S (8 + p)) 6) := by
  unfold f_X5_coinsOfAll
  apply pw_eq
  rw [pw_bo]
  refine pl_for (fun k s => s = (sumI (fun p => S (8 + p)) k, n32 k)) 6 (by omega) rfl ?_
  rintro k s hk rfl
  unfold f_X5_coinsOfAll_B4
  simp (disch := omega) only [pw_if, pw_some, pw_g, pw_let, n32_Lle, lr_r, lr_l, n32_in, n32_cl, n32_al]
  refine ⟨fun hx => ?_, fun hx => ⟨by omega, by omega, ?_⟩⟩
  · have : k = 6 := by omega
    subst this
    unfold f_X5_coinsOfAll_K4
    rw [pw_some]
  · rw [h.2.2.1 k (by omega)]
    rfl
theorem pc_lampNights {m : mi_M} {i : Nat} {S : Nat → Int32} (h : cSt m i S) : f_X5_lampNights i m = some (sumI (fun p => S (2 + p)) 6) := by
  unfold f_X5_lampNights
  apply pw_eq
  rw [pw_bo]
  refine pl_for (fun k s => s = (sumI (fun p => S (2 + p)) k, n32 k)) 6 (by omega) rfl ?_
  rintro k s hk rfl
  unfold f_X5_lampNights_B4
  simp (disch := omega) only [pw_if, pw_some, pw_g, pw_let, n32_Lle, lr_r, lr_l, n32_in, n32_cl, n32_al]
  refine ⟨fun hx => ?_, fun hx => ⟨by omega, by omega, ?_⟩⟩
  · have : k = 6 := by omega
    subst this
    unfold f_X5_lampNights_K4
    rw [pw_some]
  · rw [h.2.1 k (by omega)]
    rfl
theorem pm_coinsOf {m : mi_M} {T : Nat → Nat} {S : Nat → Int32} (h : mTw m T) (hT : tOK T) (hS : mSt m 0 S) (hs : sOK T S) : f_X12_coinsOf m = some (sumI (fun p => S (8 + p)) 6) := by
  have h60 := hT.1.1
  unfold f_X12_coinsOf
  apply pw_eq
  rw [pw_bo]
  refine pl_for (fun k s => s = (sumI (fun p => S (8 + p)) k, n32 k)) (T 0) (by omega) rfl ?_
  rintro k s hk rfl
  unfold f_X12_coinsOf_B4
  rw [pm_people h]
  simp (disch := omega) only [pw_if, pw_some, pw_g, pw_let, pw_bo, n32_le, lr_r, lr_l, n32_la, n32_in, n32_cl, n32_al]
  refine ⟨fun hx => ?_, fun hx => ⟨by omega, by omega, ?_⟩⟩
  · have : k = T 0 := by omega
    subst this
    unfold f_X12_coinsOf_K4
    rw [pw_some]
    exact (sumI_ext h60 (fun w a b => (hs.2.1 w b a).2)).symm
  · have := hS (8 + k) (by omega)
    rw [Nat.zero_add] at this
    rw [this]
    rfl
theorem pm_overSet {m : mi_M} {T : Nat → Nat} {S : Nat → Int32} (h : mTw m T) (hT : tOK T) (hS : mSt m 0 S) (hs : sOK T S) : f_X12_overSet m = some (n32 (bs (fun w => S (22 + w) == 1) 8)) := by
  have h82 := hT.1.2.1
  unfold f_X12_overSet
  apply pw_eq
  rw [pw_bo]
  refine pl_for (fun k s => s = (n32 (bs (fun w => S (22 + w) == 1) k), n32 k)) (T 2) (by omega) rfl ?_
  rintro k s hk rfl
  unfold f_X12_overSet_B4 f_X12_overSet_J33
  rw [pm_wrongs h]
  simp (disch := omega) only [pw_if, pw_some, pw_g, pw_let, pw_bo, n32_le, lr_r, lr_l, n32_la, n32_in, n32_cl, n32_al]
  refine ⟨fun hx => ?_, fun hx => ⟨by omega, fun hy => ⟨by omega, ?_⟩, fun hy => ⟨by omega, ?_⟩⟩⟩
  · have : k = T 2 := by omega
    subst this
    unfold f_X12_overSet_K4
    rw [pw_some, bs_ext h82 (fun w a b => ?_)]
    rw [(hs.2.2.2.2.2 w b a).1]
    decide
  · have := hS (22 + k) (by omega)
    rw [Nat.zero_add] at this
    rw [this] at hy
    rw [bs_or (P := fun w => S (22 + w) == 1) (by omega) (by simp [hy])]
  · have := hS (22 + k) (by omega)
    rw [Nat.zero_add] at this
    rw [this] at hy
    rw [bs_no (P := fun w => S (22 + w) == 1) (by simp [hy]), Int32.or_zero]
theorem po_count : ob_count Rel := by
  rintro a0 mem ⟨T, cd, c, y, hR⟩
  obtain ⟨h1, h2, h3, ⟨n, t1, t2, t3, t4⟩, h5, ⟨yn, y1, y2, y3, y4⟩, ⟨S, hc, hm, hs⟩, ⟨sn, s1, s2, s3, s4⟩, ⟨un, nx, u1, u2, u3, u4, u5, u6⟩, h10⟩ := id hR
  have hT := h2.1.2.1
  have q1 : mTw (mi_wI mem 12 0 0 0) T := h3.1.1.mv kp_thr (fun p _ x => by omega)
  have q2 : mSt (mi_wI mem 12 0 0 0) 0 S := hm.mv kp_thr (fun p a b d => by omega)
  refine ob_rd (f1 := f_X11_count a0) (f2 := f_X12_count a0) hR (if a0 = 0 then n32 (T 0) else if a0 = 1 then n32 (T 1) else if a0 = 2 then n32 (T 2) else if a0 = 3 then n32 (T 3) else if a0 = 4 then S 0 else if a0 = 5 then n32 (bs (fun w => S (22 + w) == 1) 8) else if a0 = 6 then S 1 else if a0 = 7 then sumI (fun p => S (8 + p)) 6 else if a0 = 8 then n32 yn else if a0 = 9 then n32 sn else if a0 = 10 then n32 un else if a0 = 11 then n32 n else -1) ?_ ?_
  · unfold f_X11_count
    rw [h1.2.2.1, h1.2.2.2.2.1, pe_g (n8 h1.1), pe_g (n8 h1.1), pe_g (n8 h1.1), pe_g (n8 h1.1), pe_g (n10 h1.2.1), h2.1.1.1.1, h2.1.1.1.2.1, h2.1.1.1.2.2.2.2.1, h2.1.1.1.2.2.2.2.2, hc.1.1, hc.1.2.1, hc.1.2.2.1, pc_coinsOfAll hc, pe_bo, t2, y2, s2, u3]
    simp only [apply_ite (some : Int32 → Option Int32)]
  · unfold f_X12_count
    have e0 := q2 0 (by omega)
    have e1 := q2 1 (by omega)
    rw [Nat.zero_add] at e0 e1
    have z38 : (mi_wI mem 12 0 0 0).1 64 0 38 = n32 sn := by rw [rI_ne (by omega)]; exact s3
    have z61 : (mi_wI mem 12 0 0 0).1 61 0 0 = n32 yn := by rw [rI_ne (by omega)]; exact y3
    have z22 : (mi_wI mem 12 0 0 0).1 12 0 22 = n32 un := by rw [rI_ne (by omega)]; exact u5
    have z2 : (mi_wI mem 12 0 0 0).1 12 0 2 = n32 n := by rw [rI_ne (by omega)]; exact t3
    rw [pe_let]
    by_cases x0 : a0 = 0
    · subst x0
      simp only [if_false, if_true]
      exact pw_g.mpr ⟨(n32_in (k := 0) (by omega)).mpr (by omega), pw_some.mpr ⟨q1 0 (by omega) (by omega), kp_thr⟩⟩
    by_cases x1 : a0 = 1
    · subst x1
      simp only [show ¬ ((1 : Int32) = 0) by decide, if_false, if_true]
      exact pw_g.mpr ⟨(n32_in (k := 1) (by omega)).mpr (by omega), pw_some.mpr ⟨q1 1 (by omega) (by omega), kp_thr⟩⟩
    by_cases x2 : a0 = 2
    · subst x2
      simp only [show ¬ ((2 : Int32) = 0) by decide, show ¬ ((2 : Int32) = 1) by decide, if_false, if_true]
      exact pw_g.mpr ⟨(n32_in (k := 2) (by omega)).mpr (by omega), pw_some.mpr ⟨q1 2 (by omega) (by omega), kp_thr⟩⟩
    by_cases x3 : a0 = 3
    · subst x3
      simp only [show ¬ ((3 : Int32) = 0) by decide, show ¬ ((3 : Int32) = 1) by decide, show ¬ ((3 : Int32) = 2) by decide, if_false, if_true]
      exact pw_g.mpr ⟨(n32_in (k := 3) (by omega)).mpr (by omega), pw_some.mpr ⟨q1 3 (by omega) (by omega), kp_thr⟩⟩
    by_cases x4 : a0 = 4
    · subst x4
      simp only [show ¬ ((4 : Int32) = 0) by decide, show ¬ ((4 : Int32) = 1) by decide, show ¬ ((4 : Int32) = 2) by decide, show ¬ ((4 : Int32) = 3) by decide, if_false, if_true]
      exact pw_g.mpr ⟨(n32_in (k := 0) (by omega)).mpr (by omega), pw_some.mpr ⟨e0, kp_thr⟩⟩
    by_cases x5 : a0 = 5
    · subst x5
      simp only [show ¬ ((5 : Int32) = 0) by decide, show ¬ ((5 : Int32) = 1) by decide, show ¬ ((5 : Int32) = 2) by decide, show ¬ ((5 : Int32) = 3) by decide, show ¬ ((5 : Int32) = 4) by decide, if_false, if_true]
      rw [pm_overSet q1 hT q2 hs, pe_bo, pw_some]
      exact ⟨rfl, kp_thr⟩
    by_cases x6 : a0 = 6
    · subst x6
      simp only [show ¬ ((6 : Int32) = 0) by decide, show ¬ ((6 : Int32) = 1) by decide, show ¬ ((6 : Int32) = 2) by decide, show ¬ ((6 : Int32) = 3) by decide, show ¬ ((6 : Int32) = 4) by decide, show ¬ ((6 : Int32) = 5) by decide, if_false, if_true]
      exact pw_g.mpr ⟨(n32_in (k := 1) (by omega)).mpr (by omega), pw_some.mpr ⟨e1, kp_thr⟩⟩
    by_cases x7 : a0 = 7
    · subst x7
      simp only [show ¬ ((7 : Int32) = 0) by decide, show ¬ ((7 : Int32) = 1) by decide, show ¬ ((7 : Int32) = 2) by decide, show ¬ ((7 : Int32) = 3) by decide, show ¬ ((7 : Int32) = 4) by decide, show ¬ ((7 : Int32) = 5) by decide, show ¬ ((7 : Int32) = 6) by decide, if_false, if_true]
      rw [pm_coinsOf q1 hT q2 hs, pe_bo, pw_some]
      exact ⟨rfl, kp_thr⟩
    by_cases x8 : a0 = 8
    · subst x8
      simp only [show ¬ ((8 : Int32) = 0) by decide, show ¬ ((8 : Int32) = 1) by decide, show ¬ ((8 : Int32) = 2) by decide, show ¬ ((8 : Int32) = 3) by decide, show ¬ ((8 : Int32) = 4) by decide, show ¬ ((8 : Int32) = 5) by decide, show ¬ ((8 : Int32) = 6) by decide, show ¬ ((8 : Int32) = 7) by decide, if_false, if_true]
      exact pw_g.mpr ⟨(n32_in (k := 0) (by omega)).mpr (by omega), pw_some.mpr ⟨z61, kp_thr⟩⟩
    by_cases x9 : a0 = 9
    · subst x9
      simp only [show ¬ ((9 : Int32) = 0) by decide, show ¬ ((9 : Int32) = 1) by decide, show ¬ ((9 : Int32) = 2) by decide, show ¬ ((9 : Int32) = 3) by decide, show ¬ ((9 : Int32) = 4) by decide, show ¬ ((9 : Int32) = 5) by decide, show ¬ ((9 : Int32) = 6) by decide, show ¬ ((9 : Int32) = 7) by decide, show ¬ ((9 : Int32) = 8) by decide, if_false, if_true]
      exact pw_g.mpr ⟨(n32_in (k := 38) (by omega)).mpr (by omega), pw_some.mpr ⟨z38, kp_thr⟩⟩
    by_cases x10 : a0 = 10
    · subst x10
      simp only [show ¬ ((10 : Int32) = 0) by decide, show ¬ ((10 : Int32) = 1) by decide, show ¬ ((10 : Int32) = 2) by decide, show ¬ ((10 : Int32) = 3) by decide, show ¬ ((10 : Int32) = 4) by decide, show ¬ ((10 : Int32) = 5) by decide, show ¬ ((10 : Int32) = 6) by decide, show ¬ ((10 : Int32) = 7) by decide, show ¬ ((10 : Int32) = 8) by decide, show ¬ ((10 : Int32) = 9) by decide, if_false, if_true]
      rw [pw_some]
      exact ⟨z22, kp_thr⟩
    by_cases x11 : a0 = 11
    · subst x11
      simp only [show ¬ ((11 : Int32) = 0) by decide, show ¬ ((11 : Int32) = 1) by decide, show ¬ ((11 : Int32) = 2) by decide, show ¬ ((11 : Int32) = 3) by decide, show ¬ ((11 : Int32) = 4) by decide, show ¬ ((11 : Int32) = 5) by decide, show ¬ ((11 : Int32) = 6) by decide, show ¬ ((11 : Int32) = 7) by decide, show ¬ ((11 : Int32) = 8) by decide, show ¬ ((11 : Int32) = 9) by decide, show ¬ ((11 : Int32) = 10) by decide, if_false, if_true]
      rw [pw_some]
      exact ⟨z2, kp_thr⟩
    simp only [x0, x1, x2, x3, x4, x5, x6, x7, x8, x9, x10, x11, if_false, pw_some]
    exact ⟨by trivial, kp_thr⟩
