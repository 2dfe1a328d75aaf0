/-! ===== asking, saying, giving: the developers' ===== -/
theorem bs_set {P : Nat → Bool} {n w : Nat} (hn : n < 31) (hw : w < n) : n32 (bs P n) ||| (1 : Int32) <<< (n32 w &&& 31) = n32 (bs (fun x => P x || decide (x = w)) n) := by
  rw [show (1 : Int32) <<< (n32 w &&& 31) = bt w from rfl, bt_eq w (by omega), n32_or]
  congr 1
  apply Nat.eq_of_testBit_eq
  intro i
  rw [Nat.testBit_or, bs_tb, bs_tb, Nat.testBit_two_pow]
  by_cases hi : i = w
  · subst hi; simp [hw]
  · have : ¬ w = i := fun e => hi e.symm
    simp [hi, this]
theorem fu_eq {g : Nat → Int32} {h : Nat} {v : Int32} : fu g h v h = v := if_pos rfl
theorem fu_ne {g : Nat → Int32} {h x : Nat} {v : Int32} (e : x ≠ h) : fu g h v x = g x := if_neg e
theorem s6_mv {C : Nat → Nat} {i j g : Nat} (hi : i < 6) (hj : j < 6) (hij : i ≠ j) (hg : g ≤ C i) : s6 (fun p => if p = j then C p + g else if p = i then C p - g else C p) = s6 C := by
  unfold s6
  have a : i = 0 ∨ i = 1 ∨ i = 2 ∨ i = 3 ∨ i = 4 ∨ i = 5 := by omega
  have b : j = 0 ∨ j = 1 ∨ j = 2 ∨ j = 3 ∨ j = 4 ∨ j = 5 := by omega
  rcases a with rfl | rfl | rfl | rfl | rfl | rfl <;> rcases b with rfl | rfl | rfl | rfl | rfl | rfl <;> first | exact absurd rfl hij | (simp; omega)
theorem s6_le {C : Nat → Nat} {p : Nat} (hp : p < 6) : C p ≤ s6 C := by
  unfold s6
  have a : p = 0 ∨ p = 1 ∨ p = 2 ∨ p = 3 ∨ p = 4 ∨ p = 5 := by omega
  rcases a with rfl | rfl | rfl | rfl | rfl | rfl <;> omega
theorem burnA_n {T : Nat → Nat} {cd : Nat → List Int32} {w : Nat} {sore night : Int32} : ∃ k, k ≤ 60 ∧ burnA T cd w sore night = n32 k := by
  obtain ⟨k, hk, e⟩ := clA_n (n := 30) (by omega) (lwA T cd 2 w sore night)
  have e : clA 0 30 (lwA T cd 2 w sore night) = n32 k := e
  unfold burnA
  rw [e]
  split
  · exact ⟨2 * k, by omega, n32_lm k 2⟩
  · exact ⟨k, by omega, rfl⟩
theorem aSay_ok {T : Nat → Nat} {cd : Nat → List Int32} {S : Nat → Int32} {w : Nat} (hT : tOK T) (h : sOK T S) (hw : w < T 2) : sOK T (aSay T cd S w) := by
  have h8 := hT.1.2.1
  obtain ⟨h1, h2, ⟨C, hC1, hC2⟩, h4, h5, h6⟩ := h
  unfold aSay
  refine ⟨fun p hp => ?_, fun p hp hp2 => ?_, ⟨C, hC1, fun p hp => ?_⟩, fun x hx => ?_, fun x hx => ?_, fun x hx hx2 => ?_⟩
  · rw [fu_ne (by omega), fu_ne (by omega)]; exact h1 p hp
  · rw [fu_ne (by omega), fu_ne (by omega), fu_ne (by omega), fu_ne (by omega)]; exact h2 p hp hp2
  · rw [fu_ne (by omega), fu_ne (by omega)]; exact hC2 p hp
  · rw [fu_ne (by omega)]
    by_cases e : x = w
    · subst e
      rw [fu_eq]
      unfold wordsA
      exact clA_n (n := 99) (by omega) _
    · rw [fu_ne (by omega)]; exact h4 x hx
  · rw [fu_ne (by omega), fu_ne (by omega)]
    refine ⟨(h5 x hx).1, ?_⟩
    by_cases e : x = w
    · subst e
      rw [fu_eq]; exact Or.inr rfl
    · rw [fu_ne (by omega), fu_ne (by omega)]; exact (h5 x hx).2
  · rw [fu_ne (by omega), fu_ne (by omega), fu_ne (by omega), fu_ne (by omega)]; exact h6 x hx hx2
theorem aGive_ok {T : Nat → Nat} {S : Nat → Int32} {w g : Nat} (hT : tOK T) (h : sOK T S) (hw : w < T 2) (hg : g ≤ 99) (hc : n32 g ≤ S (8 + byA T w)) : sOK T (aGive T S w (n32 g)) := by
  have h8 := hT.1.2.1
  have h60 := hT.1.1
  obtain ⟨q1, q2, q3, q4, q5⟩ := hT.2.2.1 w hw
  obtain ⟨h1, h2, ⟨C, hC1, hC2⟩, h4, h5, h6⟩ := h
  unfold aGive
  have lb := s6_le (C := C) (p := byA T w) (by omega)
  have lt := s6_le (C := C) (p := toA T w) (by omega)
  rw [hC2 _ (by omega), n32_le (by omega) (by omega)] at hc
  refine ⟨fun p hp => ?_, fun p hp hp2 => ?_, ⟨_, by rw [s6_mv (C := C) (i := byA T w) (j := toA T w) (g := g) (by omega) (by omega) q3 hc]; exact hC1, fun p hp => ?_⟩, fun x hx => ?_, fun x hx => ?_, fun x hx hx2 => ?_⟩
  · rw [fu_ne (by omega), fu_ne (by omega), fu_ne (by omega)]; exact h1 p hp
  · rw [fu_ne (by omega), fu_ne (by omega), fu_ne (by omega), fu_ne (by omega), fu_ne (by omega), fu_ne (by omega)]; exact h2 p hp hp2
  · rw [fu_ne (by omega)]
    by_cases e : p = toA T w
    · subst e
      rw [fu_eq, if_pos rfl, hC2 _ hp, n32_add]
    · rw [fu_ne (by omega), if_neg e]
      by_cases e2 : p = byA T w
      · subst e2
        rw [fu_eq, if_pos rfl, hC2 _ hp, n32_sub hc]
      · rw [fu_ne (by omega), if_neg e2]; exact hC2 p hp
  · by_cases e : x = w
    · subst e
      rw [fu_eq]
      exact clA_n (n := 99) (by omega) _
    · rw [fu_ne (by omega), fu_ne (by omega), fu_ne (by omega)]; exact h4 x hx
  · rw [fu_ne (by omega), fu_ne (by omega), fu_ne (by omega), fu_ne (by omega), fu_ne (by omega), fu_ne (by omega)]; exact h5 x hx
  · rw [fu_ne (by omega), fu_ne (by omega), fu_ne (by omega), fu_ne (by omega), fu_ne (by omega), fu_ne (by omega)]; exact h6 x hx hx2
theorem aAsk_ok {T : Nat → Nat} {cd : Nat → List Int32} {S : Nat → Int32} {w : Nat} {more : Int32} (hT : tOK T) (h : sOK T S) (hw : w < T 2) : sOK T (aAsk T cd S w more) := by
  have h8 := hT.1.2.1
  have h60 := hT.1.1
  obtain ⟨q1, q2, q3, q4, q5⟩ := hT.2.2.1 w hw
  obtain ⟨h1, h2, ⟨C, hC1, hC2⟩, h4, h5, h6⟩ := h
  unfold aAsk
  split
  · refine ⟨fun p hp => ?_, fun p hp hp2 => ?_, ⟨C, hC1, fun p hp => ?_⟩, fun x hx => ?_, fun x hx => ?_, fun x hx hx2 => ?_⟩
    · by_cases e : p = toA T w
      · subst e
        rw [fu_eq]
        exact clA_n (n := 99) (by omega) _
      · rw [fu_ne (by omega), fu_ne (by omega)]; exact h1 p hp
    · rw [fu_ne (by omega), fu_ne (by omega), fu_ne (by omega), fu_ne (by omega)]; exact h2 p hp hp2
    · rw [fu_ne (by omega), fu_ne (by omega)]; exact hC2 p hp
    · rw [fu_ne (by omega), fu_ne (by omega)]; exact h4 x hx
    · rw [fu_ne (x := 30 + x) (by omega), fu_ne (x := 30 + x) (by omega), fu_ne (x := 22 + x) (by omega)]
      refine ⟨?_, (h5 x hx).2⟩
      by_cases e : x = w
      · subst e
        rw [fu_eq]; exact Or.inr rfl
      · rw [fu_ne (by omega)]; exact (h5 x hx).1
    · rw [fu_ne (by omega), fu_ne (by omega), fu_ne (by omega), fu_ne (by omega)]; exact h6 x hx hx2
  · refine ⟨fun p hp => ?_, fun p hp hp2 => ?_, ⟨C, hC1, fun p hp => ?_⟩, fun x hx => ?_, fun x hx => ?_, fun x hx hx2 => ?_⟩
    · rw [fu_ne (by omega)]; exact h1 p hp
    · rw [fu_ne (by omega), fu_ne (by omega)]; exact h2 p hp hp2
    · rw [fu_ne (by omega)]; exact hC2 p hp
    · by_cases e : x = w
      · subst e
        rw [fu_eq]
        exact clA_n (n := 99) (by omega) _
      · rw [fu_ne (by omega)]; exact h4 x hx
    · rw [fu_ne (by omega), fu_ne (by omega)]; exact h5 x hx
    · rw [fu_ne (by omega), fu_ne (by omega)]; exact h6 x hx hx2
theorem pc_beg {c i w k : Nat} {m : mi_M} {T : Nat → Nat} {cd : Nat → List Int32} {S : Nat → Int32} (h : cT m c T cd) (hS : cSt m i S) (hs : sOK T S) (hw : w < T 2) (hk : k ≤ 99) (h0 : S (22 + w) = 0) : wo (f_X5_beg i c (n32 w) (n32 k) m) (fun m' => cSt m' i (aAsk T cd S w (n32 k)) ∧ cT m' c T cd ∧ kp (fun k j _ => pcE c k j ∨ pcS i k j) m m') := by
  have hT := h.1.2.1
  have h8 := hT.1.2.1
  have h60 := hT.1.1
  obtain ⟨q1, q2, q3, q4, q5⟩ := hT.2.2.1 w hw
  unfold f_X5_beg f_X5_beg_J90
  rw [pc_isRipe h.1.1 hT hS hs hw, pe_bo]
  by_cases hr : S (14 + w) ≤ n32 (barA T w)
  · rw [if_pos (show S (22 + w) = 0 ∧ S (14 + w) ≤ n32 (barA T w) from ⟨h0, hr⟩), if_neg (show ¬ (1 : Int32) = 0 by decide)]
    simp (disch := omega) only [pw_g, pw_let, pw_b, pw_some, n32_in, n32_cl]
    refine ⟨by omega, ?_⟩
    rw [hS.2.2.2 w (by omega), hS.1.1]
    refine pw_mono (pc_burns h hw) ?_
    rintro ⟨v, m1⟩ ⟨g1, g2, g3⟩
    simp only at g1 g2 g3
    subst g1
    have hS1 : cSt m1 i S := hS.mv g3 (fun k j p a b d => by omega)
    obtain ⟨bn, hbn, eb⟩ := burnA_n (T := T) (cd := cd) (w := w) (sore := S (14 + w)) (night := S 0)
    obtain ⟨ln, hln, el⟩ := hs.1 (toA T w) (by omega)
    simp (disch := omega) only [(g2.1.1.2.2.1 w hw).2.1, n32_in, n32_cl, hS1.2.1 (toA T w) (show toA T w < 6 by omega)]
    refine ⟨by omega, by omega, by omega, ?_, ?_, ?_⟩
    · unfold aAsk
      rw [if_pos hr]
      refine ⟨⟨?_, ?_, ?_, ?_⟩, fun p hp => ?_, fun p hp => ?_, fun x hx => ?_⟩
      · rw [rI_ne (by omega), rI_ne (by omega), fu_ne (by omega), fu_ne (by omega)]; exact hS1.1.1
      · rw [rI_ne (by omega), rI_ne (by omega), fu_ne (by omega), fu_ne (by omega)]; exact hS1.1.2.1
      · rw [rI_eq, rI_ne (by omega), hS1.1.2.2.1, bs_set (by omega) (by omega)]
        congr 1
        refine bs_congr (fun x hx => ?_)
        rw [fu_ne (by omega)]
        by_cases e : x = w
        · subst e
          rw [fu_eq]; simp
        · rw [fu_ne (by omega)]; simp [e]
      · rw [rI_ne (by omega), rI_ne (by omega), hS1.1.2.2.2]
        congr 1
        refine bs_congr (fun x hx => ?_)
        rw [fu_ne (by omega), fu_ne (by omega)]
      · rw [rI_ne (by omega), rI]
        by_cases e : p = toA T w
        · subst e
          rw [if_pos ⟨rfl, rfl, rfl⟩, fu_eq, el, eb, n32_add, min99 (by omega) (by omega), n32_add, n32_add, n32_add, Nat.add_assoc]
        · rw [if_neg (fun x => e x.2.2), fu_ne (by omega), fu_ne (by omega)]; exact hS1.2.1 p hp
      · rw [rI_ne (by omega), rI_ne (by omega), fu_ne (by omega), fu_ne (by omega)]; exact hS1.2.2.1 p hp
      · rw [rI_ne (by omega), rI_ne (by omega), fu_ne (by omega), fu_ne (by omega)]; exact hS1.2.2.2 x hx
    · exact g2.mv (((kp.rf (P := fun k j p => (k = 35 ∨ k = 5) ∧ j = i)).wI ⟨Or.inl rfl, rfl⟩).wI ⟨Or.inr rfl, rfl⟩) (fun k j p a b => by unfold cTk at b; omega)
    · exact ((g3.mo (fun k j p a => by omega)).wI (Or.inr ⟨by omega, rfl⟩)).wI (Or.inr ⟨by omega, rfl⟩)
  · rw [if_neg (show ¬ (S (22 + w) = 0 ∧ S (14 + w) ≤ n32 (barA T w)) from fun x => hr x.2), if_pos (show (0 : Int32) = 0 from rfl)]
    obtain ⟨n, hn, en⟩ := hs.2.2.2.1 w (by omega)
    have er : f_X8_soreBehindRefusal c (n32 w) (m.1 34 i (n32 w).toNatClampNeg) m = some (clA 0 99 (S (14 + w) + (if kdA T (toA T w) = 1 then 2 else 1))) := by
      rw [n32_cl (by omega), hS.2.2.2 w (by omega), en]
      exact pc_refusal h.1.1 hT hw hn
    rw [er]
    simp (disch := omega) only [pw_g, pw_let, pw_bo, pw_some, n32_in, n32_cl]
    refine ⟨by omega, by omega, ?_, ?_, ?_⟩
    · unfold aAsk
      rw [if_neg hr]
      refine ⟨⟨?_, ?_, ?_, ?_⟩, fun p hp => ?_, fun p hp => ?_, fun x hx => ?_⟩
      · rw [rI_ne (by omega), fu_ne (by omega)]; exact hS.1.1
      · rw [rI_ne (by omega), fu_ne (by omega)]; exact hS.1.2.1
      · rw [rI_ne (by omega), hS.1.2.2.1]
        congr 1
        refine bs_congr (fun x hx => ?_)
        rw [fu_ne (by omega)]
      · rw [rI_ne (by omega), hS.1.2.2.2]
        congr 1
        refine bs_congr (fun x hx => ?_)
        rw [fu_ne (by omega)]
      · rw [rI_ne (by omega), fu_ne (by omega)]; exact hS.2.1 p hp
      · rw [rI_ne (by omega), fu_ne (by omega)]; exact hS.2.2.1 p hp
      · rw [rI]
        by_cases e : x = w
        · subst e
          rw [if_pos ⟨rfl, rfl, rfl⟩, fu_eq]
        · rw [if_neg (fun y => e y.2.2), fu_ne (by omega)]; exact hS.2.2.2 x hx
    · exact h.mv ((kp.rf (P := fun k j p => k = 34 ∧ j = i)).wI ⟨rfl, rfl⟩) (fun k j p a b => by unfold cTk at b; omega)
    · exact kp.rf.wI (Or.inr ⟨by omega, rfl⟩)
theorem pc_may0 {m : mi_M} {i c w : Nat} {S : Nat → Int32} {T : Nat → Nat} {g : Int32} (hS : cSt m i S) (hs : sOK T S) (hw : w < 8) : f_X5_may i c 0 (n32 w) g m = some (if S (22 + w) = 0 ∧ S (30 + w) = 0 then 1 else 0) := by
  unfold f_X5_may f_X5_may_J48 f_X5_may_J49
  rw [if_pos rfl, pc_isForgiven hS hs hw, pe_bo, pc_isSaid hS hs hw, pe_bo, pe_g (by decide), pe_g (by decide)]
  by_cases a : S (22 + w) = 0
  · by_cases b : S (30 + w) = 0
    · rw [if_pos a, if_pos b, if_pos ⟨a, b⟩]
    · rw [if_pos a, if_neg b, if_neg (fun x => b x.2)]
  · rw [if_neg a, if_neg (fun x => a x.1)]
theorem pc_may1 {m : mi_M} {i c w : Nat} {S : Nat → Int32} {T : Nat → Nat} {g : Int32} (h : cTw m c T) (hT : tOK T) (hS : cSt m i S) (hs : sOK T S) (hw : w < T 2) : f_X5_may i c 1 (n32 w) g m = some (if S (22 + w) = 0 ∧ g ≤ S (8 + byA T w) then 1 else 0) := by
  have h8 := hT.1.2.1
  have h60 := hT.1.1
  obtain ⟨q1, q2, q3, q4, q5⟩ := hT.2.2.1 w hw
  unfold f_X5_may f_X5_may_J78 f_X5_may_J79
  rw [if_neg (by decide), if_pos rfl, pc_isForgiven hS hs (by omega), pe_bo, pe_g ((n32_in (by omega)).mpr (by omega)), n32_cl (by omega), (h.2.2.1 w hw).1, pe_g ((n32_in (by omega)).mpr (by omega)), n32_cl (by omega), hS.2.2.1 _ (by omega), pe_g (by decide), pe_g (by decide)]
  by_cases a : S (22 + w) = 0
  · by_cases b : g ≤ S (8 + byA T w)
    · rw [if_pos a, if_neg (i32_nlt.mpr b), if_pos ⟨a, b⟩]
    · rw [if_pos a, if_pos (i32_nle.mp b), if_neg (fun x => b x.2)]
  · rw [if_neg a, if_neg (fun x => a x.1)]
theorem pc_may2 {m : mi_M} {i c w : Nat} {S : Nat → Int32} {T : Nat → Nat} {g : Int32} (hS : cSt m i S) (hs : sOK T S) (hw : w < 8) : f_X5_may i c 2 (n32 w) g m = some (if S (22 + w) = 0 then 1 else 0) := by
  unfold f_X5_may f_X5_may_J93
  rw [if_neg (by decide), if_neg (by decide), if_pos rfl, pc_isForgiven hS hs hw, pe_bo, pe_g (by decide), pe_g (by decide)]
  by_cases a : S (22 + w) = 0
  · rw [if_pos a, if_pos a]
  · rw [if_neg a, if_neg a]
theorem pc_may3 {m : mi_M} {i c : Nat} {w g : Int32} : f_X5_may i c 3 w g m = some 1 := by
  unfold f_X5_may
  rw [if_neg (by decide), if_neg (by decide), if_neg (by decide), pe_g (by decide)]
theorem pc_act0 {c i w : Nat} {m : mi_M} {T : Nat → Nat} {cd : Nat → List Int32} {S : Nat → Int32} {g : Int32} (h : cT m c T cd) (hS : cSt m i S) (hs : sOK T S) (hw : w < T 2) : wo (f_X5_act i c 0 (n32 w) g m) (fun m' => cSt m' i (aSay T cd S w) ∧ cT m' c T cd ∧ kp (fun k j _ => pcE c k j ∨ pcS i k j) m m') := by
  have hT := h.1.2.1
  have h8 := hT.1.2.1
  unfold f_X5_act f_X5_act_J133
  rw [if_pos rfl]
  simp (disch := omega) only [pw_g, pw_let, pw_b, pw_some, n32_in, n32_cl]
  obtain ⟨n, hn, en⟩ := hs.2.2.2.1 w (by omega)
  rw [hS.2.2.2 w (by omega), hS.1.1, en]
  refine ⟨by omega, pw_mono (pc_words h hw hn) ?_⟩
  rintro ⟨v, m1⟩ ⟨g1, g2, g3⟩
  simp only at g1 g2 g3
  subst g1
  have hS1 : cSt m1 i S := hS.mv g3 (fun k j p a b d => by omega)
  refine ⟨by omega, ?_, ?_, ?_⟩
  · unfold aSay
    rw [en]
    refine ⟨⟨?_, ?_, ?_, ?_⟩, fun p hp => ?_, fun p hp => ?_, fun x hx => ?_⟩
    · rw [rI_ne (by omega), rI_ne (by omega), fu_ne (by omega), fu_ne (by omega)]; exact hS1.1.1
    · rw [rI_ne (by omega), rI_ne (by omega), fu_ne (by omega), fu_ne (by omega)]; exact hS1.1.2.1
    · rw [rI_ne (by omega), rI_ne (by omega), hS1.1.2.2.1]
      congr 1
      refine bs_congr (fun x hx => ?_)
      rw [fu_ne (by omega), fu_ne (by omega)]
    · rw [rI_eq, rI_ne (by omega), hS1.1.2.2.2, bs_set (by omega) (by omega)]
      congr 1
      refine bs_congr (fun x hx => ?_)
      by_cases e : x = w
      · subst e
        rw [fu_eq]; simp
      · rw [fu_ne (by omega), fu_ne (by omega)]; simp [e]
    · rw [rI_ne (by omega), rI_ne (by omega), fu_ne (by omega), fu_ne (by omega)]; exact hS1.2.1 p hp
    · rw [rI_ne (by omega), rI_ne (by omega), fu_ne (by omega), fu_ne (by omega)]; exact hS1.2.2.1 p hp
    · rw [rI_ne (by omega), rI, fu_ne (by omega)]
      by_cases e : x = w
      · subst e
        rw [if_pos ⟨rfl, rfl, rfl⟩, fu_eq]
      · rw [if_neg (fun y => e y.2.2), fu_ne (by omega)]; exact hS1.2.2.2 x hx
  · exact g2.mv (((kp.rf (P := fun k j p => (k = 34 ∨ k = 5) ∧ j = i)).wI ⟨Or.inl rfl, rfl⟩).wI ⟨Or.inr rfl, rfl⟩) (fun k j p a b => by unfold cTk at b; omega)
  · exact ((g3.mo (fun k j p a => by omega)).wI (Or.inr ⟨by omega, rfl⟩)).wI (Or.inr ⟨by omega, rfl⟩)
theorem pc_act1 {c i w g : Nat} {m : mi_M} {T : Nat → Nat} {cd : Nat → List Int32} {S : Nat → Int32} (h : cT m c T cd) (hS : cSt m i S) (hs : sOK T S) (hw : w < T 2) (hg : g ≤ 99) : wo (f_X5_act i c 1 (n32 w) (n32 g) m) (fun m' => cSt m' i (aGive T S w (n32 g)) ∧ cT m' c T cd ∧ kp (fun k j _ => pcE c k j ∨ pcS i k j) m m') := by
  have hT := h.1.2.1
  have h8 := hT.1.2.1
  have h60 := hT.1.1
  obtain ⟨q1, q2, q3, q4, q5⟩ := hT.2.2.1 w hw
  unfold f_X5_act f_X5_act_J133
  rw [if_neg (by decide), if_pos rfl]
  obtain ⟨n, hn, en⟩ := hs.2.2.2.1 w (by omega)
  have h41 := (h.1.1.2.2.1 w hw).1
  have h42 := (h.1.1.2.2.1 w hw).2.1
  simp (disch := omega) only [pw_g, pw_let, pw_bo, pw_some, n32_in, n32_cl, h41, h42, rI_ne, hS.2.2.1 (byA T w) (show byA T w < 6 by omega), hS.2.2.1 (toA T w) (show toA T w < 6 by omega), hS.2.2.2 w (show w < 8 by omega)]
  refine ⟨by omega, by omega, by omega, by omega, by omega, by omega, by omega, by omega, ?_, ?_, ?_⟩
  · unfold aGive
    refine ⟨⟨?_, ?_, ?_, ?_⟩, fun p hp => ?_, fun p hp => ?_, fun x hx => ?_⟩
    · rw [rI_ne (by omega), rI_ne (by omega), rI_ne (by omega), fu_ne (by omega), fu_ne (by omega), fu_ne (by omega)]; exact hS.1.1
    · rw [rI_ne (by omega), rI_ne (by omega), rI_ne (by omega), fu_ne (by omega), fu_ne (by omega), fu_ne (by omega)]; exact hS.1.2.1
    · rw [rI_ne (by omega), rI_ne (by omega), rI_ne (by omega), hS.1.2.2.1]
      congr 1
      refine bs_congr (fun x hx => ?_)
      rw [fu_ne (by omega), fu_ne (by omega), fu_ne (by omega)]
    · rw [rI_ne (by omega), rI_ne (by omega), rI_ne (by omega), hS.1.2.2.2]
      congr 1
      refine bs_congr (fun x hx => ?_)
      rw [fu_ne (by omega), fu_ne (by omega), fu_ne (by omega)]
    · rw [rI_ne (by omega), rI_ne (by omega), rI_ne (by omega), fu_ne (by omega), fu_ne (by omega), fu_ne (by omega)]; exact hS.2.1 p hp
    · rw [rI_ne (by omega), fu_ne (by omega), rI]
      by_cases e : p = toA T w
      · subst e
        rw [if_pos ⟨rfl, rfl, rfl⟩, fu_eq]
      · rw [if_neg (fun y => e y.2.2), fu_ne (by omega), rI]
        by_cases e2 : p = byA T w
        · subst e2
          rw [if_pos ⟨rfl, rfl, rfl⟩, fu_eq]
        · rw [if_neg (fun y => e2 y.2.2), fu_ne (by omega)]; exact hS.2.2.1 p hp
    · rw [rI]
      by_cases e : x = w
      · subst e
        rw [if_pos ⟨rfl, rfl, rfl⟩, fu_eq, en, max0 hn (n32_ge0 (by omega)) ((n32_leL (by omega) (by omega)).mpr hg)]
      · rw [if_neg (fun y => e y.2.2), fu_ne (by omega), fu_ne (by omega), fu_ne (by omega), rI_ne (by omega), rI_ne (by omega)]; exact hS.2.2.2 x hx
  · exact h.mv ((((kp.rf (P := fun k j p => (k = 34 ∨ k = 36) ∧ j = i)).wI ⟨Or.inr rfl, rfl⟩).wI ⟨Or.inr rfl, rfl⟩).wI ⟨Or.inl rfl, rfl⟩) (fun k j p a b => by unfold cTk at b; omega)
  · exact ((kp.rf.wI (Or.inr ⟨by omega, rfl⟩)).wI (Or.inr ⟨by omega, rfl⟩)).wI (Or.inr ⟨by omega, rfl⟩)
theorem pc_act2 {c i w : Nat} {m : mi_M} {T : Nat → Nat} {cd : Nat → List Int32} {S : Nat → Int32} {g : Int32} (h : cT m c T cd) (hS : cSt m i S) (hs : sOK T S) (hw : w < T 2) (h0 : S (22 + w) = 0) : wo (f_X5_act i c 2 (n32 w) g m) (fun m' => cSt m' i (aAsk T cd S w 0) ∧ cT m' c T cd ∧ kp (fun k j _ => pcE c k j ∨ pcS i k j) m m') := by
  unfold f_X5_act f_X5_act_J133
  rw [if_neg (by decide), if_neg (by decide), if_pos rfl]
  simp only [pw_bo, pw_some]
  exact pc_beg (k := 0) h hS hs hw (by omega) h0
theorem pc_act3 {c i : Nat} {m : mi_M} {T : Nat → Nat} {cd : Nat → List Int32} {S : Nat → Int32} {w g : Int32} (h : cT m c T cd) (hS : cSt m i S) (hs : sOK T S) : wo (f_X5_act i c 3 w g m) (fun m' => cSt m' i (aSleep T cd S) ∧ cT m' c T cd ∧ kp (fun k j _ => pcE c k j ∨ pcS i k j) m m') := by
  unfold f_X5_act f_X5_act_J133
  rw [if_neg (by decide), if_neg (by decide), if_neg (by decide)]
  simp only [pw_bo, pw_some]
  exact pc_sleep h hS hs
