theorem pm_ylines {m : mi_M} {L : List Nat} {c W : Nat} (hL : tkN L c) (hW : W ≤ 8) (h : rS m L c 0 0) (hw : m.1 56 0 2 = n32 W) : wo (mi_lp f_X12_year_B11 mi_fu ((0 : Int32), m)) (fun z => ∃ n, rS z.2 L c n (yls L W 1001 0 Y0).1 ∧ ((yls L W 1001 0 Y0).1 = 0 → z.1 = n32 (yls L W 1001 0 Y0).2.1 ∧ mY z.2 (yls L W 1001 0 Y0).2 ∧ yOK W (yls L W 1001 0 Y0).2) ∧ kp (fun k i p => kYm k i p) m z.2) := by
  have hc := hL.c
  generalize hR : yls L W 1001 0 Y0 = R
  refine pl_for (fun k z => kp (fun k i p => kYm k i p) m z.2 ∧ ((∃ n Y, z.1 = n32 Y.1 ∧ rS z.2 L c n 0 ∧ mY z.2 Y ∧ yOK W Y ∧ k ≤ n ∧ yls L W (1001 - k) n Y = R) ∨ (∃ n, rS z.2 L c n R.1 ∧ R.1 ≠ 0))) 1001 (by omega) ⟨kp.rf, Or.inl ⟨0, Y0, rfl, h, fun k hk => absurd hk (Nat.not_lt_zero _), Y0_ok, by omega, hR⟩⟩ ?_
  rintro k ⟨l, m1⟩ hk ⟨b1, b2⟩
  simp only at b1 b2
  rcases b2 with ⟨n, Y, e1, g1, g2, g3, g4, g5⟩ | ⟨n, g1, g2⟩
  · subst e1
    have ms := mS_k _ (kD_lt L n)
    obtain ⟨in1, in2⟩ := g1.ix hL
    have nc := g1.2.2.1
    rw [show 1001 - k = (1000 - k) + 1 by omega, yls_s] at g5
    by_cases z : kD L n = 0
    · rw [if_pos z] at g5
      subst g5
      unfold f_X12_year_B11
      dsimp only
      rw [if_pos (g1.f0.1.mpr rfl), pw_g, in2, g1.s, if_pos (ms.2.2.2.mpr z), pw_some, lr_r]
      exact ⟨in1, n, g1, fun _ => ⟨rfl, g2, g3⟩, b1⟩
    · rw [if_neg z] at g5
      refine pw_mono (pm_yearLine hL hW g1 (by rw [b1.1 56 0 2 (by omega)]; exact hw) g2 g3.1 z) ?_
      rintro x ⟨r, rfl, r1, r2, r3⟩
      rw [lr_l]
      refine ⟨by omega, b1.tr r3, ?_⟩
      obtain ⟨v1, v2⟩ := yl_b (W := W) (Y := Y) hL nc
      by_cases q : (yl L W n Y).1.2 = 0
      · rw [if_pos q] at g5
        have := v2 q
        rw [q] at r1
        exact Or.inl ⟨_, _, (r2 q).1, r1, (r2 q).2, yl_ok g3 q, by omega, by rw [show 1001 - (k + 1) = 1000 - k by omega]; exact g5⟩
      · rw [if_neg q] at g5
        subst g5
        exact Or.inr ⟨_, r1, q⟩
  · unfold f_X12_year_B11
    dsimp only
    rw [if_neg (fun x => g2 (g1.f0.1.mp x)), pw_some, lr_r]
    exact ⟨n, g1, fun x => absurd x g2, b1⟩
theorem pm_copyY {m : mi_M} {j : Nat} (hj : j ≤ 30) : wo (mi_lp (f_X12_year_B177 (n32 j)) mi_fu ((0 : Int32), m)) (fun m' => (∀ q, q < 3 * j → m'.1 61 0 (1 + q) = m.1 61 0 (100 + q)) ∧ kp (fun k i p => k = 61 ∧ i = 0 ∧ 1 ≤ p ∧ p < 100) m m') := by
  refine pl_for (fun k z => z.1 = n32 k ∧ (∀ q, q < k → z.2.1 61 0 (1 + q) = m.1 61 0 (100 + q)) ∧ kp (fun k i p => k = 61 ∧ i = 0 ∧ 1 ≤ p ∧ p < 100) m z.2) (3 * j) (by omega) ⟨rfl, fun q hq => absurd hq (by omega), kp.rf⟩ ?_
  rintro k ⟨l, m1⟩ hk ⟨b1, b2, b3⟩
  simp only at b1 b2 b3
  subst b1
  unfold f_X12_year_B177
  dsimp only
  simp (disch := omega) only [pw_if, pw_some, n32_le, n32_lm, lr_r, lr_l, pw_g, pw_let, n32_in, n32_cl, n32_al, n32_la]
  refine ⟨fun x => ⟨fun q hq => b2 q (by omega), b3⟩, fun x => ⟨by omega, by omega, by omega, by trivial, fun q hq => ?_, b3.wI ⟨rfl, rfl, by omega, by omega⟩⟩⟩
  by_cases e : q = k
  · subst e; rw [rI_eq, b3.1 61 0 _ (by omega)]
  · rw [rI_ne (by omega)]; exact b2 q (by omega)
abbrev kYs (q0 k i p : Nat) : Prop := i = 0 ∧ (k = 12 ∧ (p = 0 ∨ p = 2 ∨ p = 3 ∨ p = 7 ∨ p = 8) ∨ k = 61 ∧ q0 ≤ p ∨ k = 52 ∨ k = 53 ∨ k = 154)
theorem pm_year {m : mi_M} {L : List Nat} {W : Nat} (hL : okL L) (h : tpM m L) (hw : pWords m) (hW : W ≤ 8) (h2 : m.1 56 0 2 = n32 W) : wo (f_X12_year m) (fun r => r.1 = n32 (yls L W 1001 0 Y0).1 ∧ r.2.1 12 0 2 = 0 ∧ ((yls L W 1001 0 Y0).1 ≠ 0 → kp (fun k i p => kYs 100 k i p) m r.2) ∧ ((yls L W 1001 0 Y0).1 = 0 → r.2.1 61 0 0 = n32 (yls L W 1001 0 Y0).2.1 ∧ (∀ k, k < (yls L W 1001 0 Y0).2.1 → r.2.1 61 0 (1 + 3 * k) = n32 ((yls L W 1001 0 Y0).2.2.1 k) ∧ r.2.1 61 0 (2 + 3 * k) = n32 ((yls L W 1001 0 Y0).2.2.2.1 k) ∧ r.2.1 61 0 (3 + 3 * k) = n32 ((yls L W 1001 0 Y0).2.2.2.2 k)) ∧ kp (fun k i p => kYs 0 k i p) m r.2)) := by
  unfold f_X12_year
  rw [pw_let]
  have k1 : kp (fun k i p => i = 0 ∧ k = 12 ∧ p = 0) m (mi_wI m 12 0 0 0) := kp.rf.wI ⟨rfl, rfl, rfl⟩
  generalize mi_wI m 12 0 0 0 = m1 at k1
  rw [pw_bo]
  refine pw_mono (pm_cutAll (h.mv k1 (fun p x => by omega) (by omega)) hL) ?_
  rintro m2 ⟨⟨c, c1, c2, c3, c4⟩, z2, z7, z8, k2⟩
  have tk : tkN L c := ⟨hL, c1, c2, c3⟩
  have kb : kp (fun k i p => kYs 100 k i p) m m2 := (k1.mo (fun k i p a => by omega)).tr (k2.mo (fun k i p a => by omega))
  have r2 : rS m2 L c 0 0 := ⟨⟨c1, c2, c3, c4⟩, hw.mv kb (fun i p a => by omega), by omega, z7, z8, by omega⟩
  rw [pw_bo]
  refine pw_mono (pm_ylines tk hW r2 (by rw [kb.1 56 0 2 (by omega)]; exact h2)) ?_
  rintro ⟨l, m3⟩ ⟨n, r3, q3, k3'⟩
  simp only at r3 q3 k3'
  generalize yls L W 1001 0 Y0 = R at r3 q3
  have kb3 : kp (fun k i p => kYs 100 k i p) m m3 := kb.tr (k3'.mo (fun k i p a => by omega))
  have z23 : m3.1 12 0 2 = 0 := by rw [k3'.1 12 0 2 (by omega)]; exact z2
  unfold f_X12_year_K11
  dsimp only
  by_cases zR : R.1 = 0
  · obtain ⟨l1, l2, l3⟩ := q3 zR
    subst l1
    rw [if_pos (r3.f0.2.mpr zR), show (0 : Int32).toNatClampNeg = 0 from rfl, pw_g, pw_let, pw_bo]
    refine ⟨vin (k := 0) (by decide) (by decide), ?_⟩
    have k4 : kp (fun k i p => k = 61 ∧ i = 0 ∧ p = 0) m3 (mi_wI m3 61 0 0 (n32 R.2.1)) := kp.rf.wI ⟨rfl, rfl, rfl⟩
    have w4 : (mi_wI m3 61 0 0 (n32 R.2.1)).1 61 0 0 = n32 R.2.1 := rI_eq
    generalize mi_wI m3 61 0 0 (n32 R.2.1) = m4 at k4 w4
    refine pw_mono (pm_copyY (m := m4) (j := R.2.1) l3.1) ?_
    rintro m5 ⟨e5, k5⟩
    unfold f_X12_year_K177
    rw [pw_some]
    refine ⟨by rw [zR]; rfl, ?_, fun x => absurd zR x, fun _ => ⟨?_, fun k hk => ?_, ((kb3.mo (fun k i p a => by omega)).tr (k4.mo (fun k i p a => by omega))).tr (k5.mo (fun k i p a => by omega))⟩⟩
    · show m5.1 12 0 2 = 0
      rw [k5.1 12 0 2 (by omega), k4.1 12 0 2 (by omega)]; exact z23
    · show m5.1 61 0 0 = _
      rw [k5.1 61 0 0 (by omega)]; exact w4
    · have := l2 k hk
      have e1 := e5 (3 * k) (by omega)
      have e2 := e5 (3 * k + 1) (by omega)
      have e3 := e5 (3 * k + 2) (by omega)
      rw [k4.1 61 0 _ (by omega)] at e1 e2 e3
      refine ⟨e1.trans this.1, ?_, ?_⟩
      · rw [show 2 + 3 * k = 1 + (3 * k + 1) by omega]
        rw [show 100 + (3 * k + 1) = 101 + 3 * k by omega] at e2
        exact e2.trans this.2.1
      · rw [show 3 + 3 * k = 1 + (3 * k + 2) by omega]
        rw [show 100 + (3 * k + 2) = 102 + 3 * k by omega] at e3
        exact e3.trans this.2.2
  · rw [if_neg (fun x => zR (r3.f0.2.mp x)), pw_some]
    exact ⟨r3.2.2.2.2.1, z23, fun _ => kb3, fun x => absurd x zR⟩
theorem po_year : ob_year Rel := by
  rintro mem ⟨T, cd, c, y, hR⟩
  obtain ⟨h1, h2, h3, h4, h5, h6, h7, h8, h9, h10⟩ := id hR
  obtain ⟨L, l1, l2, l3⟩ := h4.out
  obtain ⟨cc, hL⟩ := tk_ex l3 l1
  obtain ⟨hc2, hy2, e0, e1, e2, e3, e24⟩ := id h1
  have hW : T 2 ≤ 8 := h2.1.2.1.1.2.1
  have h82 : mem.1 8 c 1 = n32 (T 2) := h2.1.1.1.2.1
  have h56 : mem.1 56 0 2 = n32 (T 2) := h3.1.1 2 (by omega) (by omega)
  obtain ⟨⟨r, m3⟩, f1, a1, a2, a3, a4, a5⟩ := pc_readYear (e := 1 - y) hL l2 hW
  simp only at a1 a3 a4 a5
  subst a1
  have n10' : 1 - y < mi_n 10 := n10 (by omega)
  by_cases z : (yls L (T 2) 1001 0 Y0).1 = 0
  · obtain ⟨d3, ok3⟩ := a3 z
    have q2 : m3.2.2 2 = y := by rw [a5.2.2]; exact e2
    have q3 : m3.2.2 3 = 1 - y := by rw [a5.2.2]; exact e3
    generalize hm9 : mi_wR (mi_wR m3 2 (1 - y)) 3 y = m9
    have ft : f_X11_year mem = some (n32 (yls L (T 2) 1001 0 Y0).1, m9) := by
      unfold f_X11_year f_X11_year_J41
      rw [pe_g (by rw [e3]; exact n10'), pe_g (by rw [e0]; exact n8 hc2), e3, e0, h82, f1, pe_b, if_pos (by rw [z]; rfl), pe_g (by rw [q2]; exact n10 hy2), pe_let, pe_g (by rw [q3]; exact n10'), pe_let, pe_let, q2, q3, hm9]
    have i9 : m9.1 = m3.1 := by rw [← hm9]; rfl
    have j9 : m9.2.1 = m3.2.1 := by rw [← hm9]; rfl
    have s0 : m9.2.2 0 = c := by rw [← hm9]; show m3.2.2 0 = c; rw [a5.2.2]; exact e0
    have s1 : m9.2.2 1 = 1 - c := by rw [← hm9]; show m3.2.2 1 = 1 - c; rw [a5.2.2]; exact e1
    have s2 : m9.2.2 2 = 1 - y := by rw [← hm9]; rfl
    have s3 : m9.2.2 3 = y := by rw [← hm9]; rfl
    -- the memory before, with the references as they stand now
    have kq : kp (fun k i p => kYt (1 - y) k i p) (mem.1, mem.2.1, m9.2.2) m9 := ⟨fun k i p hp => by rw [i9]; exact a5.1 k i p hp, fun k i p hp => by rw [j9]; exact a5.2.1 k i p hp, rfl⟩
    have t9 : tpM m9 L := (show tpM (mem.1, mem.2.1, m9.2.2) L from l3).mv kq (fun p x => by omega) (by omega)
    have w9 : pWords m9 := (show pWords (mem.1, mem.2.1, m9.2.2) from h5).mv kq (fun i p a => by omega)
    obtain ⟨⟨r4, m4⟩, g1, g2, g3, -, g5⟩ := pm_year l1 t9 w9 hW (by rw [kq.1 56 0 2 (by omega)]; exact h56)
    simp only at g2 g3 g5
    subst g2
    obtain ⟨g6, g7, g8⟩ := g5 z
    have kk : kp (fun k i p => kYt (1 - y) k i p ∨ kYs 0 k i p) (mem.1, mem.2.1, m9.2.2) m4 := (kq.mo (fun k i p a => Or.inl a)).tr (g8.mo (fun k i p a => Or.inr a))
    have m4r : m4.2.2 = m9.2.2 := g8.2.2
    refine ⟨_, m9, m4, ft, g1, T, cd, c, 1 - y, ⟨hc2, by omega, by rw [m4r]; exact s0, by rw [m4r]; exact s1, by rw [m4r]; exact s2, by rw [m4r, s3]; omega, ?_⟩, (show cT (mem.1, mem.2.1, m9.2.2) c T cd from h2).mv kk (fun k i p a b => by unfold cTk at b; omega), (show mT (mem.1, mem.2.1, m9.2.2) T cd from h3).mv kk (fun k i p a b d => by omega), ?_, (show pWords (mem.1, mem.2.1, m9.2.2) from h5).mv kk (fun i p a => by omega), ?_, (show pState (mem.1, mem.2.1, m9.2.2) T 0 0 from h7).mv kk (fun k i p a b => by omega), (show pSights (mem.1, mem.2.1, m9.2.2) T 0 0 from h8).mv kk (fun k i p a b => by omega), (show pUndo (mem.1, mem.2.1, m9.2.2) T from h9).mv kk (fun k i p a b => by omega), (show pMarks (mem.1, mem.2.1, m9.2.2) T from h10).mv kk (fun k i p a b => by omega)⟩
    · rw [kk.1 12 0 24 (by omega)]; exact e24
    · exact ⟨0, by omega, by rw [g8.1 6 0 0 (by omega), i9, a4]; rfl, by rw [g3]; rfl, fun i hi => absurd hi (by omega)⟩
    · have d9 : dY m4 (1 - y) (yls L (T 2) 1001 0 Y0).2 := by
        have : dY m9 (1 - y) (yls L (T 2) 1001 0 Y0).2 := by
          have : m9 = (m3.1, m3.2.1, m9.2.2) := by rw [← i9, ← j9]
          rw [this]
          exact d3
        exact this.mv g8 (fun k p a => by omega)
      refine ⟨(yls L (T 2) 1001 0 Y0).2.1, ok3.1, d9.1, g6, fun k hk => ?_⟩
      obtain ⟨o1, o2, o3⟩ := ok3.2 k hk
      exact ⟨_, _, _, ⟨o1, o2, o3⟩, d9.2 k hk, g7 k hk⟩
  · have ft : f_X11_year mem = some (n32 (yls L (T 2) 1001 0 Y0).1, m3) := by
      unfold f_X11_year f_X11_year_J41
      rw [pe_g (by rw [e3]; exact n10'), pe_g (by rw [e0]; exact n8 hc2), e3, e0, h82, f1, pe_b, if_neg (by rw [show (0 : Int32) = n32 0 from rfl, n32_eq (by omega) (by omega)]; exact z)]
    obtain ⟨⟨r4, m4⟩, g1, g2, g3, g4, -⟩ := pm_year l1 (l3.mv a5 (fun p x => by omega) (by omega)) (h5.mv a5 (fun i p a => by omega)) hW (by rw [a5.1 56 0 2 (by omega)]; exact h56)
    simp only at g2 g3 g4
    subst g2
    have k4 := g4 z
    have kk : kp (fun k i p => kYt (1 - y) k i p ∨ kYs 100 k i p) mem m4 := (a5.mo (fun k i p a => Or.inl a)).tr (k4.mo (fun k i p a => Or.inr a))
    refine ⟨_, m3, m4, ft, g1, T, cd, c, y, h1.mv kk (by omega), h2.mv kk (fun k i p a b => by unfold cTk at b; omega), h3.mv kk (fun k i p a b d => by omega), ?_, h5.mv kk (fun i p a => by omega), h6.mv kk (fun k i p a b => by omega), h7.mv kk (fun k i p a b => by omega), h8.mv kk (fun k i p a b => by omega), h9.mv kk (fun k i p a b => by omega), h10.mv kk (fun k i p a b => by omega)⟩
    exact ⟨0, by omega, by rw [k4.1 6 0 0 (by omega), a4]; rfl, by rw [g3]; rfl, fun i hi => absurd hi (by omega)⟩
