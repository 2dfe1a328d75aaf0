theorem tk_ex {m : mi_M} {L : List Nat} (h : tpM m L) (hL : okL L) : ∃ c, tkN L c := by
  obtain ⟨m', -, ⟨c, c1, c2, c3, -⟩, -⟩ := pm_cutAll h hL
  exact ⟨c, hL, c1, c2, c3⟩
theorem dP.toT {m : mi_M} {e : Nat} {L : List Nat} {P : PS} {n : Nat} (h : dP m e L P n) (hP : pOK P) (hn : n ≤ 1000) : cT m e P.1 P.2.2.2 := by
  obtain ⟨g1, g2, ⟨u, u1, u2, u3⟩, g4⟩ := h
  refine ⟨⟨g2.1, hP⟩, ⟨g2.2.2.1, fun b hb hk => ?_⟩, fun l hl _ => ?_⟩
  · rw [g4] at hk
    unfold kb at hk
    have : (0 : Int64).toBitVec = 0#64 := rfl
    rw [this, BitVec.getLsbD_zero] at hk
    cases hk
  · obtain ⟨f, a1, a2, a3, a4⟩ := u3 l hl
    exact ⟨f, a1, a2, by omega, a4⟩
theorem po_town : ob_town Rel := by
  rintro mem ⟨T, cd, c, y, hR⟩
  obtain ⟨h1, h2, h3, h4, h5, h6, h7, h8, h9, h10⟩ := id hR
  obtain ⟨L, l1, l2, l3⟩ := h4.out
  obtain ⟨cc, hL⟩ := tk_ex l3 l1
  obtain ⟨hc2, hy2, e0, e1, e2, e3, e24⟩ := id h1
  obtain ⟨⟨r, m3⟩, f1, a1, a2, a3, a4, a5⟩ := pc_readTown (e := 1 - c) hL l2
  simp only at a1 a3 a4 a5
  subst a1
  have n8' : 1 - c < mi_n 8 := n8 (by omega)
  have t3 : tpM m3 L := l3.mv a5 (fun p x => by omega) (by omega)
  have w3 : pWords m3 := h5.mv a5 (fun i p a => by omega)
  have k3c := hL.c
  by_cases z : (lns L 1001 0 P0).1 = 0
  · obtain ⟨d3, ok3⟩ := a3 z
    have c3 : cT m3 (1 - c) (lns L 1001 0 P0).2.1 (lns L 1001 0 P0).2.2.2.2 := d3.toT ok3 k3c
    have q0 : m3.2.2 0 = c := by rw [a5.2.2]; exact e0
    have q1 : m3.2.2 1 = 1 - c := by rw [a5.2.2]; exact e1
    have q2 : m3.2.2 2 = y := by rw [a5.2.2]; exact e2
    have q3 : m3.2.2 3 = 1 - y := by rw [a5.2.2]; exact e3
    -- the references, changed
    generalize hm9 : mi_wR (mi_wR m3 0 (1 - c)) 1 c = m9
    have i9 : m9.1 = m3.1 := by rw [← hm9]; rfl
    have j9 : m9.2.1 = m3.2.1 := by rw [← hm9]; rfl
    have s0 : m9.2.2 0 = 1 - c := by rw [← hm9]; rfl
    have s1 : m9.2.2 1 = c := by rw [← hm9]; rfl
    have s2 : m9.2.2 2 = y := by rw [← hm9]; exact q2
    have s3 : m9.2.2 3 = 1 - y := by rw [← hm9]; exact q3
    have c9 : cT m9 (1 - c) (lns L 1001 0 P0).2.1 (lns L 1001 0 P0).2.2.2.2 := by
      have : m9 = (m3.1, m3.2.1, m9.2.2) := by rw [← i9, ← j9]
      rw [this]
      exact c3
    have kA : kp (fun k i p => k = 10 ∧ i = y ∧ p = 0) m9 (mi_wI m9 10 y 0 0) := kp.rf.wI ⟨rfl, rfl, rfl⟩
    have wA : (mi_wI m9 10 y 0 0).1 10 y 0 = 0 := rI_eq
    have rA : (mi_wI m9 10 y 0 0).2.2 = m9.2.2 := rfl
    generalize hmA : mi_wI m9 10 y 0 0 = mA at kA wA rA
    have cA := c9.mv kA (fun k i p a b => by unfold cTk at b; omega)
    obtain ⟨mB, fB, b1, b2, b3⟩ := pc_begin (i := 0) cA
    have kC' : kp (fun k i p => i = 0 ∧ (k = 3 ∧ (p = 0 ∨ p = 2) ∨ k = 4 ∧ p = 0)) mB (mi_wI (mi_wI (mi_wI mB 3 0 0 0) 3 0 2 0) 4 0 0 0) := ((kp.rf.wI ⟨rfl, by omega⟩).wI ⟨rfl, by omega⟩).wI ⟨rfl, by omega⟩
    have wC0 : (mi_wI (mi_wI (mi_wI mB 3 0 0 0) 3 0 2 0) 4 0 0 0).1 3 0 0 = 0 := by rw [rI_ne (by omega), rI_ne (by omega), rI_eq]
    have wC2 : (mi_wI (mi_wI (mi_wI mB 3 0 0 0) 3 0 2 0) 4 0 0 0).1 3 0 2 = 0 := by rw [rI_ne (by omega), rI_eq]
    have wC4 : (mi_wI (mi_wI (mi_wI mB 3 0 0 0) 3 0 2 0) 4 0 0 0).1 4 0 0 = 0 := rI_eq
    have ft : f_X11_town mem = some (n32 (lns L 1001 0 P0).1, mi_wI (mi_wI (mi_wI mB 3 0 0 0) 3 0 2 0) 4 0 0 0) := by
      unfold f_X11_town f_X11_town_J68
      rw [pe_g (by rw [e1]; exact n8'), e1, f1, pe_b, if_pos (by rw [z]; rfl), pe_g (by rw [q0]; exact n8 hc2), pe_let, pe_g (by rw [q1]; exact n8'), pe_let, pe_let, q0, q1, hm9, pe_g (by rw [s2]; exact n10 hy2), s2, pe_let, hmA, pe_g (by rw [rA, s0]; exact n8'), rA, s0, fB, pe_bo]
      unfold f_X3_forget
      rw [pe_let, pe_let, pe_bo, pe_let]
    generalize mi_wI (mi_wI (mi_wI mB 3 0 0 0) 3 0 2 0) 4 0 0 0 = mC at kC' wC0 wC2 wC4 ft
    have kAC : kp (fun k i p => k = 10 ∧ i = y ∧ p = 0 ∨ pcS 0 k i ∨ i = 0 ∧ (k = 3 ∧ (p = 0 ∨ p = 2) ∨ k = 4 ∧ p = 0)) m9 mC := ((kA.mo (fun k i p a => Or.inl a)).tr (b3.mo (fun k i p a => Or.inr (Or.inl a)))).tr (kC'.mo (fun k i p a => Or.inr (Or.inr a)))
    have tC9 : tpM mC L := by
      have : tpM m9 L := by
        have : m9 = (m3.1, m3.2.1, m9.2.2) := by rw [← i9, ← j9]
        rw [this]
        exact t3
      exact this.mv kAC (fun p x => by omega) (by omega)
    have wC9 : pWords mC := by
      have : pWords m9 := by
        have : m9 = (m3.1, m3.2.1, m9.2.2) := by rw [← i9, ← j9]
        rw [this]
        exact w3
      exact this.mv kAC (fun i p a => by omega)
    obtain ⟨⟨r4, m4⟩, g1, g2, g3, -, g5⟩ := pm_town l1 tC9 wC9
    simp only at g2 g3 g5
    subst g2
    obtain ⟨g6, ⟨g7, g8, g9, g10, g11, g12⟩, g13⟩ := g5 z
    refine ⟨_, mC, m4, ft, g1, (lns L 1001 0 P0).2.1, (lns L 1001 0 P0).2.2.2.2, 1 - c, y, ?_⟩
    have m4r : m4.2.2 = m9.2.2 := by rw [g13.2.2, kAC.2.2]
    have cB := b2.mv kC' (fun k i p a b => by unfold cTk at b; omega)
    have c6 : mC.1 6 0 0 = 0 := by rw [kAC.1 6 0 0 (by omega), i9]; exact a4
    obtain ⟨uh, nx, u1, u2, u3, u4, u5, u6⟩ := h9
    refine ⟨⟨by omega, hy2, by rw [m4r]; exact s0, by rw [m4r, s1]; omega, by rw [m4r]; exact s2, by rw [m4r]; exact s3, g8⟩, cB.mv g13 (fun k i p a b => by unfold cTk at b; omega), g6, ?_, wC9.mv g13 (fun i p a => by omega), ?_, ?_, ?_, ?_, ?_⟩
    · exact ⟨0, by omega, by rw [g13.1 6 0 0 (by omega), c6]; rfl, by rw [g3]; rfl, fun i hi => absurd hi (by omega)⟩
    · refine ⟨0, by omega, ?_, by rw [g10]; rfl, fun i hi => absurd hi (by omega)⟩
      rw [g13.1 10 y 0 (by omega), kC'.1 10 y 0 (by omega), b3.1 10 y 0 (by omega), wA]; rfl
    · exact ⟨begS (lns L 1001 0 P0).2.1, (b1.mv kC' (fun k j p a b d => by omega)).mv g13 (fun k j p a b d => by omega), g7, begS_ok ok3.1⟩
    · exact ⟨0, by omega, by rw [g13.1 4 0 0 (by omega), wC4]; rfl, by show m4.1 64 0 38 = _; rw [g9]; rfl, fun i hi => absurd hi (by omega)⟩
    · refine ⟨0, nx, by omega, u2, by rw [g13.1 3 0 0 (by omega), wC0]; rfl, ?_, by rw [g11]; rfl, fun i hi => absurd hi (by omega)⟩
      rw [g13.1 3 0 1 (by omega), kAC.1 3 0 1 (by omega), i9, a5.1 3 0 1 (by omega)]; exact u4
    · refine ⟨fun _ => false, ?_, fun k hk => ⟨g12 k hk, fun h => by cases h⟩⟩
      rw [g13.1 3 0 2 (by omega), wC2]; decide
  · have ft : f_X11_town mem = some (n32 (lns L 1001 0 P0).1, m3) := by
      unfold f_X11_town f_X11_town_J68
      rw [pe_g (by rw [e1]; exact n8'), e1, f1, pe_b, if_neg (by rw [show (0 : Int32) = n32 0 from rfl, n32_eq (by omega) (by omega)]; exact z)]
    obtain ⟨⟨r4, m4⟩, g1, g2, g3, g4, -⟩ := pm_town l1 t3 w3
    simp only at g2 g3 g4
    subst g2
    have k4 := g4 z
    have kk : kp (fun k i p => kLt (1 - c) k i p ∨ kRt k i p) mem m4 := (a5.mo (fun k i p a => Or.inl a)).tr (k4.mo (fun k i p a => Or.inr a))
    refine ⟨_, m3, m4, ft, g1, T, cd, c, y, h1.mv kk (by omega), h2.mv kk (fun k i p a b => by unfold cTk at b; omega), h3.mv kk (fun k i p a b d => by omega), ?_, h5.mv kk (fun i p a => by omega), h6.mv kk (fun k i p a b => by omega), h7.mv kk (fun k i p a b => by omega), h8.mv kk (fun k i p a b => by omega), h9.mv kk (fun k i p a b => by omega), h10.mv kk (fun k i p a b => by omega)⟩
    exact ⟨0, by omega, by rw [k4.1 6 0 0 (by omega), a4]; rfl, by rw [g3]; rfl, fun i hi => absurd hi (by omega)⟩
