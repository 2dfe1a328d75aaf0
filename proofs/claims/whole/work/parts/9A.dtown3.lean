abbrev kLt (e k i p : Nat) : Prop := i = 0 ∧ (k = 6 ∨ k = 106 ∧ p = 4 ∨ k = 7 ∧ p = 1) ∨ (k = 8 ∨ k = 9 ∨ k = 39 ∨ k = 40 ∨ k = 41 ∨ k = 42 ∨ k = 43 ∨ k = 45 ∨ k = 46 ∨ k = 16 ∨ k = 17 ∨ k = 18 ∨ k = 1 ∨ k = 138 ∨ k = 109) ∧ i = e ∨ k = 76 ∧ 6 * e ≤ i ∧ i < 6 * e + 6
theorem pc_readTown {m : mi_M} {L : List Nat} {c e : Nat} (hL : tkN L c) (h : tpC m L) : wo (f_X7_readTown e m) (fun r => r.1 = n32 (lns L 1001 0 P0).1 ∧ (lns L 1001 0 P0).1 < 100000 ∧ ((lns L 1001 0 P0).1 = 0 → dP r.2 e L (lns L 1001 0 P0).2 c ∧ pOK (lns L 1001 0 P0).2) ∧ r.2.1 6 0 0 = 0 ∧ kp (fun k i p => kLt e k i p) m r.2) := by
  have hc := hL.c
  unfold f_X7_readTown
  rw [pw_bo]
  refine pw_mono (pc_clear (e := e) (m := m) (L := L)) ?_
  rintro m1 ⟨d1, k1⟩
  rw [pw_let]
  have k2 : kp (fun k i p => k67 k i p) m1 (mi_wI m1 7 0 1 0) := kp.rf.wI ⟨rfl, by omega⟩
  have f2 : (mi_wI m1 7 0 1 0).1 7 0 1 = 0 := rI_eq
  generalize mi_wI m1 7 0 1 0 = m2 at k2 f2
  have p2 := d1.mv k2 (Nat.le_refl 0)
  have t2 : tpC m2 L := (h.mv k1 (fun p x => by omega) (by omega)).mv k2 (fun p x => by omega) (by omega)
  rw [pw_bo]
  unfold f_X6_rewind
  rw [pw_let]
  have kw : kp (fun k i p => i = 0 ∧ k = 6 ∧ p = 6) m2 (mi_wI m2 6 0 6 0) := kp.rf.wI ⟨rfl, rfl, rfl⟩
  have w6 : (mi_wI m2 6 0 6 0).1 6 0 6 = n32 0 := rI_eq
  generalize mi_wI m2 6 0 6 0 = m2' at kw w6
  rw [pw_bo]
  refine pw_mono (pc_advance (t2.mv kw (fun p x => by omega) (by omega)) hL.1 (Nat.zero_le _) w6) ?_
  rintro m3 ⟨a1, a2, a3⟩
  rw [pw_some]
  have k3' : kp (fun k i p => k6 k i p) m2 m3 := (kw.mo (fun k i p a => by omega)).tr a3
  have p3 := p2.mv (k3'.mo (fun k i p a => by omega) : kp (fun k i p => k67 k i p) m2 m3) (Nat.le_refl 0)
  have f3 : m3.1 7 0 1 = 0 := by rw [k3'.1 7 0 1 (by omega)]; exact f2
  have d3 : dT m3 L 0 := ⟨a1, a2, f3⟩
  have kb : kp (fun k i p => kLt e k i p) m m3 := ((k1.mo (fun k i p a => by omega)).tr (k2.mo (fun k i p a => by omega))).tr (k3'.mo (fun k i p a => by omega))
  rw [pw_bo]
  generalize hR : lns L 1001 0 P0 = R
  refine pl_for (fun k z => z.2.1 = n32 k ∧ kp (fun k i p => kLt e k i p) m z.2.2 ∧ ((z.1 = 1 ∧ ∃ n P, dT z.2.2 L n ∧ dP z.2.2 e L P n ∧ pOK P ∧ n ≤ c ∧ k ≤ n ∧ lns L (1001 - k) n P = R ∧ z.2.2.1 7 0 1 = 0) ∨ (z.1 = 0 ∧ z.2.2.1 7 0 1 = n32 R.1 ∧ R.1 ≠ 0 ∧ R.1 < 100000))) 1000 (by omega) ⟨rfl, kb, Or.inl ⟨rfl, 0, P0, d3, p3, P0_ok, by omega, by omega, hR, f3⟩⟩ ?_
  rintro k ⟨l6, l7, m4⟩ hk ⟨b1, b2, b3⟩
  simp only at b1 b2 b3
  subst b1
  have fin : ∀ (v : Nat) (P : PS), m4.1 7 0 1 = n32 R.1 → R.1 < 100000 → (R.1 = 0 → dP m4 e L R.2 c ∧ pOK R.2) → wo (f_X7_readTown_K20 m4) (fun r => r.1 = n32 R.1 ∧ R.1 < 100000 ∧ (R.1 = 0 → dP r.2 e L R.2 c ∧ pOK R.2) ∧ r.2.1 6 0 0 = 0 ∧ kp (fun k i p => kLt e k i p) m r.2) := by
    intro v P g1 g2 g3
    unfold f_X7_readTown_K20
    rw [pw_let, pw_some]
    have kz : kp (fun k i p => i = 0 ∧ k = 6 ∧ p = 0) m4 (mi_wI m4 6 0 0 0) := kp.rf.wI ⟨rfl, rfl, rfl⟩
    refine ⟨by show (mi_wI m4 6 0 0 0).1 7 0 1 = _; rw [rI_ne (by omega)]; exact g1, g2, fun x => ⟨?_, (g3 x).2⟩, rI_eq, b2.tr (kz.mo (fun k i p a => by omega))⟩
    obtain ⟨q1, q2, q3, q4⟩ := (g3 x).1
    exact ⟨q1.mv kz (by omega) (fun p => by omega), q2.mv kz (fun k i p a b => by omega), q3.mv kz (fun k p a => by omega) (Nat.le_refl _), by rw [kz.2.1 9 e 6 (by omega)]; exact q4⟩
  unfold f_X7_readTown_B20
  dsimp only
  rcases b3 with ⟨e1, n, P, g1, g2, g3, g4, g5, g6, g7⟩ | ⟨e1, g1, g2, g3⟩
  · subst e1
    have kl := kD_lt L n
    rw [pw_if, n32_Lle (by omega) (by decide), pw_some, lr_r, if_neg (show ¬ (1 : Int32) = 0 by decide), g1.k]
    have done : kD L n = 0 → wo (f_X7_readTown_K20 m4) (fun r => r.1 = n32 R.1 ∧ R.1 < 100000 ∧ (R.1 = 0 → dP r.2 e L R.2 c ∧ pOK R.2) ∧ r.2.1 6 0 0 = 0 ∧ kp (fun k i p => kLt e k i p) m r.2) := by
      intro z
      rw [show 1001 - k = (1000 - k) + 1 by omega, lns_s, if_pos z] at g6
      subst g6
      have nc : n = c := by
        by_cases y : n < c
        · exact absurd z (hL.z y)
        · omega
      subst nc
      exact fin 0 P g7 (by show 0 < 100000; omega) (fun _ => ⟨g2, g3⟩)
    refine ⟨fun x => done ?_, fun x => ?_⟩
    · have x : 1000 ≤ k := x
      by_cases y : kD L n = 0
      · exact y
      · have := hL.k g4 y
        omega
    · have x : ¬ 1000 ≤ k := x
      rw [pw_if, pw_some, lr_r]
      refine ⟨fun y => done ?_, fun y => ?_⟩
      · exact (n32_eq (b := 0) (by omega) (by omega)).mp y
      · have y : kD L n ≠ 0 := fun z => y (by rw [z]; rfl)
        refine pw_mono (pc_line (l7 := n32 k) hL g4 g1 g2 g3) ?_
        rintro z ⟨r, rfl, hr⟩
        rw [lr_l]
        rw [show 1001 - k = (1000 - k) + 1 by omega, lns_s, if_neg y] at g6
        obtain ⟨v1, v2⟩ := ln_b (P := P) hL g4
        refine ⟨by omega, n32_al _ _, b2.tr (hr.2.2.mo (fun k i p a => by omega)), ?_⟩
        by_cases q : (ln L n P).1.2 = 0
        · rw [if_pos q] at g6
          obtain ⟨r1, r2, r3⟩ := hr.1 q
          have := v2 q
          refine Or.inl ⟨r1, _, _, r2, r3, ln_ok hL g4 g3 q, this.2, by omega, by rw [show 1001 - (k + 1) = 1000 - k by omega]; exact g6, ?_⟩
          exact r2.2.2
        · rw [if_neg q] at g6
          obtain ⟨r1, r2⟩ := hr.2.1 q
          subst g6
          exact Or.inr ⟨r1, r2, q, v1⟩
  · subst e1
    rw [pw_if, pw_some, lr_r, if_pos rfl]
    have z := fin 0 P0 g1 g3 (fun x => absurd x g2)
    exact ⟨fun _ => z, fun _ => by rw [pw_some, lr_r]; exact z⟩
