theorem po_when : ob_when Rel := by
  rintro a0 a1 mem ⟨T, cd, c, y, hR⟩
  obtain ⟨h1, h2, h3, h4, h5, h6, ⟨S, hc, hm, hs⟩, h8, h9, h10⟩ := id hR
  have hT := h2.1.2.1
  have t8 := hT.1.2.1
  have no : f_X11_when a0 a1 mem = some (-2, mem) → f_X12_when a0 a1 mem = some (-2, mi_wI mem 12 0 0 0) → ∃ (r : Int32) (m1 : mi_M) (m2 : mi_M), f_X11_when a0 a1 mem = some (r, m1) ∧ f_X12_when a0 a1 m1 = some (r, m2) ∧ Rel m2 := fun e1 e2 => ⟨-2, mem, _, e1, e2, T, cd, c, y, hR.sm kp_thr⟩
  by_cases g1 : (1 : Int32) ≤ a0 ∧ a0 ≤ 3
  · by_cases g2 : (0 : Int32) ≤ a1 ∧ a1 ≤ a0
    · obtain ⟨N, n1, n2, rfl⟩ := wi_of (lo := 1) (hi := 3) (by omega) (by omega) g1
      obtain ⟨q, -, q2, rfl⟩ := wi_of (lo := 0) (hi := N) (by omega) (by omega) g2
      have cls : wo (f_X11_when (n32 N) (n32 q) mem) (fun r => cT r.2 c T cd ∧ kp (fun k i _ => pXc c k i) mem r.2 ∧ ∃ b, wPost (fun h' c' => c' / 9 ^ N = 0 ∧ sim T cd N S 0 c' = some h') none (some b) ((0 + 1) * 9 ^ N) ∧ r.1 = (if q = 0 then n32 b.1 else dg (T 2) (b.2 / 9 ^ (N - q) % 9))) := by
        unfold f_X11_when f_X0_bestAsks f_X0_tryAsks
        rw [pc_within, wi_y g1, pe_bo, if_neg (by decide), pc_within, wi_y g2, pe_bo, if_neg (by decide), h1.2.2.1, pe_g (n8 h1.1), pw_b, pw_let, show (0 : Int32).toNatClampNeg = 0 from rfl, pw_g, pw_bo]
        refine ⟨(n32_in (k := 0) (by decide)).mpr (by decide), ?_⟩
        have kw : kp (fun k i p => k = 0 ∧ i = 0 ∧ p = 4) mem (mi_wI mem 0 0 4 1048576) := kp.rf.wI ⟨rfl, rfl, rfl⟩
        have w0 : (mi_wI mem 0 0 4 1048576).1 0 0 4 = 1048576 := rI_eq
        generalize mi_wI mem 0 0 4 1048576 = m1 at kw w0
        refine pw_mono (pc_become (i := 0 * 0 + 22 + 0) (hc.mv kw (fun k j p a b e => by omega))) ?_
        rw [show 0 * 0 + 22 + 0 = 22 by omega]
        rintro m2 ⟨s2, k2⟩
        rw [pw_g, pw_let, pw_bo]
        refine ⟨(n32_in (k := 0) (by decide)).mpr (by decide), ?_⟩
        have kw2 : kp (fun k i p => k = 5 ∧ i = 22 ∧ p = 1) m2 (mi_wI m2 5 22 1 0) := kp.rf.wI ⟨rfl, rfl, rfl⟩
        have s3 := cSt_h (v := 0) s2
        generalize mi_wI m2 5 22 1 0 = m3 at kw2 s3
        have k3' : kp (fun k i p => k = 0 ∧ i = 0 ∧ p = 4 ∨ pcS 22 k i) mem m3 := ((kw.mo (fun k i p a => Or.inl a)).tr (k2.mo (fun k i p a => Or.inr a))).tr (kw2.mo (fun k i p a => Or.inr ⟨Or.inl a.1, a.2.1⟩))
        have w3 : m3.1 0 0 4 = 1048576 := by rw [kw2.1 0 0 4 (by omega), k2.1 0 0 4 (by omega)]; exact w0
        have c3 : cT m3 c T cd := h2.mv k3' (fun k i p a b => by unfold cTk at b; omega)
        refine pw_mono (show wo (fg_X0_tryAsks mi_dp c 0 (n32 N) m3) _ from pc_try (by omega) N 0 mi_dp (fu S 1 0) 0 0 none m3 (by omega) (by have : mi_dp = 40 := rfl; omega) c3 s3 ((eq1_0 S 0).sy.ok hs) fu_eq (by omega) w3 (fun i hi => absurd hi (by omega)) (fun b hb => by cases hb)) ?_
        rintro m4 ⟨c4, k4, o4, w4, p4⟩
        have p5 : wPost (fun h' c' => c' / 9 ^ N = 0 ∧ sim T cd N S 0 c' = some h') none o4 ((0 + 1) * 9 ^ N) := p4.cg (fun h' c' => by rw [sim_e (eq1_0 S 0)]) (Nat.le_refl _)
        obtain ⟨c', h', e1, e2⟩ := sim_ex (T := T) (cd := cd) t8 N 0 S 0
        obtain ⟨b, rfl, -⟩ := p5.2.2.1 h' c' ⟨e1, e2⟩
        have kk : kp (fun k i _ => pXc c k i) mem m4 := (k3'.mo (fun k i p a => by omega)).tr (k4.mo (fun k i p a => by omega))
        unfold f_X0_bestAsks_J54
        simp (disch := omega) only [pw_if, n32_eqL, pw_some]
        refine ⟨fun x => ⟨c4, kk, b, p5, ?_⟩, fun x => ?_⟩
        · rw [if_pos x]; exact w4.1
        · rw [show n32 q - 1 = n32 (q - 1) from n32_sub (b := 1) (by omega), pw_g, n32_in (by omega), n32_cl (by omega), pw_some]
          simp only [pw_some]
          refine ⟨by omega, c4, kk, b, p5, ?_⟩
          rw [if_neg x, w4.2.2 (q - 1) (by omega), show N - 1 - (q - 1) = N - q by omega]
      obtain ⟨⟨r, m1⟩, e1, c1, k1, b, pb, hv⟩ := cls
      simp only at c1 k1 hv
      have hR1 := hR.sc k1 c1
      have kw : kp (fun k i p => pXm k i p) m1 (mi_wI (mi_wI m1 12 0 0 0) 12 0 31 (-1)) := (kp_thr (m := m1) (v := 0)).tr (kp.rf.wI (Or.inl ⟨rfl, by omega⟩))
      have w0 : (mi_wI (mi_wI m1 12 0 0 0) 12 0 31 (-1)).1 12 0 31 = -1 := rI_eq
      have mdl : wo (f_X12_when (n32 N) (n32 q) m1) (fun r2 => kp (fun k i p => pXm k i p) m1 r2.2 ∧ ∃ b', wPost (fun h' c' => c' / 9 ^ N = 0 ∧ sim T cd N S 0 c' = some h') none (some b') ((0 + 1) * 9 ^ N) ∧ r2.1 = (if q = 0 then n32 b'.1 else dg (T 2) (b'.2 / 9 ^ (N - q) % 9))) := by
        unfold f_X12_when f_X12_whens
        rw [pe_let, pm_within, wi_y g1, pe_bo, if_neg (by decide), pm_within, wi_y g2, pe_bo, if_neg (by decide), pw_let, pw_bo]
        generalize mi_wI (mi_wI m1 12 0 0 0) 12 0 31 (-1) = m2 at kw w0
        have hR2 := hR1.sm kw
        have s2 : mSt m2 0 S := (hm.mv k1 (fun p a x y => by omega)).mv kw (fun p a x y => by omega)
        refine pw_mono (show wo (fg_X12_whens mi_dp (n32 N) 0 m2) _ from pm_whens (by omega) hs N 0 mi_dp 0 none m2 (by omega) (by have : mi_dp = 40 := rfl; omega) hR2.2.2.1 s2 hR2.1.2.2.2.2.2.2 w0 (fun i hi => absurd hi (by omega)) (fun b hb => by cases hb)) ?_
        rintro m4 ⟨k4, o4, w4, p5⟩
        obtain ⟨c', h', e1, e2⟩ := sim_ex (T := T) (cd := cd) t8 N 0 S 0
        obtain ⟨b, rfl, -⟩ := p5.2.2.1 h' c' ⟨e1, e2⟩
        have kk : kp (fun k i p => pXm k i p) m1 m4 := kw.tr (k4.mo (fun k i p a => by omega))
        unfold f_X12_when_J56
        simp (disch := omega) only [pw_if, n32_eqL, pw_some]
        refine ⟨fun x => ⟨kk, b, p5, ?_⟩, fun x => ?_⟩
        · rw [if_pos x]; exact w4.1
        · rw [show n32 q - 1 = n32 (q - 1) from n32_sub (b := 1) (by omega), pw_g, n32_in (by omega), n32_cl (by omega), pw_some]
          refine ⟨by omega, kk, b, p5, ?_⟩
          rw [if_neg x]
          dsimp only
          rw [w4.2.2 (q - 1) (by omega), show N - 1 - (q - 1) = N - q by omega]
      obtain ⟨⟨r2, m2⟩, e2, k2, b', pb', hv2⟩ := mdl
      simp only at k2 hv2
      have met : ∀ b, wPost (fun h' c' => c' / 9 ^ N = 0 ∧ sim T cd N S 0 c' = some h') none (some b) ((0 + 1) * 9 ^ N) → b.2 / 9 ^ N = 0 ∧ sim T cd N S 0 b.2 = some b.1 := by
        intro b p
        rcases p.1 with x | ⟨h, c, x, x2⟩
        · cases x
        · cases x; exact x2
      have eb : b = b' := by
        apply btw_an
        · obtain ⟨x, x1, x2⟩ := pb'.2.2.1 b.1 b.2 (met b pb)
          cases x1; exact x2
        · obtain ⟨x, x1, x2⟩ := pb.2.2.1 b'.1 b'.2 (met b' pb')
          cases x1; exact x2
      refine ⟨r, m1, m2, e1, ?_, T, cd, c, y, hR1.sm k2⟩
      rw [e2, hv, hv2, eb]
    · refine no ?_ ?_
      · unfold f_X11_when f_X11_when_J18
        rw [pc_within, wi_y g1, pe_bo, if_neg (by decide), pc_within, wi_n g2, pe_bo, if_pos rfl]
      · unfold f_X12_when f_X12_when_J23
        rw [pe_let, pm_within, wi_y g1, pe_bo, if_neg (by decide), pm_within, wi_n g2, pe_bo, if_pos rfl]
  · refine no ?_ ?_
    · unfold f_X11_when f_X11_when_J18
      rw [pc_within, wi_n g1, pe_bo, if_pos rfl]
    · unfold f_X12_when f_X12_when_J23
      rw [pe_let, pm_within, wi_n g1, pe_bo, if_pos rfl]
