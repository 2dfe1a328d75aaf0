theorem pm_readWalk {L : List Nat} {c n : Nat} {m : mi_M} {P : PS} (hL : tkN L c) (hn : n + 1 ≤ c) (h : rS m L c n 0) (hp : mP m L P n) (hP : pOK P) : wo (mi_bo (f_X12_readWalk m) fun m36 => f_X12_takeSign (59 : Int32) m36) (mQ L c m (if P.1 3 = 4 then ((n, 5 + 16 * plT L n), P) else lnK L n P)) := by
  have h60 := hP.1.1.1
  have h43 := hP.1.1.2.2.1
  unfold f_X12_readWalk
  have e2 : m.1 56 0 103 = n32 (P.1 3) := hp.1 3 (by omega) (by omega)
  rw [pw_bo, show (103 : Int32).toNatClampNeg = 103 from rfl, pw_g, pw_let, e2]
  refine ⟨vin (k := 103) (by decide) (by decide), ?_⟩
  by_cases h8 : P.1 3 = 4
  · rw [if_pos h8, if_pos (by rw [h8]; rfl), pw_bo]
    refine pw_mono (pm_wrong (e := 5) h hL (by omega)) ?_
    intro m1 h1
    rw [pw_some]
    exact mq_bad hL h1.1 (by show 5 + 16 * plT L n ≠ 0; omega) rfl (h1.2.mo (fun k i p a => by omega))
  rw [if_neg h8, if_neg (by rw [n32_eqL (by omega) (by decide)]; exact h8), pw_let, pw_let, pw_b]
  have r1 := rp_at h hn
  generalize mi_wI m 12 0 7 (m.1 12 0 7 + 1) = m1 at r1
  have p1 := hp.mv r1.2 (Nat.le_succ n)
  refine pw_mono (pm_takeTold r1.1 hL p1.2.1) ?_
  rintro ⟨va, m2⟩ ⟨r2, ea⟩
  simp only at r2 ea
  obtain ⟨a, a6, ea2, ha⟩ := told_ok (L := L) (nm := P.2.1) (n := n + 1) h60
  rw [ea2] at ea
  subst ea
  have w8 : P.1 3 < 4 := by omega
  generalize hs1 : sx L (eO L P.2.1 (P.1 0) 99) (n + 1, 0) = s1 at r2 ha
  dsimp only
  rw [n32_lm, n32_la, pw_g, pw_let, n32_cl (by omega)]
  refine ⟨vin (by omega) (by decide), ?_⟩
  have k2 : kp (fun k i p => k78 k i p ∨ k = 56 ∧ i = 0 ∧ p = 181 + 2 * P.1 3) m (mi_wI m2 56 0 (181 + 2 * P.1 3) (n32 a)) := ((r1.2.tr r2.2).mo (fun k i p a => Or.inl a)).wI (Or.inr ⟨rfl, rfl, rfl⟩)
  have r2' : rS (mi_wI m2 56 0 (181 + 2 * P.1 3) (n32 a)) L c s1.1 s1.2 := rp56 r2.1
  have w57 : (mi_wI m2 56 0 (181 + 2 * P.1 3) (n32 a)).1 56 0 (181 + 2 * P.1 3) = n32 a := rI_eq
  generalize mi_wI m2 56 0 (181 + 2 * P.1 3) (n32 a) = m3 at k2 r2' w57
  rw [pw_bo]
  refine pw_mono (show wo (f_X12_takeWord 4 m3) _ from pm_takeWord (w := 4) r2' hL (by decide)) ?_
  intro m4 r4
  have w57b : m4.1 56 0 (181 + 2 * P.1 3) = n32 a := by rw [r4.2.1 56 0 _ (by omega)]; exact w57
  have n4 : namM m4 L P.2.1 (P.1 0) := (hp.2.1.mv k2 (by omega) (fun p => by omega)).mv r4.2 (by omega) (fun p => by omega)
  rw [pw_g, w57b, pw_b]
  refine ⟨vin (by omega) (by decide), ?_⟩
  generalize hs2 : sx L (eW L 4) (s1.1, s1.2) = s2 at r4
  refine pw_mono (show wo (f_X12_takeOther (n32 a) 0 m4) _ from pm_takeOther (fl := 0) (T := P.1) (e := eO L P.2.1 (P.1 0) a) r4.1 hL n4 a6 (Or.inl rfl) (fun x => absurd x (by decide)) (if_neg (by decide)).symm) ?_
  rintro ⟨vb, m5⟩ ⟨r5, eb⟩
  simp only at r5 eb
  dsimp only
  rw [n32_al, pw_g, pw_let, n32_cl (by omega), pw_g, pw_g, pw_let, pw_some]
  refine ⟨vin (by omega) (by decide), vin (k := 103) (by decide) (by decide), vin (k := 103) (by decide) (by decide), ?_⟩
  have c102 : (mi_wI m5 56 0 (181 + 2 * P.1 3 + 1) vb).1 56 0 103 = n32 (P.1 3) := by rw [rI_ne (by omega), (r4.2.tr r5.2).1 56 0 103 (by omega), k2.1 56 0 103 (by omega)]; exact e2
  rw [c102, n32_al]
  generalize hs3 : sx L (eO L P.2.1 (P.1 0) a) (s2.1, s2.2) = s3 at r5
  have k7 : kp (fun k i p => k78 k i p ∨ k = 56 ∧ i = 0 ∧ (p = 181 + 2 * P.1 3 ∨ p = 182 + 2 * P.1 3 ∨ p = 103)) m (mi_wI (mi_wI m5 56 0 (181 + 2 * P.1 3 + 1) vb) 56 0 103 (n32 (P.1 3 + 1))) := (((k2.mo (fun k i p a => by omega)).tr ((r4.2.tr r5.2).mo (fun k i p a => Or.inl a))).wI (Or.inr ⟨rfl, rfl, by omega⟩)).wI (Or.inr ⟨rfl, rfl, by omega⟩)
  have r7' : rS (mi_wI (mi_wI m5 56 0 (181 + 2 * P.1 3 + 1) vb) 56 0 103 (n32 (P.1 3 + 1))) L c s3.1 s3.2 := rp56 (rp56 r5.1)
  have x57 : (mi_wI (mi_wI m5 56 0 (181 + 2 * P.1 3 + 1) vb) 56 0 103 (n32 (P.1 3 + 1))).1 56 0 (181 + 2 * P.1 3) = n32 a := by rw [rI_ne (by omega), rI_ne (by omega), r5.2.1 56 0 _ (by omega)]; exact w57b
  have x58 : (mi_wI (mi_wI m5 56 0 (181 + 2 * P.1 3 + 1) vb) 56 0 103 (n32 (P.1 3 + 1))).1 56 0 (181 + 2 * P.1 3 + 1) = vb := by rw [rI_ne (by omega), rI_eq]
  have x02 : (mi_wI (mi_wI m5 56 0 (181 + 2 * P.1 3 + 1) vb) 56 0 103 (n32 (P.1 3 + 1))).1 56 0 103 = n32 (P.1 3 + 1) := rI_eq
  generalize mi_wI (mi_wI m5 56 0 (181 + 2 * P.1 3 + 1) vb) 56 0 103 (n32 (P.1 3 + 1)) = m8 at k7 r7' x57 x58 x02
  have hx0 : (lnK L n P).1 = sx L (eS L 59) s3 := by
    have q1 : (lnK L n P).1 = sx L (eS L 59) (sx L (eO L P.2.1 (P.1 0) (fdN L P.2.1 (P.1 0) (n + 1))) (sx L (eW L 4) (sx L (eO L P.2.1 (P.1 0) 99) (n + 1, 0)))) := rfl
    have q2 : sx L (eO L P.2.1 (P.1 0) (fdN L P.2.1 (P.1 0) (n + 1))) s2 = sx L (eO L P.2.1 (P.1 0) a) s2 := sx_c (fun z => by
      rw [← hs2] at z
      rw [ha (sx_0 z).1])
    rw [q1, hs1, show sx L (eW L 4) s1 = s2 from hs2, q2, show sx L (eO L P.2.1 (P.1 0) a) s2 = s3 from hs3]
  refine mq_end (s := s3) hL r7' hx0 (fun z4 => ?_) (k7.mo (fun k i p a => by omega))
  have z5 : (sx L (eO L P.2.1 (P.1 0) a) s2).2 = 0 := by rw [show sx L (eO L P.2.1 (P.1 0) a) s2 = s3 from hs3]; exact z4
  obtain ⟨z6, z7, z8⟩ := sx_0 z5
  have z9 : (sx L (eW L 4) s1).2 = 0 := by rw [show sx L (eW L 4) s1 = s2 from hs2]; exact z6
  obtain ⟨y1, y2, y3⟩ := sx_0 z9
  have y4 : (sx L (eO L P.2.1 (P.1 0) 99) (n + 1, 0)).2 = 0 := by rw [hs1]; exact y1
  obtain ⟨-, u2, u3⟩ := sx_0 y4
  have s1e : s1 = (n + 2, 0) := by rw [← hs1]; exact u3
  have s2e : s2 = (n + 3, 0) := by rw [← hs2, s1e]; rw [s1e] at y3; exact y3
  have s3e : s3 = (n + 4, 0) := by rw [← hs3, s2e]; rw [s2e] at z8; exact z8
  have av := ha y1
  have vbe : vb = n32 (fdN L P.2.1 (P.1 0) (n + 3)) := by
    rw [eb, s2e]
    rw [s2e] at z7
    rw [if_pos]
    refine ⟨rfl, ?_⟩
    have := eO_2 (L := L) (nm := P.2.1) (k := P.1 0) (a := a) (n := n + 3) h60
    have z7 : eO L P.2.1 (P.1 0) a (n + 3) = 0 := z7
    by_cases q : eO L P.2.1 (P.1 0) 99 (n + 3) = 0
    · exact q
    · rw [if_neg q] at this
      exact absurd (this.symm.trans z7) q
  have sl : n ≤ s3.1 := by rw [s3e]; show n ≤ n + 4; omega
  refine ⟨fun q hq h2 => ?_, ?_, by rw [k7.1 12 0 17 (by omega)]; exact hp.2.2.1, hp.2.2.2.mv k7 (by omega) (fun l hl => by omega) (fun p => by omega) sl⟩
  · show m8.1 56 0 (100 + q) = n32 (upT (upT (upT P.1 (81 + 2 * P.1 3) (fdN L P.2.1 (P.1 0) (n + 1))) (82 + 2 * P.1 3) (fdN L P.2.1 (P.1 0) (n + 3))) 3 (P.1 3 + 1) q)
    by_cases y1 : q = 3
    · subst y1
      rw [up_e]
      exact x02
    · rw [up_n y1]
      by_cases y3 : q = 82 + 2 * P.1 3
      · rw [y3, up_e, show 100 + (82 + 2 * P.1 3) = 181 + 2 * P.1 3 + 1 by omega, x58, vbe]
      · rw [up_n y3]
        by_cases y4 : q = 81 + 2 * P.1 3
        · rw [y4, up_e, show 100 + (81 + 2 * P.1 3) = 181 + 2 * P.1 3 by omega, x57, av]
        · rw [up_n y4, k7.1 56 0 _ (by omega)]
          exact hp.1 q hq h2
  · show namM m8 L P.2.1 (upT (upT (upT P.1 (81 + 2 * P.1 3) (fdN L P.2.1 (P.1 0) (n + 1))) (82 + 2 * P.1 3) (fdN L P.2.1 (P.1 0) (n + 3))) 3 (P.1 3 + 1) 0)
    rw [up_n (by omega), up_n (by omega), up_n (by omega)]
    exact hp.2.1.mv k7 (by omega) (fun p => by omega)
theorem pm_readPerson {L : List Nat} {c n : Nat} {m : mi_M} {P : PS} (hL : tkN L c) (hn : n + 1 ≤ c) (h : rS m L c n 0) (hp : mP m L P n) (h60 : P.1 0 ≤ 6) : wo (mi_bo (f_X12_readPerson m) fun m36 => f_X12_takeSign (59 : Int32) m36) (mQ L c m (if P.1 0 = 6 then ((n, 5 + 16 * plT L n), P) else lnP L n P)) := by
  unfold f_X12_readPerson
  have e2 : m.1 56 0 100 = n32 (P.1 0) := hp.1 0 (by omega) (by omega)
  rw [pw_bo, show (100 : Int32).toNatClampNeg = 100 from rfl, pw_g, pw_let, e2]
  refine ⟨vin (k := 100) (by decide) (by decide), ?_⟩
  by_cases h8 : P.1 0 = 6
  · rw [if_pos h8, if_pos (by rw [h8]; rfl), pw_bo]
    refine pw_mono (pm_wrong (e := 5) h hL (by omega)) ?_
    intro m1 h1
    rw [pw_some]
    exact mq_bad hL h1.1 (by show 5 + 16 * plT L n ≠ 0; omega) rfl (h1.2.mo (fun k i p a => by omega))
  rw [if_neg h8, if_neg (by rw [n32_eqL (by omega) (by decide)]; exact h8), pw_let]
  have r1 := rp_at h hn
  generalize mi_wI m 12 0 7 (m.1 12 0 7 + 1) = m1 at r1
  have p1 := hp.mv r1.2 (Nat.le_succ n)
  have hx0 : (lnP L n P).1 = sx L (eS L 59) (sx L (eN L 0 1000) (sx L (eW L 1) (sx L (eK L) (sx L (eP L P.2.1 (P.1 0)) (n + 1, 0))))) := rfl
  have bad : ∀ e, e ≠ 0 → e < 10 → eP L P.2.1 (P.1 0) (n + 1) = e → wo (mi_bo (f_X12_wrong (n32 e) m1) fun m26 => f_X12_readPerson_J57 (n32 (P.1 0)) m26) (fun a => wo (f_X12_takeSign 59 a) (mQ L c m (lnP L n P))) := by
    intro e he he2 ee
    rw [pw_bo]
    refine pw_mono (pm_wrong (e := e) r1.1 hL he2) ?_
    intro m2 h2
    unfold f_X12_readPerson_J57
    rw [if_neg (fun x => absurd (h2.1.f0.2.mp x) (by show e + 16 * plT L (n + 1) ≠ 0; omega)), pw_some]
    have en : eP L P.2.1 (P.1 0) (n + 1) ≠ 0 := by omega
    rw [sx_i en, sx_i en, sx_i en, sx_i en, sx_n en, ee] at hx0
    exact mq_bad hL h2.1 (by show e + 16 * plT L (n + 1) ≠ 0; omega) hx0 ((r1.2.tr h2.2).mo (fun k i p a => by omega))
  rw [pm_isName r1.1 hL, pe_bo, if01]
  by_cases q : kD L (n + 1) = 2 ∧ 23 ≤ wX L (n + 1)
  · rw [if_pos (show (0 : Nat) = 0 ∧ kD L (n + 1) = 2 ∧ 23 ≤ wX L (n + 1) from ⟨rfl, q⟩), pm_find r1.1 hL p1.2.1 q.1, pe_bo]
    have fle := fnd_le (L := L) (nm := P.2.1) (k := P.1 0) (n := n + 1)
    by_cases f : fdN L P.2.1 (P.1 0) (n + 1) < P.1 0
    · rw [if_pos f, if_neg (show ¬ n32 (fdN L P.2.1 (P.1 0) (n + 1)) < 0 by rw [n32_nn (by omega)]; exact id)]
      exact bad 3 (by decide) (by decide) (by unfold eP; rw [if_pos q, if_pos f])
    · have fk : fdN L P.2.1 (P.1 0) (n + 1) = P.1 0 := by omega
      have ee : eP L P.2.1 (P.1 0) (n + 1) = 0 := by unfold eP; rw [if_pos q, if_neg f]
      have k6' : P.1 0 < 6 := by omega
      rw [if_neg f, if_pos (show (-1 : Int32) < 0 by decide)]
      rw [sx_y ee] at hx0
      unfold f_X12_readPerson_J57
      obtain ⟨in1, in2⟩ := r1.1.ix hL
      have e54 : m1.2.1 54 0 (n + 1) = n64 (nM L (n + 1)) := (r1.1.1.2.2.2 (n + 1) hn).2.2.1 q.1
      rw [if_pos (r1.1.f0.2.mpr rfl), pw_g, in2, pw_g, p1.2.1.2.1, n32_in (by omega), n32_cl (by omega), e54, pw_let, pw_let]
      refine ⟨in1, k6', ?_⟩
      have nc := hL.k hn (by omega)
      have ka : kp (fun k i p => i = 0 ∧ (k = 160 ∧ p = P.1 0 ∨ k = 12 ∧ p = 16)) m1 (mi_wI (mi_wL m1 60 0 (P.1 0) (n64 (nM L (n + 1)))) 12 0 16 ((mi_wL m1 60 0 (P.1 0) (n64 (nM L (n + 1)))).1 12 0 16 + 1)) := (kp.rf.wL ⟨rfl, by omega⟩).wI ⟨rfl, by omega⟩
      have wa : (mi_wI (mi_wL m1 60 0 (P.1 0) (n64 (nM L (n + 1)))) 12 0 16 ((mi_wL m1 60 0 (P.1 0) (n64 (nM L (n + 1)))).1 12 0 16 + 1)).1 12 0 16 = n32 (P.1 0 + 1) := by rw [rI_eq, rLI, p1.2.1.2.1, n32_al]
      have wb : (mi_wI (mi_wL m1 60 0 (P.1 0) (n64 (nM L (n + 1)))) 12 0 16 ((mi_wL m1 60 0 (P.1 0) (n64 (nM L (n + 1)))).1 12 0 16 + 1)).2.1 60 0 (P.1 0) = n64 (nM L (n + 1)) := by
        show (mi_wL m1 60 0 (P.1 0) (n64 (nM L (n + 1)))).2.1 60 0 (P.1 0) = _
        rw [rL, if_pos ⟨rfl, rfl, rfl⟩]
      generalize mi_wI (mi_wL m1 60 0 (P.1 0) (n64 (nM L (n + 1)))) 12 0 16 ((mi_wL m1 60 0 (P.1 0) (n64 (nM L (n + 1)))).1 12 0 16 + 1) = m2 at ka wa wb
      have r2 : rS m2 L c (n + 1) 0 := r1.1.mv ka (by omega) (by omega) (fun p => by omega) (fun i p a => by omega)
      have nm2 : namM m2 L (upT P.2.1 (P.1 0) (n + 1)) (P.1 0 + 1) := by
        obtain ⟨-, -, g3, g4⟩ := p1.2.1
        have ne : ∀ j, j < P.1 0 → nM L (P.2.1 j) ≠ nM L (n + 1) := fun j hj z => by
          have := (fnd_m (n := n + 1) hj g4).mp z
          omega
        refine ⟨by omega, wa, fun j hj => ?_, fun i j hi hj => ?_⟩
        · by_cases z : j = P.1 0
          · subst z
            rw [up_e]
            exact ⟨wb, q.1⟩
          · rw [up_n z, ka.2.1 60 0 j (by omega)]
            exact g3 j (by omega)
        · by_cases zi : i = P.1 0
          · by_cases zj : j = P.1 0
            · intro _; omega
            · subst zi
              rw [up_e, up_n zj]
              exact fun z => absurd z.symm (ne j (by omega))
          · by_cases zj : j = P.1 0
            · subst zj
              rw [up_e, up_n zi]
              exact fun z => absurd z (ne i (by omega))
            · rw [up_n zi, up_n zj]
              exact g4 i j (by omega) (by omega)
      rw [pw_let]
      have r3 := rp_at r2 (show n + 1 + 1 ≤ c by omega)
      generalize mi_wI m2 12 0 7 (m2.1 12 0 7 + 1) = m3 at r3
      rw [pw_b]
      refine pw_mono (pm_takeOne r3.1 hL) ?_
      rintro ⟨vk, m4⟩ ⟨r4, ek⟩
      simp only at r4 ek
      dsimp only
      rw [n32_lm, n32_la, pw_g, pw_let, n32_cl (by omega)]
      refine ⟨vin (by omega) (by decide), ?_⟩
      generalize hs1 : sx L (eK L) (n + 1 + 1, 0) = s1 at r4 ek
      have k4 : kp (fun k i p => k78 k i p ∨ i = 0 ∧ (k = 160 ∨ k = 12 ∧ p = 16) ∨ k = 56 ∧ i = 0 ∧ p = 109 + 2 * P.1 0) m (mi_wI m4 56 0 (109 + 2 * P.1 0) vk) := ((((r1.2.mo (fun k i p a => Or.inl a)).tr (ka.mo (fun k i p a => by omega))).tr (r3.2.mo (fun k i p a => Or.inl a))).tr (r4.2.mo (fun k i p a => Or.inl a))).wI (Or.inr (Or.inr ⟨rfl, rfl, rfl⟩))
      have nm4 : namM (mi_wI m4 56 0 (109 + 2 * P.1 0) vk) L (upT P.2.1 (P.1 0) (n + 1)) (P.1 0 + 1) := nam56 ((nm2.mv r3.2 (by omega) (fun p => by omega)).mv r4.2 (by omega) (fun p => by omega))
      have r4' : rS (mi_wI m4 56 0 (109 + 2 * P.1 0) vk) L c s1.1 s1.2 := rp56 r4.1
      have w09 : (mi_wI m4 56 0 (109 + 2 * P.1 0) vk).1 56 0 (109 + 2 * P.1 0) = vk := rI_eq
      generalize mi_wI m4 56 0 (109 + 2 * P.1 0) vk = m5 at k4 nm4 r4' w09
      rw [pw_b]
      refine pw_mono (show wo (f_X12_takeAfter 1 0 999 m5) _ from pm_takeAfter (w := 1) (lo := 0) (hx := 1000) r4' hL (by decide) (by decide) (by decide)) ?_
      rintro ⟨vc, m6⟩ ⟨r6, ec⟩
      simp only at r6 ec
      dsimp only
      rw [n32_al, pw_g, pw_let, n32_cl (by omega), pw_g, pw_g, pw_let, pw_some]
      refine ⟨vin (by omega) (by decide), vin (k := 100) (by decide) (by decide), vin (k := 100) (by decide) (by decide), ?_⟩
      have c100 : (mi_wI m6 56 0 (109 + 2 * P.1 0 + 1) vc).1 56 0 100 = n32 (P.1 0) := by rw [rI_ne (by omega), r6.2.1 56 0 100 (by omega), k4.1 56 0 100 (by omega)]; exact e2
      rw [show (100 : Int32).toNatClampNeg = 100 from rfl, c100, n32_al]
      have k7 : kp (fun k i p => k78 k i p ∨ i = 0 ∧ (k = 160 ∨ k = 12 ∧ p = 16) ∨ k = 56 ∧ i = 0 ∧ (p = 109 + 2 * P.1 0 ∨ p = 110 + 2 * P.1 0 ∨ p = 100)) m (mi_wI (mi_wI m6 56 0 (109 + 2 * P.1 0 + 1) vc) 56 0 100 (n32 (P.1 0 + 1))) := (((k4.mo (fun k i p a => by omega)).tr (r6.2.mo (fun k i p a => Or.inl a))).wI (by omega)).wI (by omega)
      have nm7 : namM (mi_wI (mi_wI m6 56 0 (109 + 2 * P.1 0 + 1) vc) 56 0 100 (n32 (P.1 0 + 1))) L (upT P.2.1 (P.1 0) (n + 1)) (P.1 0 + 1) := nam56 (nam56 (nm4.mv r6.2 (by omega) (fun p => by omega)))
      generalize hs3 : sx L (eN L 0 1000) (sx L (eW L 1) (s1.1, s1.2)) = s3 at r6 ec
      have r7' : rS (mi_wI (mi_wI m6 56 0 (109 + 2 * P.1 0 + 1) vc) 56 0 100 (n32 (P.1 0 + 1))) L c s3.1 s3.2 := rp56 (rp56 r6.1)
      have x09 : (mi_wI (mi_wI m6 56 0 (109 + 2 * P.1 0 + 1) vc) 56 0 100 (n32 (P.1 0 + 1))).1 56 0 (109 + 2 * P.1 0) = vk := by rw [rI_ne (by omega), rI_ne (by omega), r6.2.1 56 0 _ (by omega)]; exact w09
      have x10 : (mi_wI (mi_wI m6 56 0 (109 + 2 * P.1 0 + 1) vc) 56 0 100 (n32 (P.1 0 + 1))).1 56 0 (109 + 2 * P.1 0 + 1) = vc := by rw [rI_ne (by omega), rI_eq]
      have x00 : (mi_wI (mi_wI m6 56 0 (109 + 2 * P.1 0 + 1) vc) 56 0 100 (n32 (P.1 0 + 1))).1 56 0 100 = n32 (P.1 0 + 1) := rI_eq
      generalize mi_wI (mi_wI m6 56 0 (109 + 2 * P.1 0 + 1) vc) 56 0 100 (n32 (P.1 0 + 1)) = m8 at k7 nm7 r7' x09 x10 x00
      have hx1 : (lnP L n P).1 = sx L (eS L 59) s3 := by rw [hx0, hs1, show sx L (eN L 0 1000) (sx L (eW L 1) s1) = s3 from hs3]
      refine mq_end (s := s3) hL r7' hx1 (fun z4 => ?_) (k7.mo (fun k i p a => by omega))
      have z5 : (sx L (eN L 0 1000) (sx L (eW L 1) s1)).2 = 0 := by rw [show sx L (eN L 0 1000) (sx L (eW L 1) s1) = s3 from hs3]; exact z4
      obtain ⟨z6, z7, z8⟩ := sx_0 z5
      obtain ⟨y1, y2, y3⟩ := sx_0 z6
      have y4 : (sx L (eK L) (n + 1 + 1, 0)).2 = 0 := by rw [hs1]; exact y1
      have s1e : s1 = (n + 3, 0) := by rw [← hs1]; exact (sx_0 y4).2.2
      rw [if_pos y1] at ek
      have vce : vc = n32 (vL L (n + 4)) := by rw [ec z4, s1e]
      have s3e : s3 = (n + 5, 0) := by
        rw [← hs3]
        show sx L (eN L 0 1000) (sx L (eW L 1) s1) = _
        rw [z8, y3, s1e]
      refine ⟨fun x hx h2 => ?_, ?_, by rw [k7.1 12 0 17 (by omega)]; exact hp.2.2.1, hp.2.2.2.mv k7 (by omega) (fun l hl => by omega) (fun p => by omega) (by rw [s3e]; show n ≤ n + 5; omega)⟩
      · show m8.1 56 0 (100 + x) = n32 (upT (upT (upT P.1 (9 + 2 * P.1 0) (wX L (n + 2) - 16)) (10 + 2 * P.1 0) (vL L (n + 4))) 0 (P.1 0 + 1) x)
        by_cases y1 : x = 0
        · subst y1
          rw [up_e]
          exact x00
        · rw [up_n y1]
          by_cases y3 : x = 10 + 2 * P.1 0
          · rw [y3, up_e, show 100 + (10 + 2 * P.1 0) = 109 + 2 * P.1 0 + 1 by omega, x10, vce]
          · rw [up_n y3]
            by_cases y4 : x = 9 + 2 * P.1 0
            · rw [y4, up_e, show 100 + (9 + 2 * P.1 0) = 109 + 2 * P.1 0 by omega, x09, ek]
            · rw [up_n y4, k7.1 56 0 _ (by omega)]
              exact hp.1 x hx h2
      · show namM m8 L (upT P.2.1 (P.1 0) (n + 1)) (upT (upT (upT P.1 (9 + 2 * P.1 0) (wX L (n + 2) - 16)) (10 + 2 * P.1 0) (vL L (n + 4))) 0 (P.1 0 + 1) 0)
        rw [up_e]
        exact nm7
  · rw [if_neg (show ¬ ((0 : Nat) = 0 ∧ kD L (n + 1) = 2 ∧ 23 ≤ wX L (n + 1)) from fun x => q x.2)]
    exact bad 1 (by decide) (by decide) (by unfold eP; rw [if_neg q])
