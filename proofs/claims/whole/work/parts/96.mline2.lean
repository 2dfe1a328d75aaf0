theorem pm_readWrong {L : List Nat} {c n : Nat} {m : mi_M} {P : PS} (hL : tkN L c) (hn : n + 1 ≤ c) (h : rS m L c n 0) (hp : mP m L P n) (hP : pOK P) : wo (mi_bo (f_X12_readWrong m) fun m36 => f_X12_takeSign (59 : Int32) m36) (mQ L c m (if P.1 2 = 8 then ((n, 5 + 16 * plT L n), P) else lnW L n P)) := by
  have h60 := hP.1.1.1
  have h82 := hP.1.1.2.1
  unfold f_X12_readWrong
  have e2 : m.1 56 0 102 = n32 (P.1 2) := hp.1 2 (by omega) (by omega)
  rw [pw_bo, show (102 : Int32).toNatClampNeg = 102 from rfl, pw_g, pw_let, e2]
  refine ⟨vin (k := 102) (by decide) (by decide), ?_⟩
  by_cases h8 : P.1 2 = 8
  · rw [if_pos h8, if_pos (by rw [h8]; rfl), pw_bo]
    refine pw_mono (pm_wrong (e := 5) h hL (by omega)) ?_
    intro m1 h1
    rw [pw_some]
    exact mq_bad hL h1.1 (by show 5 + 16 * plT L n ≠ 0; omega) rfl (h1.2.mo (fun k i p a => by omega))
  rw [if_neg h8, if_neg (by rw [n32_eqL (by omega) (by decide)]; exact h8), pw_let, pw_let, pw_b]
  have r1 := rp_at h hn
  generalize mi_wI m 12 0 7 (m.1 12 0 7 + 1) = m1 at r1
  have p1 := hp.mv r1.2 (Nat.le_succ n)
  refine pw_mono (pm_takeTold r1.1 hL p1.2.1) ?_
  rintro ⟨va, m2⟩ ⟨r2, ea⟩
  simp only at r2 ea
  obtain ⟨a, a6, ea2, ha⟩ := told_ok (L := L) (nm := P.2.1) (n := n + 1) h60
  rw [ea2] at ea
  subst ea
  have w8 : P.1 2 < 8 := by omega
  generalize hs1 : sx L (eO L P.2.1 (P.1 0) 99) (n + 1, 0) = s1 at r2 ha
  dsimp only
  rw [n32_lm, n32_la, pw_g, pw_let, n32_cl (by omega)]
  refine ⟨vin (by omega) (by decide), ?_⟩
  have k2 : kp (fun k i p => k78 k i p ∨ k = 56 ∧ i = 0 ∧ p = 157 + 3 * P.1 2) m (mi_wI m2 56 0 (157 + 3 * P.1 2) (n32 a)) := ((r1.2.tr r2.2).mo (fun k i p a => Or.inl a)).wI (Or.inr ⟨rfl, rfl, rfl⟩)
  have r2' : rS (mi_wI m2 56 0 (157 + 3 * P.1 2) (n32 a)) L c s1.1 s1.2 := rp56 r2.1
  have w57 : (mi_wI m2 56 0 (157 + 3 * P.1 2) (n32 a)).1 56 0 (157 + 3 * P.1 2) = n32 a := rI_eq
  generalize mi_wI m2 56 0 (157 + 3 * P.1 2) (n32 a) = m3 at k2 r2' w57
  rw [pw_bo]
  refine pw_mono (show wo (f_X12_takeWord 4 m3) _ from pm_takeWord (w := 4) r2' hL (by decide)) ?_
  intro m4 r4
  have w57b : m4.1 56 0 (157 + 3 * P.1 2) = n32 a := by rw [r4.2.1 56 0 _ (by omega)]; exact w57
  have n4 : namM m4 L P.2.1 (P.1 0) := (hp.2.1.mv k2 (by omega) (fun p => by omega)).mv r4.2 (by omega) (fun p => by omega)
  rw [pw_g, w57b, pw_b]
  refine ⟨vin (by omega) (by decide), ?_⟩
  generalize hs2 : sx L (eW L 4) (s1.1, s1.2) = s2 at r4
  refine pw_mono (show wo (f_X12_takeOther (n32 a) 0 m4) _ from pm_takeOther (fl := 0) (T := P.1) (e := eO L P.2.1 (P.1 0) a) r4.1 hL n4 a6 (Or.inl rfl) (fun x => absurd x (by decide)) (if_neg (by decide)).symm) ?_
  rintro ⟨vb, m5⟩ ⟨r5, eb⟩
  simp only at r5 eb
  dsimp only
  rw [n32_al, pw_g, pw_let, n32_cl (by omega)]
  refine ⟨vin (by omega) (by decide), ?_⟩
  generalize hs3 : sx L (eO L P.2.1 (P.1 0) a) (s2.1, s2.2) = s3 at r5
  have k5 : kp (fun k i p => k78 k i p ∨ k = 56 ∧ i = 0 ∧ (p = 157 + 3 * P.1 2 ∨ p = 158 + 3 * P.1 2)) m (mi_wI m5 56 0 (157 + 3 * P.1 2 + 1) vb) := ((k2.mo (fun k i p a => by omega)).tr ((r4.2.tr r5.2).mo (fun k i p a => Or.inl a))).wI (Or.inr ⟨rfl, rfl, by omega⟩)
  have r5' : rS (mi_wI m5 56 0 (157 + 3 * P.1 2 + 1) vb) L c s3.1 s3.2 := rp56 r5.1
  have w57c : (mi_wI m5 56 0 (157 + 3 * P.1 2 + 1) vb).1 56 0 (157 + 3 * P.1 2) = n32 a := by rw [rI_ne (by omega), r5.2.1 56 0 _ (by omega)]; exact w57b
  have w58 : (mi_wI m5 56 0 (157 + 3 * P.1 2 + 1) vb).1 56 0 (157 + 3 * P.1 2 + 1) = vb := rI_eq
  generalize mi_wI m5 56 0 (157 + 3 * P.1 2 + 1) vb = m6 at k5 r5' w57c w58
  rw [pw_b]
  refine pw_mono (show wo (f_X12_takeAfter 5 1 9 m6) _ from pm_takeAfter (w := 5) (lo := 1) (hx := 10) r5' hL (by decide) (by decide) (by decide)) ?_
  rintro ⟨vv, m7⟩ ⟨r7, ev⟩
  simp only at r7 ev
  dsimp only
  rw [n32_al, pw_g, pw_let, n32_cl (by omega), pw_g, pw_g, pw_let, pw_some]
  refine ⟨vin (by omega) (by decide), vin (k := 102) (by decide) (by decide), vin (k := 102) (by decide) (by decide), ?_⟩
  have c102 : (mi_wI m7 56 0 (157 + 3 * P.1 2 + 2) vv).1 56 0 102 = n32 (P.1 2) := by rw [rI_ne (by omega), r7.2.1 56 0 102 (by omega), k5.1 56 0 102 (by omega)]; exact e2
  rw [c102, n32_al]
  have k7 : kp (fun k i p => k78 k i p ∨ k = 56 ∧ i = 0 ∧ (p = 157 + 3 * P.1 2 ∨ p = 158 + 3 * P.1 2 ∨ p = 159 + 3 * P.1 2 ∨ p = 102)) m (mi_wI (mi_wI m7 56 0 (157 + 3 * P.1 2 + 2) vv) 56 0 102 (n32 (P.1 2 + 1))) := (((k5.mo (fun k i p a => by omega)).tr (r7.2.mo (fun k i p a => Or.inl a))).wI (Or.inr ⟨rfl, rfl, by omega⟩)).wI (Or.inr ⟨rfl, rfl, by omega⟩)
  generalize hs4 : sx L (eN L 1 10) (sx L (eW L 5) (s3.1, s3.2)) = s4 at r7 ev
  have r7' : rS (mi_wI (mi_wI m7 56 0 (157 + 3 * P.1 2 + 2) vv) 56 0 102 (n32 (P.1 2 + 1))) L c s4.1 s4.2 := rp56 (rp56 r7.1)
  have x57 : (mi_wI (mi_wI m7 56 0 (157 + 3 * P.1 2 + 2) vv) 56 0 102 (n32 (P.1 2 + 1))).1 56 0 (157 + 3 * P.1 2) = n32 a := by rw [rI_ne (by omega), rI_ne (by omega), r7.2.1 56 0 _ (by omega)]; exact w57c
  have x58 : (mi_wI (mi_wI m7 56 0 (157 + 3 * P.1 2 + 2) vv) 56 0 102 (n32 (P.1 2 + 1))).1 56 0 (157 + 3 * P.1 2 + 1) = vb := by rw [rI_ne (by omega), rI_ne (by omega), r7.2.1 56 0 _ (by omega)]; exact w58
  have x59 : (mi_wI (mi_wI m7 56 0 (157 + 3 * P.1 2 + 2) vv) 56 0 102 (n32 (P.1 2 + 1))).1 56 0 (157 + 3 * P.1 2 + 2) = vv := by rw [rI_ne (by omega), rI_eq]
  have x02 : (mi_wI (mi_wI m7 56 0 (157 + 3 * P.1 2 + 2) vv) 56 0 102 (n32 (P.1 2 + 1))).1 56 0 102 = n32 (P.1 2 + 1) := rI_eq
  generalize mi_wI (mi_wI m7 56 0 (157 + 3 * P.1 2 + 2) vv) 56 0 102 (n32 (P.1 2 + 1)) = m8 at k7 r7' x57 x58 x59 x02
  have hx0 : (lnW L n P).1 = sx L (eS L 59) s4 := by
    have q1 : (lnW L n P).1 = sx L (eS L 59) (sx L (eN L 1 10) (sx L (eW L 5) (sx L (eO L P.2.1 (P.1 0) (fdN L P.2.1 (P.1 0) (n + 1))) (sx L (eW L 4) (sx L (eO L P.2.1 (P.1 0) 99) (n + 1, 0)))))) := rfl
    have q2 : sx L (eO L P.2.1 (P.1 0) (fdN L P.2.1 (P.1 0) (n + 1))) s2 = sx L (eO L P.2.1 (P.1 0) a) s2 := sx_c (fun z => by
      rw [← hs2] at z
      rw [ha (sx_0 z).1])
    rw [q1, hs1, show sx L (eW L 4) s1 = s2 from hs2, q2, show sx L (eO L P.2.1 (P.1 0) a) s2 = s3 from hs3, show sx L (eN L 1 10) (sx L (eW L 5) s3) = s4 from hs4]
  refine mq_end (s := s4) hL r7' hx0 (fun z => ?_) (k7.mo (fun k i p a => by omega))
  have zz : (lnW L n P).1.2 = 0 ∨ (lnW L n P).1.2 ≠ 0 := by omega
  rw [← hs4] at z
  obtain ⟨z3, -, -⟩ := sx_0 z
  obtain ⟨z4, -, -⟩ := sx_0 z3
  have z4 : s3.2 = 0 := z4
  have z5 : (sx L (eO L P.2.1 (P.1 0) a) s2).2 = 0 := by rw [show sx L (eO L P.2.1 (P.1 0) a) s2 = s3 from hs3]; exact z4
  obtain ⟨z6, z7, z8⟩ := sx_0 z5
  have z9 : (sx L (eW L 4) s1).2 = 0 := by rw [show sx L (eW L 4) s1 = s2 from hs2]; exact z6
  obtain ⟨y1, y2, y3⟩ := sx_0 z9
  have y4 : (sx L (eO L P.2.1 (P.1 0) 99) (n + 1, 0)).2 = 0 := by rw [hs1]; exact y1
  obtain ⟨-, u2, u3⟩ := sx_0 y4
  have s1e : s1 = (n + 2, 0) := by rw [← hs1]; exact u3
  have s2e : s2 = (n + 3, 0) := by rw [← hs2, s1e]; rw [s1e] at y3; exact y3
  have s3e : s3 = (n + 4, 0) := by rw [← hs3, s2e]; rw [s2e] at z8; exact z8
  have av := ha y1
  have vbe : vb = n32 (fdN L P.2.1 (P.1 0) (n + 3)) := by
    rw [eb, s2e]
    rw [s2e] at z7
    rw [if_pos]
    refine ⟨rfl, ?_⟩
    have := eO_2 (L := L) (nm := P.2.1) (k := P.1 0) (a := a) (n := n + 3) h60
    have z7 : eO L P.2.1 (P.1 0) a (n + 3) = 0 := z7
    by_cases q : eO L P.2.1 (P.1 0) 99 (n + 3) = 0
    · exact q
    · rw [if_neg q] at this
      exact absurd (this.symm.trans z7) q
  have vve : vv = n32 (vL L (n + 5)) := by
    have := ev (by rw [← hs4]; exact z)
    rw [this, s3e]
  have sl : n ≤ s4.1 := by
    have := (sx_0 z).2.2
    rw [hs4] at this
    obtain ⟨-, -, q3⟩ := sx_0 z3
    have q4 : (sx L (eW L 5) (s3.1, s3.2)).1 = n + 5 := by rw [q3, s3e]
    rw [this, q4]
    omega
  refine ⟨fun q hq h2 => ?_, ?_, by rw [k7.1 12 0 17 (by omega)]; exact hp.2.2.1, hp.2.2.2.mv k7 (by omega) (fun l hl => by omega) (fun p => by omega) sl⟩
  · show m8.1 56 0 (100 + q) = n32 (upT (upT (upT (upT P.1 (57 + 3 * P.1 2) (fdN L P.2.1 (P.1 0) (n + 1))) (58 + 3 * P.1 2) (fdN L P.2.1 (P.1 0) (n + 3))) (59 + 3 * P.1 2) (vL L (n + 5))) 2 (P.1 2 + 1) q)
    by_cases y1 : q = 2
    · subst y1
      rw [up_e]
      exact x02
    · rw [up_n y1]
      by_cases y2 : q = 59 + 3 * P.1 2
      · rw [y2, up_e, show 100 + (59 + 3 * P.1 2) = 157 + 3 * P.1 2 + 2 by omega, x59, vve]
      · rw [up_n y2]
        by_cases y3 : q = 58 + 3 * P.1 2
        · rw [y3, up_e, show 100 + (58 + 3 * P.1 2) = 157 + 3 * P.1 2 + 1 by omega, x58, vbe]
        · rw [up_n y3]
          by_cases y4 : q = 57 + 3 * P.1 2
          · rw [y4, up_e, show 100 + (57 + 3 * P.1 2) = 157 + 3 * P.1 2 by omega, x57, av]
          · rw [up_n y4, k7.1 56 0 _ (by omega)]
            exact hp.1 q hq h2
  · show namM m8 L P.2.1 (upT (upT (upT (upT P.1 (57 + 3 * P.1 2) (fdN L P.2.1 (P.1 0) (n + 1))) (58 + 3 * P.1 2) (fdN L P.2.1 (P.1 0) (n + 3))) (59 + 3 * P.1 2) (vL L (n + 5))) 2 (P.1 2 + 1) 0)
    rw [up_n (by omega), up_n (by omega), up_n (by omega), up_n (by omega)]
    exact hp.2.1.mv k7 (by omega) (fun p => by omega)
