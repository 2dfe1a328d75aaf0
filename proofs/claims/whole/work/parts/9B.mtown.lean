theorem pm_lines {m : mi_M} {L : List Nat} {c : Nat} (hL : tkN L c) (h : rS m L c 0 0) (hp : mP m L P0 0) : wo (mi_lp f_X12_town_B30 mi_fu m) (fun m' => ∃ n, rS m' L c n (lns L 1001 0 P0).1 ∧ ((lns L 1001 0 P0).1 = 0 → mP m' L (lns L 1001 0 P0).2 n ∧ pOK (lns L 1001 0 P0).2) ∧ kp (fun k i p => kLm k i p) m m') := by
  have hc := hL.c
  generalize hR : lns L 1001 0 P0 = R
  refine pl_for (fun k m1 => kp (fun k i p => kLm k i p) m m1 ∧ ((∃ n P, rS m1 L c n 0 ∧ mP m1 L P n ∧ pOK P ∧ k ≤ n ∧ lns L (1001 - k) n P = R) ∨ (∃ n, rS m1 L c n R.1 ∧ R.1 ≠ 0))) 1001 (by omega) ⟨kp.rf, Or.inl ⟨0, P0, h, hp, P0_ok, by omega, hR⟩⟩ ?_
  rintro k m1 hk ⟨b1, b2⟩
  unfold f_X12_town_B30
  rcases b2 with ⟨n, P, g1, g2, g3, g4, g5⟩ | ⟨n, g1, g2⟩
  · have ms := mS_k _ (kD_lt L n)
    obtain ⟨in1, in2⟩ := g1.ix hL
    have nc := g1.2.2.1
    rw [show 1001 - k = (1000 - k) + 1 by omega, lns_s] at g5
    rw [if_pos (g1.f0.1.mpr rfl), pw_g, in2, g1.s]
    refine ⟨in1, ?_⟩
    by_cases z : kD L n = 0
    · rw [if_pos z] at g5
      subst g5
      rw [if_pos (ms.2.2.2.mpr z), pw_some, lr_r]
      exact ⟨n, g1, fun _ => ⟨g2, g3⟩, b1⟩
    · rw [if_neg z] at g5
      rw [if_neg (fun x => z (ms.2.2.2.mp x))]
      have hl := pm_readLine hL nc g1 g2 g3
      rw [pw_bo] at hl
      rw [pw_bo]
      refine pw_mono hl ?_
      intro m2 h2
      rw [pw_bo]
      refine pw_mono h2 ?_
      intro m3 h3
      rw [pw_some, lr_l]
      refine ⟨by omega, b1.tr h3.2.2, ?_⟩
      obtain ⟨v1, v2⟩ := ln_b (P := P) hL nc
      by_cases q : (ln L n P).1.2 = 0
      · rw [if_pos q] at g5
        have := v2 q
        refine Or.inl ⟨_, _, ?_, h3.2.1 q, ln_ok hL nc g3 q, by omega, by rw [show 1001 - (k + 1) = 1000 - k by omega]; exact g5⟩
        have h31 := h3.1
        rw [q] at h31
        exact h31
      · rw [if_neg q] at g5
        subst g5
        exact Or.inr ⟨_, h3.1, q⟩
  · rw [if_neg (fun x => g2 (g1.f0.1.mp x)), pw_some, lr_r]
    exact ⟨n, g1, fun x => absurd x g2, b1⟩
abbrev kRt (k i p : Nat) : Prop := i = 0 ∧ (k = 12 ∧ (p = 0 ∨ p = 2 ∨ p = 3 ∨ p = 7 ∨ p = 8 ∨ p = 13 ∨ p = 16 ∨ p = 17) ∨ k = 56 ∧ 100 ≤ p ∨ (k = 57 ∨ k = 58) ∧ 1100 ≤ p ∨ k = 160 ∨ k = 52 ∨ k = 53 ∨ k = 154)
abbrev kRg (k i p : Nat) : Prop := kRt k i p ∨ i = 0 ∧ (k = 56 ∨ k = 57 ∨ k = 58 ∨ k = 159) ∨ kBg k i p
theorem pm_copy1 {m : mi_M} : wo (mi_lp f_X12_town_B76 mi_fu ((0 : Int32), m)) (fun m' => (∀ q, q < 100 → m'.1 56 0 q = m.1 56 0 (100 + q)) ∧ kp (fun k i p => k = 56 ∧ i = 0 ∧ p < 100) m m') := by
  refine pl_for (fun k z => z.1 = n32 k ∧ (∀ q, q < k → z.2.1 56 0 q = m.1 56 0 (100 + q)) ∧ kp (fun k i p => k = 56 ∧ i = 0 ∧ p < 100) m z.2) 100 (by omega) ⟨rfl, fun q hq => absurd hq (by omega), kp.rf⟩ ?_
  rintro k ⟨l, m1⟩ hk ⟨b1, b2, b3⟩
  simp only at b1 b2 b3
  subst b1
  unfold f_X12_town_B76
  dsimp only
  simp (disch := omega) only [pw_if, pw_some, n32_Lle, lr_r, lr_l, pw_g, pw_let, n32_in, n32_cl, n32_al, n32_la]
  refine ⟨fun x => ⟨fun q hq => b2 q (by omega), b3⟩, fun x => ⟨by omega, by omega, by omega, by trivial, fun q hq => ?_, b3.wI ⟨rfl, rfl, by omega⟩⟩⟩
  by_cases e : q = k
  · subst e; rw [rI_eq, b3.1 56 0 _ (by omega)]
  · rw [rI_ne (by omega)]; exact b2 q (by omega)
theorem pm_copy2 {m : mi_M} {c : Nat} (hc : m.1 12 0 13 = n32 c) (h : c ≤ 1000) : wo (mi_lp f_X12_town_B105 mi_fu ((0 : Int32), m)) (fun m' => (∀ q, q < c → m'.1 57 0 q = m.1 57 0 (1100 + q) ∧ m'.1 58 0 q = m.1 58 0 (1100 + q)) ∧ kp (fun k i p => (k = 57 ∨ k = 58) ∧ i = 0 ∧ p < 1100) m m') := by
  refine pl_for (fun k z => z.1 = n32 k ∧ (∀ q, q < k → z.2.1 57 0 q = m.1 57 0 (1100 + q) ∧ z.2.1 58 0 q = m.1 58 0 (1100 + q)) ∧ kp (fun k i p => (k = 57 ∨ k = 58) ∧ i = 0 ∧ p < 1100) m z.2) c (by omega) ⟨rfl, fun q hq => absurd hq (by omega), kp.rf⟩ ?_
  rintro k ⟨l, m1⟩ hk ⟨b1, b2, b3⟩
  simp only at b1 b2 b3
  subst b1
  have e13 : m1.1 12 0 13 = n32 c := by rw [b3.1 12 0 13 (by omega)]; exact hc
  unfold f_X12_town_B105
  dsimp only
  rw [e13]
  simp (disch := omega) only [pw_if, pw_some, n32_le, lr_r, lr_l, pw_g, pw_let, n32_in, n32_cl, n32_al, n32_la]
  refine ⟨fun x => ⟨fun q hq => b2 q (by omega), b3⟩, fun x => ⟨by omega, by omega, by omega, by omega, by omega, by trivial, fun q hq => ?_, (b3.wI (by omega)).wI (by omega)⟩⟩
  by_cases e : q = k
  · subst e
    rw [rI_ne (by omega), rI_eq, rI_eq, rI_ne (by omega), b3.1 57 0 _ (by omega), b3.1 58 0 _ (by omega)]
    exact ⟨rfl, rfl⟩
  · rw [rI_ne (by omega), rI_ne (by omega), rI_ne (by omega), rI_ne (by omega)]; exact b2 q (by omega)
theorem pm_copy3 {m : mi_M} {c : Nat} (hc : m.1 12 0 16 = n32 c) (h : c ≤ 6) : wo (mi_lp f_X12_town_B153 mi_fu ((0 : Int32), m)) (fun m' => kp (fun k i p => k = 159 ∧ i = 0) m m') := by
  refine pl_for (fun k z => z.1 = n32 k ∧ kp (fun k i p => k = 159 ∧ i = 0) m z.2) c (by omega) ⟨rfl, kp.rf⟩ ?_
  rintro k ⟨l, m1⟩ hk ⟨b1, b3⟩
  simp only at b1 b3
  subst b1
  have e16 : m1.1 12 0 16 = n32 c := by rw [b3.1 12 0 16 (by omega)]; exact hc
  unfold f_X12_town_B153
  dsimp only
  rw [e16]
  simp (disch := omega) only [pw_if, pw_some, n32_le, lr_r, lr_l, pw_g, pw_let, n32_in, n32_cl, n32_al]
  exact ⟨fun x => b3, fun x => ⟨by omega, by omega, by omega, by trivial, b3.wL ⟨rfl, rfl⟩⟩⟩
theorem pm_town {m : mi_M} {L : List Nat} (hL : okL L) (h : tpM m L) (hw : pWords m) : wo (f_X12_town m) (fun r => r.1 = n32 (lns L 1001 0 P0).1 ∧ r.2.1 12 0 2 = 0 ∧ ((lns L 1001 0 P0).1 ≠ 0 → kp (fun k i p => kRt k i p) m r.2) ∧ ((lns L 1001 0 P0).1 = 0 → mT r.2 (lns L 1001 0 P0).2.1 (lns L 1001 0 P0).2.2.2.2 ∧ (mSt r.2 0 (begS (lns L 1001 0 P0).2.1) ∧ r.2.1 12 0 24 = 0 ∧ r.2.1 64 0 38 = 0 ∧ r.2.1 61 0 0 = 0 ∧ r.2.1 12 0 22 = 0 ∧ ∀ k, k < 4 → r.2.1 65 0 k = 0) ∧ kp (fun k i p => kRg k i p) m r.2)) := by
  unfold f_X12_town
  rw [pw_let]
  have k1 : kp (fun k i p => i = 0 ∧ k = 12 ∧ p = 0) m (mi_wI m 12 0 0 0) := kp.rf.wI ⟨rfl, rfl, rfl⟩
  generalize mi_wI m 12 0 0 0 = m1 at k1
  rw [pw_bo]
  refine pw_mono (pm_cutAll (h.mv k1 (fun p x => by omega) (by omega)) hL) ?_
  rintro m2 ⟨⟨c, c1, c2, c3, c4⟩, z2, z7, z8, k2⟩
  have tk : tkN L c := ⟨hL, c1, c2, c3⟩
  rw [pw_let, pw_let, pw_let, pw_bo]
  have k5 : kp (fun k i p => i = 0 ∧ k = 12 ∧ (p = 13 ∨ p = 16 ∨ p = 17)) m2 (mi_wI (mi_wI (mi_wI m2 12 0 13 0) 12 0 16 0) 12 0 17 0) := ((kp.rf.wI ⟨rfl, rfl, by omega⟩).wI ⟨rfl, rfl, by omega⟩).wI ⟨rfl, rfl, by omega⟩
  have w13 : (mi_wI (mi_wI (mi_wI m2 12 0 13 0) 12 0 16 0) 12 0 17 0).1 12 0 13 = 0 := by rw [rI_ne (by omega), rI_ne (by omega), rI_eq]
  have w16 : (mi_wI (mi_wI (mi_wI m2 12 0 13 0) 12 0 16 0) 12 0 17 0).1 12 0 16 = 0 := by rw [rI_ne (by omega), rI_eq]
  have w17 : (mi_wI (mi_wI (mi_wI m2 12 0 13 0) 12 0 16 0) 12 0 17 0).1 12 0 17 = 0 := rI_eq
  generalize mi_wI (mi_wI (mi_wI m2 12 0 13 0) 12 0 16 0) 12 0 17 0 = m5 at k5 w13 w16 w17
  refine pw_mono (show wo (f_X12_standsAsAlways 100 m5) _ from pm_always (a := 100) (by omega)) ?_
  rintro m6 ⟨al, k6'⟩
  have cc : cutC m6 L c := ((show cutC m2 L c from ⟨c1, c2, c3, c4⟩).mv k5 (fun p => by omega)).mv k6' (fun p => by omega)
  have kb : kp (fun k i p => kRt k i p) m m6 := (((k1.mo (fun k i p a => by omega)).tr (k2.mo (fun k i p a => by omega))).tr (k5.mo (fun k i p a => by omega))).tr (k6'.mo (fun k i p a => by omega))
  have r6 : rS m6 L c 0 0 := ⟨cc, hw.mv kb (fun i p a => by omega), by omega, by rw [k6'.1 12 0 7 (by omega), k5.1 12 0 7 (by omega)]; exact z7, by rw [k6'.1 12 0 8 (by omega), k5.1 12 0 8 (by omega)]; exact z8, by omega⟩
  have tz : ∀ q, q ≠ 4 → t0A q = 0 := fun q hq => if_neg hq
  have p6 : mP m6 L P0 0 := by
    refine ⟨fun q hq h2 => ?_, ⟨?_, ?_, fun j hj => ?_, fun i j hi => ?_⟩, ?_, 0, ?_, by omega, fun l hl => Or.inl ⟨rfl, ?_, rfl⟩⟩
    · show m6.1 56 0 (100 + q) = n32 (t0A q)
      rw [al q hq]
      by_cases e : q = 4
      · subst e; rfl
      · rw [if_neg e, if_neg (by omega), tz q e]; rfl
    · show t0A 0 ≤ 6
      rw [tz 0 (by omega)]; omega
    · show m6.1 12 0 16 = n32 (t0A 0)
      rw [k6'.1 12 0 16 (by omega), w16, tz 0 (by omega)]; rfl
    · have hj : j < t0A 0 := hj
      rw [tz 0 (by omega)] at hj
      exact absurd hj (by omega)
    · have hi : i < t0A 0 := hi
      rw [tz 0 (by omega)] at hi
      exact absurd hi (by omega)
    · show m6.1 12 0 17 = n32 (bs (fun _ => false) 5)
      rw [k6'.1 12 0 17 (by omega), w17]; decide
    · rw [k6'.1 12 0 13 (by omega), w13]; rfl
    · have := al (6 + l) (by omega)
      rw [if_neg (by omega), if_pos (by omega), show 100 + (6 + l) = 106 + l by omega] at this
      exact this
  rw [pw_bo]
  refine pw_mono (pm_lines tk r6 p6) ?_
  rintro m7 ⟨n, r7, q7, k7⟩
  generalize lns L 1001 0 P0 = R at r7 q7
  have kb7 : kp (fun k i p => kRt k i p) m m7 := kb.tr (k7.mo (fun k i p a => by omega))
  have z27 : m7.1 12 0 2 = 0 := by rw [k7.1 12 0 2 (by omega), k6'.1 12 0 2 (by omega), k5.1 12 0 2 (by omega)]; exact z2
  unfold f_X12_town_K30
  by_cases zR : R.1 = 0
  · rw [if_pos (r7.f0.2.mpr zR), pw_bo]
    obtain ⟨p7, ok⟩ := q7 zR
    obtain ⟨t7, n7, o7, q, q1, q2, q3⟩ := p7
    have nc := r7.2.2.1
    have hc := tk.c
    refine pw_mono (pm_copy1 (m := m7)) ?_
    rintro m8 ⟨e8, k8⟩
    unfold f_X12_town_K76
    rw [pw_bo]
    refine pw_mono (pm_copy2 (m := m8) (c := q) (by rw [k8.1 12 0 13 (by omega)]; exact q1) (by omega)) ?_
    rintro m9 ⟨e9, k9⟩
    unfold f_X12_town_K105
    rw [pw_bo]
    refine pw_mono (pm_copy3 (m := m9) (c := R.2.1 0) (by rw [k9.1 12 0 16 (by omega), k8.1 12 0 16 (by omega)]; exact n7.2.1) n7.1) ?_
    intro mA kA
    have tw : mTw mA R.2.1 := by
      intro x hx h2
      rw [kA.1 56 0 x (by omega), k9.1 56 0 x (by omega), e8 x hx]
      exact t7 x hx h2
    unfold f_X12_town_K153
    rw [pw_bo]
    refine pw_mono (pm_begins tw ok.1) ?_
    rintro mB ⟨s1, s2, s3, s4, s5, s6, kB⟩
    rw [pw_some]
    have kall : kp (fun k i p => kRg k i p) m mB := ((((kb7.mo (fun k i p a => Or.inl a)).tr (k8.mo (fun k i p a => by omega))).tr (k9.mo (fun k i p a => by omega))).tr (kA.mo (fun k i p a => by omega))).tr (kB.mo (fun k i p a => Or.inr (Or.inr a)))
    refine ⟨by rw [zR]; rfl, ?_, fun x => absurd zR x, fun _ => ⟨⟨⟨tw.mv kB (fun p hp x => by omega), ok⟩, fun l hl => ?_⟩, ⟨s1, s2, s3, s4, s5, s6⟩, kall⟩⟩
    · show mB.1 12 0 2 = 0
      rw [kB.1 12 0 2 (by omega), kA.1 12 0 2 (by omega), k9.1 12 0 2 (by omega), k8.1 12 0 2 (by omega)]; exact z27
    · have l6 : mB.1 56 0 (6 + l) = m7.1 56 0 (106 + l) := by
        rw [kB.1 56 0 _ (by omega), kA.1 56 0 _ (by omega), k9.1 56 0 _ (by omega), e8 _ (by omega)]
        rw [show 100 + (6 + l) = 106 + l by omega]
      show (mB.1 56 0 (6 + l) = -1 ∧ _) ∨ ∃ q, mB.1 56 0 (6 + l) = n32 q ∧ _
      rw [l6]
      rcases q3 l hl with ⟨-, g2, g3⟩ | ⟨-, f, g2, g3, g4, g5⟩
      · exact Or.inl ⟨g2, g3⟩
      · have c57 : ∀ x, x < q → mB.1 57 0 x = m7.1 57 0 (1100 + x) ∧ mB.1 58 0 x = m7.1 58 0 (1100 + x) := fun x hx => by
          rw [kB.1 57 0 x (by omega), kA.1 57 0 x (by omega), kB.1 58 0 x (by omega), kA.1 58 0 x (by omega), (e9 x hx).1, (e9 x hx).2, k8.1 57 0 _ (by omega), k8.1 58 0 _ (by omega)]
          exact ⟨rfl, rfl⟩
        refine Or.inr ⟨f, g2, by omega, fun k hk => ?_, ?_⟩
        · rw [(c57 (f + k) (by omega)).1, (c57 (f + k) (by omega)).2]
          exact g4 k hk
        · rw [(c57 _ g3).1]
          exact g5
  · rw [if_neg (fun x => zR (r7.f0.2.mp x)), pw_some]
    exact ⟨r7.2.2.2.2.1, z27, fun _ => kb7, fun x => absurd x zR⟩
