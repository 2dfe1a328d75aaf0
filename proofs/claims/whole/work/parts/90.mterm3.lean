theorem opc_f : ∀ x, x < 26 → 23 ≤ x → opc (-1 - n32 (x - 23)) = (2, n32 (x - 23)) := by decide
theorem pm_part1 {L : List Nat} {c f : Nat} (hL : tkN L c) (i1 : rA L c f) (d n : Nat) (r : (Nat × Nat) ⊕ (Nat × List Int32)) (m : mi_M) (q g : Nat) (h2 : d ≤ 5) (h3 : n ≤ c) (h : pt L (f + 1) 4 d n = some r) (hr : rS m L c n 0) (hu : m.1 12 0 13 = n32 q) (hqn : q ≤ n) (hg : 5 * (5 - d) + 1 ≤ g) : wo (md5 g 4 (n32 d) m) (tM L c n q m r) := by
  obtain ⟨g', rfl⟩ : ∃ g', g = g' + 1 := ⟨g - 1, by omega⟩
  have e : md5 (g' + 1) 4 (n32 d) m = f_X12_takePart_ (fg_X12_all g') (n32 d) m := rfl
  rw [e]
  have wk : wX L n < 26 → kD L n = 2 := wX_k
  have xl := wX_le L n
  have kl := kD_lt L n
  have vl := vL_lt hL.1 n
  have hc := hL.c
  have ms := mS_k _ kl
  obtain ⟨in1, in2⟩ := hr.ix hL
  rw [pt_p] at h
  have five : ∀ (u2 v3 : Int32), wo (mi_bo (f_X12_wrong (5 : Int32) m) fun m24 => f_X12_takePart_J79 (fg_X12_all g') (n32 d) u2 v3 m24) (tM L c n q m (.inl (5, n))) := by
    intro u2 v3
    rw [pw_bo]
    refine pw_mono (pm_wrong (e := 5) hr hL (by omega)) ?_
    intro m1 h1
    unfold f_X12_takePart_J79
    rw [if_neg (fun x => absurd (h1.1.f0.2.mp x) (by show 5 + 16 * plT L n ≠ 0; omega)), pw_some]
    exact tM_l h1.1 ⟨q, by omega, by omega, by rw [h1.2.1 12 0 13 (by omega)]; exact hu⟩ (h1.2.mo (fun k i p a => by omega))
  have j69 : ∀ (u2 v3 : Int32) (r0 : (Nat × Nat) ⊕ (Nat × List Int32)), (d < 5 → wo (f_X12_takePart_J79 (fg_X12_all g') (n32 d) u2 v3 m) (tM L c n q m r0)) → wo (f_X12_takePart_J69 (fg_X12_all g') (n32 d) m u2 v3) (tM L c n q m (if d < 5 then r0 else .inl (5, n))) := by
    intro u2 v3 r0 hh
    unfold f_X12_takePart_J69
    by_cases qd : d < 5
    · rw [if_neg (by rw [n32_eqL (by omega) (by decide)]; show ¬ d = 5; omega), if_pos qd]
      exact hh qd
    · have : d = 5 := by omega
      rw [if_pos (by rw [this]; rfl), if_neg qd]
      exact five u2 v3
  have hw0 : f_X12_isWord 20 m = _ := pm_isWord0 (w := 20) hr hL (by decide)
  have hs0 : f_X12_isSign 40 m = _ := pm_isSign0 (ch := 40) hr hL (by decide)
  have hh3 : f_X12_wordHere 23 3 m = some (if 23 ≤ wX L n ∧ wX L n < 26 then n32 (wX L n - 23) else -1) := by
    have := pm_wordHere (f := 23) (k := 3) hr hL (by omega)
    simp only [true_and] at this
    exact this
  unfold f_X12_takePart_
  rw [if_pos (hr.f0.2.mpr rfl), pw_g, in2, hr.s]
  refine ⟨in1, ?_⟩
  unfold f_X12_takePart_J26
  rw [hh3, pe_bo, pe_bo, hs0, hw0]
  -- a hasWord, a hasSign that find nothing
  have none2 : wX L n ≠ 20 → ¬ (kD L n = 4 ∧ vL L n = 40) → ∀ (u2 v3 : Int32) (r0 : (Nat × Nat) ⊕ (Nat × List Int32)), (∀ m9, rP L c m (n, 0) m9 → wo (if u2 = 0 then f_X12_takePart_J147 u2 v3 m9 2 else f_X12_takePart_J147 u2 v3 m9 1) (tM L c n q m r0)) → wo (f_X12_takePart_J79 (fg_X12_all g') (n32 d) u2 v3 m) (tM L c n q m r0) := by
    intro n1 n2 u2 v3 r0 hh
    unfold f_X12_takePart_J79
    rw [if_pos (hr.f0.2.mpr rfl), pw_b]
    refine pw_mono (show wo (f_X12_hasWord 20 m) _ from pm_hasWord (w := 20) hr hL (by decide)) ?_
    rintro ⟨x, m6⟩ ⟨a1, a2⟩
    simp only [true_and] at a1 a2
    rw [if_neg n1] at a1 a2
    dsimp only
    rw [if_pos a1, pw_b]
    refine pw_mono (show wo (f_X12_hasSign 40 m6) _ from pm_hasSign (ch := 40) a2.1 hL (by decide)) ?_
    rintro ⟨y, m9⟩ ⟨b1, b2⟩
    simp only [true_and] at b1 b2
    rw [if_neg n2] at b1 b2
    dsimp only
    rw [if_pos b1]
    exact hh m9 (a2.tr b2)
  have emit1 : ∀ (s a b : Int32) (m9 : mi_M), n < c → rP L c m (n, 0) m9 → opc s = (a, b) → wo (f_X12_takePart_J165 m9 a b) (tM L c n q m (.inr (n + 1, [s]))) := by
    intro s a b m9 nc h9 hs
    unfold f_X12_takePart_J165 f_X12_takePart_J178
    rw [pw_bo]
    have c0 : emC m9 q [] := ⟨by rw [h9.2.1 12 0 13 (by omega)]; exact hu, fun k hk => absurd hk (Nat.not_lt_zero _)⟩
    refine pw_mono (c0.put (s := s) (by show q + 0 < 1100; omega) hs) ?_
    rintro m12 ⟨b1, b2⟩
    have r12 := h9.1.em b2
    have r13 := rp_at r12 (show n + 1 ≤ c by omega)
    rw [pw_let, pw_some]
    refine tM_r r13.1 ⟨?_, fun k hk => ?_⟩ ((h9.2.mo (fun k i p a => by omega)).tr ((b2.mo (fun k i p a => by omega)).tr (r13.2.mo (fun k i p a => by omega))))
    · rw [r13.2.1 12 0 13 (by omega)]; exact b1.1
    · rw [r13.2.1 57 0 _ (by omega), r13.2.1 58 0 _ (by omega)]; exact b1.2 k hk
  by_cases q1 : wX L n = 20
  · have k2 := wk (by omega)
    have nc := hL.k h3 (by omega)
    rw [if_pos q1] at h
    have x3 : ¬ (23 ≤ wX L n ∧ wX L n < 26) := by omega
    have x4 : ¬ (kD L n = 4 ∧ vL L n = 40) := by omega
    rw [if_neg (fun x => absurd (ms.2.1.mp x) (by omega)), if_neg x3, if_neg (show ¬ (0 : Int32) ≤ -1 by decide), if_pos rfl, pe_bo, if_neg x4, if_pos rfl, pe_bo, if_pos q1, if_neg (show ¬ (1 : Int32) = 0 by decide)]
    obtain ⟨r0, e0, e1⟩ : ∃ r0, r = (if d < 5 then r0 else .inl (5, n)) ∧ (d < 5 → (bn (pt L f 4 (d + 1) (n + 1)) fun n1 c1 => some (.inr (n1, c1 ++ [-4]))) = some r0) := by
      by_cases qd : d < 5
      · rw [if_pos qd] at h
        exact ⟨r, by rw [if_pos qd], fun _ => h⟩
      · rw [if_neg qd] at h
        exact ⟨r, by rw [if_neg qd]; exact (Option.some.inj h).symm, fun x => absurd x qd⟩
    rw [e0]
    refine j69 _ _ r0 (fun qd => ?_)
    unfold f_X12_takePart_J79
    rw [if_pos (hr.f0.2.mpr rfl), pw_b]
    refine pw_mono (show wo (f_X12_hasWord 20 m) _ from pm_hasWord (w := 20) hr hL (by decide)) ?_
    rintro ⟨x, m6⟩ ⟨a1, a2⟩
    simp only [true_and] at a1 a2
    rw [if_pos q1] at a1 a2
    dsimp only
    rw [a1, if_neg (by decide), n32_al]
    obtain ⟨r1, p1, p2⟩ : ∃ r1, pt L f 4 (d + 1) (n + 1) = some r1 ∧ r0 = rmp r1 (-4) := by
      rcases bn_inv (e1 qd) with ⟨x, y1, y2⟩ | ⟨n1, c1, y1, y2⟩
      · exact ⟨_, y1, y2⟩
      · exact ⟨_, y1, (Option.some.inj y2).symm⟩
    rw [p2]
    have op := pm_opnd (s := -4) (a := 3) (b := 0) (g := g') hL i1 (by omega) (show d + 1 ≤ 5 by omega) (by omega) p1 a2.1 (by rw [a2.2.1 12 0 13 (by omega)]; exact hu) hqn (by omega) (by decide)
    rw [pw_bo] at op
    rw [pw_bo]
    refine pw_mono op ?_
    intro m7 h7
    rw [pw_bo]
    unfold f_X12_takePart_J178
    exact pw_mono h7 (fun m9 h9 => pw_some.mpr (h9.pre (a2.2.mo (fun k i p a => by omega))))
  · rw [if_neg q1] at h
    by_cases q2 : kD L n = 4 ∧ vL L n = 40
    · have nc := hL.k h3 (by omega)
      rw [if_pos q2] at h
      have x3 : ¬ (23 ≤ wX L n ∧ wX L n < 26) := fun x => absurd (wk x.2) (by omega)
      rw [if_neg (fun x => absurd (ms.2.1.mp x) (by omega)), if_neg x3, if_neg (show ¬ (0 : Int32) ≤ -1 by decide), if_pos rfl, pe_bo, if_pos q2, if_neg (show ¬ (1 : Int32) = 0 by decide)]
      obtain ⟨r0, e0, e1⟩ : ∃ r0, r = (if d < 5 then r0 else .inl (5, n)) ∧ (d < 5 → (bn (pt L f 0 (d + 1) (n + 1)) fun n1 c1 => (if kD L n1 = 4 ∧ vL L n1 = 41 then some (.inr (n1 + 1, c1)) else some (.inl (1, n1)))) = some r0) := by
        by_cases qd : d < 5
        · rw [if_pos qd] at h
          exact ⟨r, by rw [if_pos qd], fun _ => h⟩
        · rw [if_neg qd] at h
          exact ⟨r, by rw [if_neg qd]; exact (Option.some.inj h).symm, fun x => absurd x qd⟩
      rw [e0]
      refine j69 _ _ r0 (fun qd => ?_)
      unfold f_X12_takePart_J79
      rw [if_pos (hr.f0.2.mpr rfl), pw_b]
      refine pw_mono (show wo (f_X12_hasWord 20 m) _ from pm_hasWord (w := 20) hr hL (by decide)) ?_
      rintro ⟨x, m6⟩ ⟨a1, a2⟩
      simp only [true_and] at a1 a2
      rw [if_neg q1] at a1 a2
      dsimp only
      rw [if_pos a1, pw_b]
      refine pw_mono (show wo (f_X12_hasSign 40 m6) _ from pm_hasSign (ch := 40) a2.1 hL (by decide)) ?_
      rintro ⟨y, m9⟩ ⟨b1, b2⟩
      simp only [true_and] at b1 b2
      rw [if_pos q2] at b1 b2
      dsimp only
      rw [b1, if_neg (by decide), n32_al, pw_bo]
      have b3 := a2.tr b2
      have u9 : m9.1 12 0 13 = n32 q := by rw [b3.2.1 12 0 13 (by omega)]; exact hu
      unfold f_X12_takePart_J178
      rcases bn_inv (e1 qd) with ⟨⟨k, nf⟩, y1, y2⟩ | ⟨n1, c1, y1, y2⟩
      · obtain ⟨o1, o2, o3, o4⟩ := ((pt_b hL f).1 _ _ _ _ (by omega) (by omega) (by omega) y1).1 k nf rfl
        refine pw_mono (show wo ((fg_X12_all g').1 (n32 (d + 1)) m9) _ from i1 0 (d + 1) (n + 1) _ m9 q g' (by omega) (by omega) (by omega) y1 b3.1 u9 (by omega) (by omega)) ?_
        intro m17 h17
        obtain ⟨f1, q', f2, f3, f4⟩ := h17.1 k nf rfl
        rw [pw_bo, y2]
        refine pw_mono (show wo (f_X12_takeSign 41 m17) _ from pm_takeSign (ch := 41) f1 hL (by decide)) ?_
        intro m18 h18
        rw [sx_f (by omega)] at h18
        exact pw_some.mpr (tM_l h18.1 ⟨q', f2, by omega, by rw [h18.2.1 12 0 13 (by omega)]; exact f4⟩ (((b3.2.mo (fun k i p a => by omega)).tr h17.2.2).tr (h18.2.mo (fun k i p a => by omega))))
      · obtain ⟨o1, o2, o3, o4, o5⟩ := ((pt_b hL f).1 _ _ _ _ (by omega) (by omega) (by omega) y1).2 n1 c1 rfl
        refine pw_mono (show wo ((fg_X12_all g').1 (n32 (d + 1)) m9) _ from i1 0 (d + 1) (n + 1) _ m9 q g' (by omega) (by omega) (by omega) y1 b3.1 u9 (by omega) (by omega)) ?_
        intro m17 h17
        obtain ⟨f1, f2⟩ := h17.2.1 n1 c1 rfl
        rw [pw_bo]
        refine pw_mono (show wo (f_X12_takeSign 41 m17) _ from pm_takeSign (ch := 41) f1 hL (by decide)) ?_
        intro m18 h18
        have kk : kp (fun k i p => kE q k i p) m m18 := ((b3.2.mo (fun k i p a => by omega)).tr h17.2.2).tr (h18.2.mo (fun k i p a => by omega))
        refine pw_some.mpr ?_
        by_cases q3 : kD L n1 = 4 ∧ vL L n1 = 41
        · rw [sx_y (show eS L 41 n1 = 0 from if_pos q3)] at h18
          rw [if_pos q3] at y2
          rw [← Option.some.inj y2]
          refine tM_r h18.1 ⟨by rw [h18.2.1 12 0 13 (by omega)]; exact f2.1, fun k hk => ?_⟩ kk
          rw [h18.2.1 57 0 _ (by omega), h18.2.1 58 0 _ (by omega)]
          exact f2.2 k hk
        · have es : eS L 41 n1 = 1 := if_neg q3
          rw [sx_n (by omega), es] at h18
          rw [if_neg q3] at y2
          rw [← Option.some.inj y2]
          exact tM_l h18.1 ⟨q + c1.length, by omega, by omega, by rw [h18.2.1 12 0 13 (by omega)]; exact f2.1⟩ kk
    · rw [if_neg q2] at h
      by_cases q3 : 23 ≤ wX L n ∧ wX L n < 26
      · have k2 := wk (by omega)
        have nc := hL.k h3 (by omega)
        rw [if_pos q3] at h
        rw [if_neg (fun x => absurd (ms.2.1.mp x) (by omega)), if_pos q3, if_pos (n32_ge0 (by omega))]
        have e0 : r = (if d < 5 then (.inr (n + 1, [-1 - n32 (wX L n - 23)])) else .inl (5, n)) := by
          by_cases qd : d < 5
          · rw [if_pos qd] at h ⊢; exact (Option.some.inj h).symm
          · rw [if_neg qd] at h ⊢; exact (Option.some.inj h).symm
        rw [e0]
        refine j69 _ _ _ (fun qd => none2 q1 q2 _ _ _ (fun m9 h9 => ?_))
        rw [if_pos rfl]
        unfold f_X12_takePart_J147
        rw [if_pos rfl]
        exact emit1 _ _ _ m9 nc h9 (opc_f _ q3.2 q3.1)
      · rw [if_neg q3] at h
        by_cases q4 : kD L n = 3
        · have nc := hL.k h3 (by omega)
          rw [if_pos q4] at h
          rw [if_pos (ms.2.1.mpr q4), if_neg q3, if_neg (show ¬ (0 : Int32) ≤ -1 by decide), if_neg (show ¬ (1 : Int32) = 0 by decide)]
          have e0 : r = (if d < 5 then (.inr (n + 1, [n32 (vL L n)])) else .inl (5, n)) := by
            by_cases qd : d < 5
            · rw [if_pos qd] at h ⊢; exact (Option.some.inj h).symm
            · rw [if_neg qd] at h ⊢; exact (Option.some.inj h).symm
          rw [e0]
          refine j69 _ _ _ (fun qd => none2 q1 q2 _ _ _ (fun m9 h9 => ?_))
          rw [if_neg (by decide)]
          unfold f_X12_takePart_J147
          obtain ⟨x1, x2⟩ := h9.1.ix hL
          have e54 : m9.2.1 54 0 n = n64 (vL L n) := by
            have := (h9.1.1.2.2.2 n h3).2.2.2.1 q4
            unfold vL
            rw [if_pos (show kdT L (plT L n) = 3 from q4)]
            exact this
          rw [if_neg (by decide), pw_g, x2, e54, n64_32 (by omega)]
          exact ⟨x1, emit1 _ _ _ m9 nc h9 (opc_n vl)⟩
        · rw [if_neg q4] at h
          rw [if_neg (fun x => q4 (ms.2.1.mp x)), if_neg q3, if_neg (show ¬ (0 : Int32) ≤ -1 by decide), if_pos rfl, pe_bo, if_neg q2, if_pos rfl, pe_bo, if_neg q1, if_pos rfl, ← Option.some.inj h, pw_bo]
          refine pw_mono (pm_wrong (e := 1) hr hL (by omega)) ?_
          intro m1 h1
          unfold f_X12_takePart_J79
          rw [if_neg (fun x => absurd (h1.1.f0.2.mp x) (by show 1 + 16 * plT L n ≠ 0; omega)), pw_some]
          exact tM_l h1.1 ⟨q, by omega, by omega, by rw [h1.2.1 12 0 13 (by omega)]; exact hu⟩ (h1.2.mo (fun k i p a => by omega))
theorem pm_rank1 {L : List Nat} {c f : Nat} (hL : tkN L c) (i1 : rA L c f) (i3 : rC L c f) : rA L c (f + 1) := by
  intro md d n r m q g h1 h2 h3 h hr hu hqn hg
  have hc := hL.c
  by_cases hm : md < 4
  · obtain ⟨g', rfl⟩ : ∃ g', g = g' + 1 := ⟨g - 1, by omega⟩
    apply rk_step hm
    rw [pt_t hm] at h
    rw [pw_bo]
    rcases bn_inv h with ⟨⟨k, nf⟩, a1, a2⟩ | ⟨n1, c1, a1, a2⟩
    · obtain ⟨o1, o2, o3, o4⟩ := ((pt_b hL f).1 _ _ _ _ (by omega) h2 h3 a1).1 k nf rfl
      refine pw_mono (i1 (md + 1) d n _ m q g' (by omega) h2 h3 a1 hr hu hqn (by omega)) ?_
      intro m1 hm1
      obtain ⟨e1, q', e2, e3, e4⟩ := hm1.1 k nf rfl
      rw [a2]
      refine pw_mono (lp_exit hm e1 hL (Or.inl (by omega)) (by unfold mi_fu; omega)) ?_
      intro m' hm'
      exact tM_l hm'.1 ⟨q', e2, e3, by rw [hm'.2.1 12 0 13 (by omega)]; exact e4⟩ (hm1.2.2.tr (hm'.2.mo (fun k i p a => by omega)))
    · obtain ⟨o1, o2, o3, o4, o5⟩ := ((pt_b hL f).1 _ _ _ _ (by omega) h2 h3 a1).2 n1 c1 rfl
      refine pw_mono (i1 (md + 1) d n _ m q g' (by omega) h2 h3 a1 hr hu hqn (by omega)) ?_
      intro m1 hm1
      obtain ⟨e1, e2⟩ := hm1.2.1 n1 c1 rfl
      obtain ⟨r2, a3, a4, a5⟩ : ∃ r2, pt L f (md + 5) d n1 = some r2 ∧ (∀ x, r2 = .inl x → r = .inl x) ∧ ∀ n2 c2, r2 = .inr (n2, c2) → r = .inr (n2, c1 ++ c2) := by
        rcases bn_inv a2 with ⟨x, a3, a4⟩ | ⟨n2, c2, a3, a4⟩
        · exact ⟨_, a3, fun y hy => (by rw [a4, Sum.inl.inj hy]), fun n2 c2 hy => (by cases hy)⟩
        · refine ⟨_, a3, fun y hy => (by cases hy), fun n3 c3 hy => ?_⟩
          have hy := Sum.inr.inj hy
          have y1 : n2 = n3 := congrArg Prod.fst hy
          have y2 : c2 = c3 := congrArg Prod.snd hy
          subst y1 y2
          exact (Option.some.inj a4).symm
      refine pw_mono (i3 md d n1 r2 m1 (q + c1.length) g' mi_fu hm h2 o2 a3 e1 e2.1 (by omega) (by omega) (by unfold mi_fu; omega)) ?_
      intro m' hm'
      exact tM.app e2 hm1.2.2 hm' (fun k nf hk => by
        subst hk
        exact (((pt_b hL f).2 _ _ _ _ hm h2 o2 a3).1 k nf rfl).1) (by omega) (by omega) a4 a5
  · have : md = 4 := by omega
    subst this
    exact pm_part1 hL i1 d n r m q g h2 h3 h hr hu hqn (by omega)
theorem pm_term {L : List Nat} {c : Nat} (hL : tkN L c) : ∀ f, rA L c f ∧ rC L c f
  | 0 => ⟨fun md d n r m q g _ _ _ h => (by cases h), fun qq d n r m q g fu _ _ _ h => (by cases h)⟩
  | f + 1 => by
    obtain ⟨i1, i3⟩ := pm_term hL f
    exact ⟨pm_rank1 hL i1 i3, pm_loop1 hL i1 i3⟩
theorem pm_all {L : List Nat} {c n q : Nat} {m : mi_M} {r : (Nat × Nat) ⊕ (Nat × List Int32)} (hL : tkN L c) (hn : n ≤ c) (h : pt L 17000 0 0 n = some r) (hr : rS m L c n 0) (hu : m.1 12 0 13 = n32 q) (hq : q ≤ n) : wo (f_X12_all (0 : Int32) m) (tM L c n q m r) := by
  unfold f_X12_all
  exact (pm_term hL 17000).1 0 0 n r m q mi_dp (by omega) (by omega) hn h hr hu hq (by decide)
