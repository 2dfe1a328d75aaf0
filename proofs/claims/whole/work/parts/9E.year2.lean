abbrev kYt (e k i p : Nat) : Prop := i = 0 ∧ (k = 6 ∨ k = 106 ∧ p = 4 ∨ k = 7 ∧ p = 1) ∨ (k = 10 ∨ k = 48 ∨ k = 49 ∨ k = 50) ∧ i = e
theorem pc_readYear {m : mi_M} {L : List Nat} {c e W : Nat} (hL : tkN L c) (h : tpC m L) (hW : W ≤ 8) : wo (f_X7_readYear e (n32 W) m) (fun r => r.1 = n32 (yls L W 1001 0 Y0).1 ∧ (yls L W 1001 0 Y0).1 < 100000 ∧ ((yls L W 1001 0 Y0).1 = 0 → dY r.2 e (yls L W 1001 0 Y0).2 ∧ yOK W (yls L W 1001 0 Y0).2) ∧ r.2.1 6 0 0 = 0 ∧ kp (fun k i p => kYt e k i p) m r.2) := by
  have hc := hL.c
  unfold f_X7_readYear
  rw [pw_let, pw_let, pw_bo]
  have k2 : kp (fun k i p => k = 10 ∧ i = e ∧ p = 0 ∨ k = 7 ∧ i = 0 ∧ p = 1) m (mi_wI (mi_wI m 10 e 0 0) 7 0 1 0) := (kp.rf.wI (Or.inl ⟨rfl, rfl, rfl⟩)).wI (Or.inr ⟨rfl, rfl, rfl⟩)
  have f2 : (mi_wI (mi_wI m 10 e 0 0) 7 0 1 0).1 7 0 1 = 0 := rI_eq
  have g2 : (mi_wI (mi_wI m 10 e 0 0) 7 0 1 0).1 10 e 0 = 0 := by rw [rI_ne (by omega), rI_eq]
  generalize mi_wI (mi_wI m 10 e 0 0) 7 0 1 0 = m2 at k2 f2 g2
  have t2 : tpC m2 L := h.mv k2 (fun p x => by omega) (by omega)
  unfold f_X6_rewind
  rw [pw_let]
  have kw : kp (fun k i p => i = 0 ∧ k = 6 ∧ p = 6) m2 (mi_wI m2 6 0 6 0) := kp.rf.wI ⟨rfl, rfl, rfl⟩
  have w6 : (mi_wI m2 6 0 6 0).1 6 0 6 = n32 0 := rI_eq
  generalize mi_wI m2 6 0 6 0 = m2' at kw w6
  rw [pw_bo]
  refine pw_mono (pc_advance (t2.mv kw (fun p x => by omega) (by omega)) hL.1 (Nat.zero_le _) w6) ?_
  rintro m3 ⟨a1, a2, a3⟩
  rw [pw_some]
  have k3' : kp (fun k i p => k6 k i p) m2 m3 := (kw.mo (fun k i p a => by omega)).tr a3
  have f3 : m3.1 7 0 1 = 0 := by rw [k3'.1 7 0 1 (by omega)]; exact f2
  have d3 : dT m3 L 0 := ⟨a1, a2, f3⟩
  have y3 : dY m3 e Y0 := ⟨by rw [k3'.1 10 e 0 (by omega), g2]; rfl, fun k hk => absurd hk (Nat.not_lt_zero _)⟩
  have kb : kp (fun k i p => kYt e k i p) m m3 := (k2.mo (fun k i p a => by omega)).tr (k3'.mo (fun k i p a => by omega))
  rw [pw_bo]
  generalize hR : yls L W 1001 0 Y0 = R
  refine pl_for (fun k z => z.2.1 = n32 k ∧ kp (fun k i p => kYt e k i p) m z.2.2 ∧ ((z.1 = 1 ∧ ∃ n Y, dT z.2.2 L n ∧ dY z.2.2 e Y ∧ yOK W Y ∧ n ≤ c ∧ k ≤ n ∧ yls L W (1001 - k) n Y = R) ∨ (z.1 = 0 ∧ z.2.2.1 7 0 1 = n32 R.1 ∧ R.1 ≠ 0 ∧ R.1 < 100000))) 1000 (by omega) ⟨rfl, kb, Or.inl ⟨rfl, 0, Y0, d3, y3, Y0_ok, by omega, by omega, hR⟩⟩ ?_
  rintro k ⟨l6, l7, m4⟩ hk ⟨b1, b2, b3⟩
  simp only at b1 b2 b3
  subst b1
  have fin : m4.1 7 0 1 = n32 R.1 → R.1 < 100000 → (R.1 = 0 → dY m4 e R.2 ∧ yOK W R.2) → wo (f_X7_readYear_K22 m4) (fun r => r.1 = n32 R.1 ∧ R.1 < 100000 ∧ (R.1 = 0 → dY r.2 e R.2 ∧ yOK W R.2) ∧ r.2.1 6 0 0 = 0 ∧ kp (fun k i p => kYt e k i p) m r.2) := by
    intro g1 g2 g3
    unfold f_X7_readYear_K22
    rw [pw_let, pw_some]
    have kz : kp (fun k i p => i = 0 ∧ k = 6 ∧ p = 0) m4 (mi_wI m4 6 0 0 0) := kp.rf.wI ⟨rfl, rfl, rfl⟩
    exact ⟨by show (mi_wI m4 6 0 0 0).1 7 0 1 = _; rw [rI_ne (by omega)]; exact g1, g2, fun x => ⟨(g3 x).1.mv kz (fun k p a => by omega), (g3 x).2⟩, rI_eq, b2.tr (kz.mo (fun k i p a => by omega))⟩
  unfold f_X7_readYear_B22
  dsimp only
  rcases b3 with ⟨e1, n, Y, g1, g2, g3, g4, g5, g6⟩ | ⟨e1, g1, g2, g3⟩
  · subst e1
    have kl := kD_lt L n
    rw [pw_if, n32_Lle (by omega) (by decide), pw_some, lr_r, if_neg (show ¬ (1 : Int32) = 0 by decide), g1.k]
    have done : kD L n = 0 → wo (f_X7_readYear_K22 m4) (fun r => r.1 = n32 R.1 ∧ R.1 < 100000 ∧ (R.1 = 0 → dY r.2 e R.2 ∧ yOK W R.2) ∧ r.2.1 6 0 0 = 0 ∧ kp (fun k i p => kYt e k i p) m r.2) := by
      intro z
      rw [show 1001 - k = (1000 - k) + 1 by omega, yls_s, if_pos z] at g6
      subst g6
      exact fin g1.2.2 (by show 0 < 100000; omega) (fun _ => ⟨g2, g3⟩)
    refine ⟨fun x => done ?_, fun x => ?_⟩
    · have x : 1000 ≤ k := x
      by_cases y : kD L n = 0
      · exact y
      · have := hL.k g4 y
        omega
    · have x : ¬ 1000 ≤ k := x
      rw [pw_if, pw_some, lr_r]
      refine ⟨fun y => done ?_, fun y => ?_⟩
      · exact (n32_eq (b := 0) (by omega) (by omega)).mp y
      · have y : kD L n ≠ 0 := fun z => y (by rw [z]; rfl)
        rw [pw_b]
        refine pw_mono (pc_yearLine hL hW g1 g2 g3.1) ?_
        intro r hr
        rw [pw_some, lr_l]
        rw [show 1001 - k = (1000 - k) + 1 by omega, yls_s, if_neg y] at g6
        obtain ⟨v1, v2⟩ := yl_b (W := W) (Y := Y) hL g4
        refine ⟨by omega, n32_al _ _, b2.tr (hr.2.2.mo (fun k i p a => by omega)), ?_⟩
        by_cases q : (yl L W n Y).1.2 = 0
        · rw [if_pos q] at g6
          obtain ⟨r1, r2, r3⟩ := hr.1 q
          have := v2 q
          exact Or.inl ⟨r1, _, _, r2, r3, yl_ok g3 q, this.2, by omega, by rw [show 1001 - (k + 1) = 1000 - k by omega]; exact g6⟩
        · rw [if_neg q] at g6
          obtain ⟨r1, r2⟩ := hr.2.1 q
          subst g6
          exact Or.inr ⟨r1, r2, q, v1⟩
  · subst e1
    rw [pw_if, pw_some, lr_r, if_pos rfl]
    have z := fin g1 g3 (fun x => absurd x g2)
    exact ⟨fun _ => z, fun _ => by rw [pw_some, lr_r]; exact z⟩
/-! the reference's -/
def mY (m : mi_M) (Y : PY) : Prop := ∀ k, k < Y.1 → m.1 61 0 (100 + 3 * k) = n32 (Y.2.1 k) ∧ m.1 61 0 (101 + 3 * k) = n32 (Y.2.2.1 k) ∧ m.1 61 0 (102 + 3 * k) = n32 (Y.2.2.2 k)
theorem mY.mv {m m' : mi_M} {Y : PY} {Pr : Nat → Nat → Nat → Prop} (h : mY m Y) (hk : kp Pr m m') (hp : ∀ p, ¬ Pr 61 0 p) : mY m' Y := fun k hk2 => by
  rw [hk.1 61 0 _ (hp _), hk.1 61 0 _ (hp _), hk.1 61 0 _ (hp _)]
  exact h k hk2
abbrev kYm (k i p : Nat) : Prop := i = 0 ∧ (k = 12 ∧ (p = 7 ∨ p = 8) ∨ k = 61 ∧ 100 ≤ p)
theorem rp61 {L : List Nat} {c n v p : Nat} {x : Int32} {m : mi_M} (h : rS m L c n v) : rS (mi_wI m 61 0 p x) L c n v := h.mv (kp.rf.wI ⟨rfl, rfl⟩ : kp (fun k i _ => k = 61 ∧ i = 0) m _) (by omega) (by omega) (fun p => by omega) (fun i p a => by omega)
/-- what a line of a year leaves -/
def mYQ (L : List Nat) (c : Nat) (m : mi_M) (x : (Nat × Nat) × PY) (z : (Int32 × mi_M) ⊕ (Int32 × mi_M)) : Prop := ∃ r, z = .inl r ∧ rS r.2 L c x.1.1 x.1.2 ∧ (x.1.2 = 0 → r.1 = n32 x.2.1 ∧ mY r.2 x.2) ∧ kp (fun k i p => kYm k i p) m r.2
theorem pm_wrongs2 {m : mi_M} {W : Nat} (h : m.1 56 0 2 = n32 W) : f_X12_wrongs m = some (n32 W) := by
  unfold f_X12_wrongs
  rw [pe_g (P := vp_in (2 : Int32) 200) ((n32_in (k := 2) (by omega)).mpr (by omega))]
  exact congrArg some h
theorem pm_yearLine {L : List Nat} {c n W : Nat} {m : mi_M} {Y : PY} (hL : tkN L c) (hW : W ≤ 8) (h : rS m L c n 0) (hw : m.1 56 0 2 = n32 W) (hy : mY m Y) (h30 : Y.1 ≤ 30) (hz : kD L n ≠ 0) : wo (f_X12_year_B11 (n32 Y.1, m)) (mYQ L c m (yl L W n Y)) := by
  have ms := mS_k _ (kD_lt L n)
  obtain ⟨in1, in2⟩ := h.ix hL
  have nc := h.2.2.1
  have hw4 : f_X12_wordHere 12 4 m = some (if 12 ≤ wX L n ∧ wX L n < 16 then n32 (wX L n - 12) else -1) := by
    rw [show f_X12_wordHere 12 4 m = _ from pm_wordHere (f := 12) (k := 4) h hL (by omega)]
    by_cases z : 12 ≤ wX L n ∧ wX L n < 16
    · rw [if_pos z, if_pos (by omega)]
    · rw [if_neg z, if_neg (by omega)]
  unfold f_X12_year_B11
  dsimp only
  rw [if_pos (h.f0.1.mpr rfl), pw_g, in2, h.s, if_neg (fun x => hz (ms.2.2.2.mp x)), hw4, pe_bo]
  refine ⟨in1, ?_⟩
  have bad : ∀ (e : Nat) (x : (Nat × Nat) × PY), e ≠ 0 → e < 10 → x.1 = (n, e + 16 * plT L n) → wo (mi_bo (f_X12_wrong (n32 e) m) fun m40 => f_X12_year_J147 (n32 Y.1) m40) (mYQ L c m x) := by
    intro e x he he2 hx
    rw [pw_bo]
    refine pw_mono (pm_wrong (e := e) h hL he2) ?_
    intro m2 h2
    unfold f_X12_year_J147
    rw [pw_bo]
    refine pw_mono (show wo (f_X12_takeSign 59 m2) _ from pm_takeSign (ch := 59) h2.1 hL (by decide)) ?_
    intro m3 h3
    rw [sx_f (by omega)] at h3
    rw [pw_some]
    refine ⟨_, rfl, by rw [hx]; exact h3.1, fun z => ?_, (h2.2.tr h3.2).mo (fun k i p a => by omega)⟩
    rw [hx] at z
    have z : e + 16 * plT L n = 0 := z
    omega
  unfold yl
  by_cases a : 12 ≤ wX L n ∧ wX L n < 16
  · rw [if_pos a, if_pos a, if_pos (n32_ge0 (by omega))]
    by_cases b : Y.1 = 30
    · rw [if_pos b, if_pos (by rw [b]; rfl)]
      exact bad 5 _ (by decide) (by decide) rfl
    rw [if_neg b, if_neg (by rw [n32_eqL (by omega) (by decide)]; exact b)]
    have nc2 := hL.k nc (by rw [wX_k (by omega)]; decide)
    have d4 : wX L n - 12 < 4 := by omega
    generalize wX L n - 12 = d at d4
    have y30 : Y.1 < 30 := by omega
    rw [pw_let]
    have r1 := rp_at h (show n + 1 ≤ c by omega)
    generalize mi_wI m 12 0 7 (m.1 12 0 7 + 1) = m1 at r1
    rw [n32_lm, n32_la, pw_g, pw_let, n32_cl (by omega)]
    refine ⟨vin (by omega) (by decide), ?_⟩
    have k2 : kp (fun k i p => k78 k i p ∨ k = 61 ∧ i = 0 ∧ p = 100 + 3 * Y.1) m (mi_wI m1 61 0 (100 + 3 * Y.1) (n32 d)) := (r1.2.mo (fun k i p a => Or.inl a)).wI (Or.inr ⟨rfl, rfl, rfl⟩)
    have w2 : (mi_wI m1 61 0 (100 + 3 * Y.1) (n32 d)).1 61 0 (100 + 3 * Y.1) = n32 d := rI_eq
    have r2 : rS (mi_wI m1 61 0 (100 + 3 * Y.1) (n32 d)) L c (n + 1) 0 := rp61 r1.1
    generalize mi_wI m1 61 0 (100 + 3 * Y.1) (n32 d) = m2 at k2 w2 r2
    -- the last steps
    have j143 : ∀ (w : Nat) (u : Int32) (m4 : mi_M), rS m4 L c (yl2 L W n d).1 (yl2 L W n d).2 → kp (fun k i p => k78 k i p ∨ k = 61 ∧ i = 0 ∧ (p = 100 + 3 * Y.1 ∨ p = 101 + 3 * Y.1)) m m4 → m4.1 61 0 (100 + 3 * Y.1) = n32 d → ((yl2 L W n d).2 = 0 → m4.1 61 0 (101 + 3 * Y.1) = n32 (if d = 3 then 0 else vL L (n + 1)) ∧ u = n32 (if d = 1 then vL L (n + 2) else 0)) → wo (f_X12_year_J143 (n32 Y.1) u m4) (mYQ L c m (sx L (eS L 59) (yl2 L W n d), ylY L n d Y)) := by
      intro w u m4 r4 k4 w4 v4
      unfold f_X12_year_J143 f_X12_year_J147
      rw [n32_lm, n32_la, pw_g, pw_let, n32_cl (by omega), n32_al]
      refine ⟨vin (by omega) (by decide), ?_⟩
      have k5 : kp (fun k i p => k78 k i p ∨ k = 61 ∧ i = 0 ∧ (p = 100 + 3 * Y.1 ∨ p = 101 + 3 * Y.1 ∨ p = 102 + 3 * Y.1)) m (mi_wI m4 61 0 (102 + 3 * Y.1) u) := (k4.mo (fun k i p a => by omega)).wI (Or.inr ⟨rfl, rfl, by omega⟩)
      have x0 : (mi_wI m4 61 0 (102 + 3 * Y.1) u).1 61 0 (100 + 3 * Y.1) = n32 d := by rw [rI_ne (by omega)]; exact w4
      have x1 : (yl2 L W n d).2 = 0 → (mi_wI m4 61 0 (102 + 3 * Y.1) u).1 61 0 (101 + 3 * Y.1) = n32 (if d = 3 then 0 else vL L (n + 1)) := fun z => by rw [rI_ne (by omega)]; exact (v4 z).1
      have x2 : (mi_wI m4 61 0 (102 + 3 * Y.1) u).1 61 0 (102 + 3 * Y.1) = u := rI_eq
      have r5 : rS (mi_wI m4 61 0 (102 + 3 * Y.1) u) L c (yl2 L W n d).1 (yl2 L W n d).2 := rp61 r4
      generalize mi_wI m4 61 0 (102 + 3 * Y.1) u = m5 at k5 x0 x1 x2 r5
      rw [pw_bo]
      refine pw_mono (show wo (f_X12_takeSign 59 m5) _ from pm_takeSign (ch := 59) r5 hL (by decide)) ?_
      intro m6 h6
      rw [pw_some]
      refine ⟨_, rfl, h6.1, fun z => ⟨rfl, fun k hk => ?_⟩, (k5.mo (fun k i p a => by omega)).tr (h6.2.mo (fun k i p a => by omega))⟩
      have z0 : (yl2 L W n d).2 = 0 := (sx_0 z).1
      have hk : k < Y.1 + 1 := hk
      show m6.1 61 0 (100 + 3 * k) = n32 (upT Y.2.1 Y.1 d k) ∧ m6.1 61 0 (101 + 3 * k) = n32 (upT Y.2.2.1 Y.1 (if d = 3 then 0 else vL L (n + 1)) k) ∧ m6.1 61 0 (102 + 3 * k) = n32 (upT Y.2.2.2 Y.1 (if d = 1 then vL L (n + 2) else 0) k)
      rw [h6.2.1 61 0 _ (by omega), h6.2.1 61 0 _ (by omega), h6.2.1 61 0 _ (by omega)]
      by_cases e : k = Y.1
      · subst e
        rw [up_e, up_e, up_e]
        exact ⟨x0, x1 z0, x2.trans (v4 z0).2⟩
      · rw [up_n e, up_n e, up_n e, k5.1 61 0 _ (by omega), k5.1 61 0 _ (by omega), k5.1 61 0 _ (by omega)]
        exact hy k (by omega)
    have j116 : ∀ (u : Int32) (m3 : mi_M), rS m3 L c (yl1 L W n d).1 (yl1 L W n d).2 → kp (fun k i p => k78 k i p ∨ k = 61 ∧ i = 0 ∧ p = 100 + 3 * Y.1) m m3 → m3.1 61 0 (100 + 3 * Y.1) = n32 d → ((yl1 L W n d).2 = 0 → u = n32 (if d = 3 then 0 else vL L (n + 1))) → wo (f_X12_year_J116 (n32 Y.1) (n32 d) u m3) (mYQ L c m (sx L (eS L 59) (yl2 L W n d), ylY L n d Y)) := by
      intro u m3 r3 k3' w3 v3
      unfold f_X12_year_J116
      rw [n32_lm, n32_la, pw_g, pw_let, n32_cl (by omega)]
      refine ⟨vin (by omega) (by decide), ?_⟩
      have k4 : kp (fun k i p => k78 k i p ∨ k = 61 ∧ i = 0 ∧ (p = 100 + 3 * Y.1 ∨ p = 101 + 3 * Y.1)) m (mi_wI m3 61 0 (101 + 3 * Y.1) u) := (k3'.mo (fun k i p a => by omega)).wI (Or.inr ⟨rfl, rfl, by omega⟩)
      have x0 : (mi_wI m3 61 0 (101 + 3 * Y.1) u).1 61 0 (100 + 3 * Y.1) = n32 d := by rw [rI_ne (by omega)]; exact w3
      have x1 : (mi_wI m3 61 0 (101 + 3 * Y.1) u).1 61 0 (101 + 3 * Y.1) = u := rI_eq
      have r4 : rS (mi_wI m3 61 0 (101 + 3 * Y.1) u) L c (yl1 L W n d).1 (yl1 L W n d).2 := rp61 r3
      generalize mi_wI m3 61 0 (101 + 3 * Y.1) u = m4 at k4 x0 x1 r4
      by_cases d1 : d = 1
      · rw [if_pos (by rw [d1]; rfl), pw_b]
        refine pw_mono (show wo (f_X12_takeNumber 1 99 m4) _ from pm_takeNumber (lo := 1) (hx := 100) r4 hL (by decide) (by decide)) ?_
        rintro ⟨v, m5⟩ ⟨r5, ev⟩
        simp only at r5 ev
        have e2 : yl2 L W n d = sx L (eN L 1 100) (yl1 L W n d) := by unfold yl2; rw [if_pos d1]
        refine j143 0 v m5 (by rw [e2]; exact r5.1) (k4.tr (r5.2.mo (fun k i p a => Or.inl a))) (by rw [r5.2.1 61 0 _ (by omega)]; exact x0) (fun z => ?_)
        have z1 := yl2_0 z
        rw [r5.2.1 61 0 _ (by omega), x1, v3 z1.1, if_pos d1]
        refine ⟨rfl, ?_⟩
        rw [e2] at z
        have q := (z1.2.1 (by omega)).2
        rw [ev, if_pos z, q]
      · rw [if_neg (by rw [n32_eqL (by omega) (by decide)]; exact d1)]
        have e2 : yl2 L W n d = yl1 L W n d := by unfold yl2; rw [if_neg d1]
        refine j143 0 0 m4 (by rw [e2]; exact r4) k4 x0 (fun z => ?_)
        rw [e2] at z
        rw [x1, v3 z, if_neg d1]
        exact ⟨rfl, rfl⟩
    by_cases d3 : d = 3
    · have e1 : yl1 L W n d = (n + 1, 0) := by unfold yl1; rw [if_pos d3]
      rw [if_pos (by rw [d3]; decide)]
      refine j116 0 m2 (by rw [e1]; exact r2) k2 w2 (fun _ => by rw [if_pos d3]; rfl)
    · have e1 : yl1 L W n d = sx L (eN L 0 W) (n + 1, 0) := by unfold yl1; rw [if_neg d3]
      rw [if_neg (by rw [n32_Lle (by omega) (by decide)]; show ¬ 3 ≤ d; omega), pm_wrongs2 (W := W) (by rw [k2.1 56 0 2 (by omega)]; exact hw), pe_bo, pw_b]
      refine pw_mono (show wo (f_X12_takeNumber 0 (n32 W - 1) m2) _ from pm_takeNumber (lo := 0) (hx := W) r2 hL (by decide) (by omega)) ?_
      rintro ⟨v, m3⟩ ⟨r3, ev⟩
      simp only at r3 ev
      refine j116 v m3 (by rw [e1]; exact r3.1) (k2.tr (r3.2.mo (fun k i p a => Or.inl a))) (by rw [r3.2.1 61 0 _ (by omega)]; exact w2) (fun z => ?_)
      rw [e1] at z
      rw [ev, if_pos z, if_neg d3]
  · rw [if_neg a, if_neg a, if_neg (show ¬ (0 : Int32) ≤ -1 by decide)]
    exact bad 1 _ (by decide) (by decide) rfl
