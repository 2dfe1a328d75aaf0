/-! ===== years ===== -/
abbrev PY : Type := Nat × (Nat → Nat) × (Nat → Nat) × (Nat → Nat)
def yl1 (L : List Nat) (W n d : Nat) : Nat × Nat := if d = 3 then (n + 1, 0) else sx L (eN L 0 W) (n + 1, 0)
def yl2 (L : List Nat) (W n d : Nat) : Nat × Nat := if d = 1 then sx L (eN L 1 100) (yl1 L W n d) else yl1 L W n d
def ylY (L : List Nat) (n d : Nat) (Y : PY) : PY := (Y.1 + 1, upT Y.2.1 Y.1 d, upT Y.2.2.1 Y.1 (if d = 3 then 0 else vL L (n + 1)), upT Y.2.2.2 Y.1 (if d = 1 then vL L (n + 2) else 0))
def yl (L : List Nat) (W n : Nat) (Y : PY) : (Nat × Nat) × PY := if 12 ≤ wX L n ∧ wX L n < 16 then (if Y.1 = 30 then ((n, 5 + 16 * plT L n), Y) else (sx L (eS L 59) (yl2 L W n (wX L n - 12)), ylY L n (wX L n - 12) Y)) else ((n, 1 + 16 * plT L n), Y)
def yOK (W : Nat) (Y : PY) : Prop := Y.1 ≤ 30 ∧ ∀ k, k < Y.1 → Y.2.1 k ≤ 3 ∧ (Y.2.1 k < 3 → Y.2.2.1 k < W) ∧ Y.2.2.2 k ≤ 99
theorem yl1_g {L : List Nat} {c W n d : Nat} (hL : tkN L c) (hn : n + 1 ≤ c) : gs c (n + 1) (yl1 L W n d) := by
  unfold yl1
  have st : gs c (n + 1) (n + 1, 0) := ⟨Nat.le_refl _, hn, by show 0 < 100000; omega⟩
  by_cases h : d = 3
  · rw [if_pos h]; exact st
  · rw [if_neg h]; exact sx_g hL ge_N st
theorem yl2_g {L : List Nat} {c W n d : Nat} (hL : tkN L c) (hn : n + 1 ≤ c) : gs c (n + 1) (yl2 L W n d) := by
  unfold yl2
  by_cases h : d = 1
  · rw [if_pos h]; exact sx_g hL ge_N (yl1_g hL hn)
  · rw [if_neg h]; exact yl1_g hL hn
theorem yl2_0 {L : List Nat} {W n d : Nat} (h : (yl2 L W n d).2 = 0) : (yl1 L W n d).2 = 0 ∧ (d ≠ 3 → eN L 0 W (n + 1) = 0 ∧ yl1 L W n d = (n + 2, 0)) ∧ (d = 1 → eN L 1 100 (n + 2) = 0 ∧ yl2 L W n d = (n + 3, 0)) := by
  have h1 : (yl1 L W n d).2 = 0 := by
    unfold yl2 at h
    by_cases z : d = 1
    · rw [if_pos z] at h; exact (sx_0 h).1
    · rw [if_neg z] at h; exact h
  have h2 : d ≠ 3 → eN L 0 W (n + 1) = 0 ∧ yl1 L W n d = (n + 2, 0) := fun z => by
    unfold yl1 at h1 ⊢
    rw [if_neg z] at h1 ⊢
    exact (sx_0 h1).2
  refine ⟨h1, h2, fun z => ?_⟩
  have h3 := (h2 (by omega)).2
  unfold yl2 at h ⊢
  rw [if_pos z] at h ⊢
  exact sx_k h h3
theorem yl_b {L : List Nat} {c W n : Nat} {Y : PY} (hL : tkN L c) (hn : n ≤ c) : (yl L W n Y).1.2 < 100000 ∧ ((yl L W n Y).1.2 = 0 → n < (yl L W n Y).1.1 ∧ (yl L W n Y).1.1 ≤ c) := by
  have pb := hL.p (n := n)
  unfold yl
  by_cases a : 12 ≤ wX L n ∧ wX L n < 16
  · have nc := hL.k hn (by rw [wX_k (by omega)]; decide)
    rw [if_pos a]
    by_cases b : Y.1 = 30
    · rw [if_pos b]
      exact ⟨by show 5 + 16 * plT L n < 100000; omega, fun x => by have x : 5 + 16 * plT L n = 0 := x; omega⟩
    · rw [if_neg b]
      have g := sx_g (e := eS L 59) hL ge_S (yl2_g (W := W) (d := wX L n - 12) hL nc)
      exact ⟨g.2.2, fun _ => ⟨g.1, g.2.1⟩⟩
  · rw [if_neg a]
    exact ⟨by show 1 + 16 * plT L n < 100000; omega, fun x => by have x : 1 + 16 * plT L n = 0 := x; omega⟩
theorem yl_ok {L : List Nat} {W n : Nat} {Y : PY} (hY : yOK W Y) (h : (yl L W n Y).1.2 = 0) : yOK W (yl L W n Y).2 := by
  unfold yl at h ⊢
  by_cases a : 12 ≤ wX L n ∧ wX L n < 16
  · rw [if_pos a] at h ⊢
    by_cases b : Y.1 = 30
    · rw [if_pos b] at h
      have h : 5 + 16 * plT L n = 0 := h
      omega
    · rw [if_neg b] at h ⊢
      have h0 := (sx_0 (s := yl2 L W n (wX L n - 12)) h).1
      obtain ⟨-, h1, h2⟩ := yl2_0 h0
      have y1 := hY.1
      refine ⟨by show Y.1 + 1 ≤ 30; omega, fun k hk => ?_⟩
      have hk : k < Y.1 + 1 := hk
      show upT Y.2.1 Y.1 (wX L n - 12) k ≤ 3 ∧ (upT Y.2.1 Y.1 (wX L n - 12) k < 3 → upT Y.2.2.1 Y.1 (if wX L n - 12 = 3 then 0 else vL L (n + 1)) k < W) ∧ upT Y.2.2.2 Y.1 (if wX L n - 12 = 1 then vL L (n + 2) else 0) k ≤ 99
      by_cases z : k = Y.1
      · subst z
        rw [up_e, up_e, up_e]
        refine ⟨by omega, fun x => ?_, ?_⟩
        · rw [if_neg (by omega)]
          have := (eN_0 (h1 (by omega)).1).2.2
          exact this
        · by_cases y : wX L n - 12 = 1
          · rw [if_pos y]
            have := (eN_0 (h2 y).1).2.2
            omega
          · rw [if_neg y]; omega
      · rw [up_n z, up_n z, up_n z]
        exact hY.2 k (by omega)
  · rw [if_neg a] at h
    have h : 1 + 16 * plT L n = 0 := h
    omega
def yls (L : List Nat) (W : Nat) : Nat → Nat → PY → Nat × PY
  | 0, _, Y => (0, Y)
  | f + 1, n, Y => if kD L n = 0 then (0, Y) else if (yl L W n Y).1.2 = 0 then yls L W f (yl L W n Y).1.1 (yl L W n Y).2 else ((yl L W n Y).1.2, Y)
theorem yls_s {L : List Nat} {W f n : Nat} {Y : PY} : yls L W (f + 1) n Y = if kD L n = 0 then (0, Y) else if (yl L W n Y).1.2 = 0 then yls L W f (yl L W n Y).1.1 (yl L W n Y).2 else ((yl L W n Y).1.2, Y) := rfl
def Y0 : PY := (0, fun _ => 0, fun _ => 0, fun _ => 0)
theorem Y0_ok {W : Nat} : yOK W Y0 := ⟨by show 0 ≤ 30; omega, fun k hk => absurd hk (Nat.not_lt_zero _)⟩
/-! the developers' -/
def dY (m : mi_M) (e : Nat) (Y : PY) : Prop := m.1 10 e 0 = n32 Y.1 ∧ ∀ k, k < Y.1 → m.1 48 e k = n32 (Y.2.1 k) ∧ m.1 49 e k = n32 (Y.2.2.1 k) ∧ m.1 50 e k = n32 (Y.2.2.2 k)
theorem dY.mv {m m' : mi_M} {e : Nat} {Y : PY} {Pr : Nat → Nat → Nat → Prop} (h : dY m e Y) (hk : kp Pr m m') (hp : ∀ k p, Pr k e p → k ≠ 10 ∧ k ≠ 48 ∧ k ≠ 49 ∧ k ≠ 50) : dY m' e Y := by
  refine ⟨by rw [hk.1 10 e 0 (fun x => (hp _ _ x).1 rfl)]; exact h.1, fun k hk2 => ?_⟩
  rw [hk.1 48 e k (fun x => (hp _ _ x).2.1 rfl), hk.1 49 e k (fun x => (hp _ _ x).2.2.1 rfl), hk.1 50 e k (fun x => (hp _ _ x).2.2.2 rfl)]
  exact h.2 k hk2
abbrev kY (e k i p : Nat) : Prop := k67 k i p ∨ (k = 10 ∨ k = 48 ∨ k = 49 ∨ k = 50) ∧ i = e
def dYQ (L : List Nat) (e : Nat) (m : mi_M) (x : (Nat × Nat) × PY) (r : Int32 × mi_M) : Prop := (x.1.2 = 0 → r.1 = 1 ∧ dT r.2 L x.1.1 ∧ dY r.2 e x.2) ∧ (x.1.2 ≠ 0 → r.1 = 0 ∧ r.2.1 7 0 1 = n32 x.1.2) ∧ kp (fun k i p => kY e k i p) m r.2
theorem yq_bad {L : List Nat} {e nf v : Nat} {m m' : mi_M} {x : (Nat × Nat) × PY} (hx : x.1 = (nf, v)) (hv : v ≠ 0) (h1 : m'.1 7 0 1 = n32 v) (hk : kp (fun k i p => kY e k i p) m m') : dYQ L e m x (0, m') := by
  refine ⟨fun h => ?_, fun _ => ⟨rfl, ?_⟩, hk⟩
  · rw [hx] at h
    exact absurd h hv
  · rw [hx]
    exact h1
theorem yq_fail {L : List Nat} {e x nn : Nat} {m m1 : mi_M} {y : (Nat × Nat) × PY} (d1 : dT m1 L nn) (hx : x ≠ 0) (k1 : kp (fun k i p => kY e k i p) m m1) (hy : y.1 = (nn, x + 16 * plT L nn)) : wo (mi_b (f_X7_fail (n32 x) m1) fun v m' => mi_g (v = 0 ∨ v = 1) (some (v, m'))) (dYQ L e m y) := by
  refine pw_mono (rd_01 (rd_fail d1 hx)) ?_
  rintro ⟨v, m'⟩ ⟨-, a2, a3⟩
  obtain ⟨b1, b2⟩ := a2 hx
  simp only at b1 b2 a3
  rw [b1]
  exact yq_bad hy (by omega) b2 (k1.tr (a3.mo (fun k i p a => Or.inl a)))
theorem pc_addY {e d w g : Nat} {m : mi_M} {Y : PY} (h : dY m e Y) (h30 : Y.1 < 30) : wo (f_X10_add e (n32 d) (n32 w) (n32 g) m) (fun m' => dY m' e (Y.1 + 1, upT Y.2.1 Y.1 d, upT Y.2.2.1 Y.1 w, upT Y.2.2.2 Y.1 g) ∧ kp (fun k i p => i = e ∧ (k = 10 ∨ k = 48 ∨ k = 49 ∨ k = 50)) m m') := by
  unfold f_X10_add f_X10_add_J49
  rw [h.1, if_neg (by rw [n32_Lle (by omega) (by decide)]; show ¬ 30 ≤ Y.1; omega), pw_g, n32_in (by omega), pw_let, n32_cl (by omega)]
  refine ⟨h30, ?_⟩
  rw [rI_ne (by omega), h.1, pw_g, n32_in (by omega), pw_let, n32_cl (by omega)]
  refine ⟨h30, ?_⟩
  rw [rI_ne (by omega), rI_ne (by omega), h.1, pw_g, n32_in (by omega), pw_let, n32_cl (by omega)]
  refine ⟨h30, ?_⟩
  rw [pw_let, pw_some, rI_ne (by omega), rI_ne (by omega), rI_ne (by omega), h.1, n32_al]
  refine ⟨⟨rI_eq, fun k hk => ?_⟩, (((kp.rf.wI ⟨rfl, by omega⟩).wI ⟨rfl, by omega⟩).wI ⟨rfl, by omega⟩).wI ⟨rfl, by omega⟩⟩
  have hk : k < Y.1 + 1 := hk
  show _ = n32 (upT Y.2.1 Y.1 d k) ∧ _ = n32 (upT Y.2.2.1 Y.1 w k) ∧ _ = n32 (upT Y.2.2.2 Y.1 g k)
  by_cases z : k = Y.1
  · subst z
    rw [up_e, up_e, up_e]
    refine ⟨?_, ?_, ?_⟩
    · rw [rI_ne (by omega), rI_ne (by omega), rI_ne (by omega), rI_eq]
    · rw [rI_ne (by omega), rI_ne (by omega), rI_eq]
    · rw [rI_ne (by omega), rI_eq]
  · rw [up_n z, up_n z, up_n z]
    have := h.2 k (by omega)
    refine ⟨?_, ?_, ?_⟩
    · rw [rI_ne (by omega), rI_ne (by omega), rI_ne (by omega), rI_ne (by omega)]; exact this.1
    · rw [rI_ne (by omega), rI_ne (by omega), rI_ne (by omega), rI_ne (by omega)]; exact this.2.1
    · rw [rI_ne (by omega), rI_ne (by omega), rI_ne (by omega), rI_ne (by omega)]; exact this.2.2
theorem ix_2 : ∀ x, x ≤ 26 → ixW x (wls 2) 0 = if 12 ≤ x ∧ x < 16 then n32 (x - 12) else -1 := by decide +kernel
theorem pc_yearLine {L : List Nat} {c e n W : Nat} {m : mi_M} {Y : PY} (hL : tkN L c) (hW : W ≤ 8) (hd : dT m L n) (h : dY m e Y) (h30 : Y.1 ≤ 30) : wo (f_X7_readYearLine e (n32 W) m) (dYQ L e m (yl L W n Y)) := by
  unfold f_X7_readYearLine yl
  rw [pc_am hd (by decide) (by decide), pe_bo, ix_2 _ (wX_le L n), h.1]
  by_cases a : 12 ≤ wX L n ∧ wX L n < 16
  · rw [if_pos a, if_pos a, if_neg (show ¬ n32 (wX L n - 12) = -1 by rw [n32_eqN (by omega)]; exact id)]
    by_cases b : Y.1 = 30
    · rw [if_pos b, if_neg (by rw [b]; decide)]
      exact yq_fail (x := 5) hd (by decide) kp.rf rfl
    rw [if_neg b, if_pos (by rw [n32_ltL (by omega) (by decide)]; show Y.1 < 30; omega), pw_bo]
    have d4 : wX L n - 12 < 4 := by omega
    generalize wX L n - 12 = d at d4
    have dn : ∀ z : Nat, z < 100 → (n32 d = n32 z ↔ d = z) := fun z hz => n32_eq (by omega) (by omega)
    refine pw_mono (pc_adv hd hL.1) ?_
    rintro m1 ⟨d1, k1⟩
    have y1 : dY m1 e Y := h.mv k1 (fun k p a => by omega)
    have k1' : kp (fun k i p => kY e k i p) m m1 := k1.mo (fun k i p a => Or.inl (by omega))
    -- what follows the numbers
    have fin : ∀ (w g : Nat) (m4 : mi_M) (s : Nat × Nat), s.2 = 0 → dT m4 L s.1 → dY m4 e Y → kp (fun k i p => kY e k i p) m m4 → yl2 L W n d = s → (if d = 3 then 0 else vL L (n + 1)) = w → (if d = 1 then vL L (n + 2) else 0) = g → wo (f_X7_readYearLine_J114 e (n32 d) (n32 w) (n32 g) m4) (dYQ L e m (sx L (eS L 59) (yl2 L W n d), ylY L n d Y)) := by
      intro w g m4 s s0 d4' y4 k4 hs hw hg
      unfold f_X7_readYearLine_J114
      rw [pw_bo]
      refine pw_mono (pc_addY y4 (by omega)) ?_
      rintro m5 ⟨y5, k5⟩
      have k5' : kp (fun k i p => kY e k i p) m m5 := k4.tr (k5.mo (fun k i p a => by omega))
      refine pw_mono (rd_01 (show wo (f_X7_passSign 59 m5) _ from pc_passSign (c := 59) (d4'.mv k5 (fun q => by omega) (by omega) (fun q => by omega)) hL.1 (by decide))) ?_
      rintro ⟨v, m6⟩ ⟨x1, x2, x3⟩
      simp only at x1 x2 x3
      have k6' : kp (fun k i p => kY e k i p) m m6 := k5'.tr (x3.mo (fun k i p a => Or.inl a))
      obtain ⟨sn, sv⟩ := s
      have s0 : sv = 0 := s0
      subst s0
      by_cases e0 : eS L 59 sn = 0
      · obtain ⟨b1, b2⟩ := x1 e0
        have hx : sx L (eS L 59) (yl2 L W n d) = (sn + 1, 0) := by rw [hs]; exact sx_y e0
        refine ⟨fun _ => ⟨b1, ?_, ?_⟩, fun z => ?_, k6'⟩
        · show dT m6 L (sx L (eS L 59) (yl2 L W n d)).1
          rw [hx]; exact b2
        · show dY m6 e (ylY L n d Y)
          unfold ylY
          rw [hw, hg]
          exact y5.mv x3 (fun k p a => by omega)
        · have z : (sx L (eS L 59) (yl2 L W n d)).2 ≠ 0 := z
          rw [hx] at z; exact absurd rfl z
      · obtain ⟨b1, b2⟩ := x2 e0
        have hx : sx L (eS L 59) (yl2 L W n d) = (sn, eS L 59 sn + 16 * plT L sn) := by rw [hs]; exact sx_n e0
        rw [b1]
        exact yq_bad hx (by omega) b2 k6'
    have v1 : kD L (n + 1) = 3 → m1.1 6 0 3 = n32 (vL L (n + 1)) := fun z => d1.v (Or.inl z)
    unfold f_X7_readYearLine_J59 f_X7_readYearLine_J79 f_X7_readYearLine_J95
    by_cases d3 : d = 3
    · subst d3
      rw [if_pos (show n32 3 = 3 from rfl), if_pos (show n32 3 = 3 from rfl), if_neg (show ¬ n32 3 = 1 by decide), if_neg (show ¬ n32 3 = 1 by decide)]
      exact fin 0 0 m1 (n + 1, 0) rfl d1 y1 k1' (by unfold yl2 yl1; rw [if_neg (by decide), if_pos rfl]) (if_pos rfl) (if_neg (by decide))
    · have n3 : ¬ n32 d = 3 := fun x => d3 ((dn 3 (by decide)).mp x)
      rw [if_neg n3, if_neg n3]
      refine rd_seq (show wo (f_X7_passNumber 0 (n32 W - 1) m1) _ from pc_passNumber (lo := 0) (hx := W) d1 hL.1 (by decide) (by omega)) (fun eb m2 b1 b2 => ?_) (fun eg m2 d2 k2 => ?_)
      · rw [pw_g, pw_some]
        have q1 : yl1 L W n d = (n + 1, eN L 0 W (n + 1) + 16 * plT L (n + 1)) := by unfold yl1; rw [if_neg d3, sx_n eb]
        have q2 : yl2 L W n d = (n + 1, eN L 0 W (n + 1) + 16 * plT L (n + 1)) := by
          unfold yl2
          rw [q1]
          by_cases z : d = 1
          · rw [if_pos z]; exact sx_f (by omega)
          · rw [if_neg z]
        exact ⟨by decide, yq_bad (by show sx L (eS L 59) (yl2 L W n d) = _; rw [q2]; exact sx_f (by omega)) (by omega) b1 (k1'.tr (b2.mo (fun k i p a => Or.inl a)))⟩
      · have q1 : yl1 L W n d = (n + 2, 0) := by unfold yl1; rw [if_neg d3, sx_y eg]
        have y2 := y1.mv k2 (fun k p a => by omega)
        have k2' : kp (fun k i p => kY e k i p) m m2 := k1'.tr (k2.mo (fun k i p a => Or.inl a))
        rw [v1 (eN_0 eg).1]
        by_cases d1' : d = 1
        · subst d1'
          rw [if_pos (show n32 1 = 1 from rfl), if_pos (show n32 1 = 1 from rfl)]
          refine rd_seq (show wo (f_X7_passNumber 1 99 m2) _ from pc_passNumber (lo := 1) (hx := 100) d2 hL.1 (by decide) (by decide)) (fun eb m3 b1 b2 => ?_) (fun eg2 m3 d3' k3' => ?_)
          · rw [pw_g, pw_some]
            have eb' : eN L 1 100 (n + 2) ≠ 0 := eb
            have q2 : yl2 L W n 1 = (n + 2, eN L 1 100 (n + 2) + 16 * plT L (n + 2)) := by unfold yl2; rw [if_pos rfl, q1, sx_n eb]
            exact ⟨by decide, yq_bad (by show sx L (eS L 59) (yl2 L W n 1) = _; rw [q2]; exact sx_f (by omega)) (by omega) b1 (k2'.tr (b2.mo (fun k i p a => Or.inl a)))⟩
          · rw [d2.v (Or.inl (eN_0 eg2).1)]
            exact fin _ _ m3 (n + 3, 0) rfl d3' (y2.mv k3' (fun k p a => by omega)) (k2'.tr (k3'.mo (fun k i p a => Or.inl a))) (by unfold yl2; rw [if_pos rfl, q1, sx_y eg2]) (if_neg (by decide)) (if_pos rfl)
        · have n1 : ¬ n32 d = 1 := fun x => d1' ((dn 1 (by decide)).mp x)
          rw [if_neg n1, if_neg n1]
          exact fin _ 0 m2 (n + 2, 0) rfl d2 y2 k2' (by unfold yl2; rw [if_neg d1', q1]) (if_neg d3) (if_neg d1')
  · rw [if_neg a, if_neg a, if_pos rfl]
    exact yq_fail (x := 1) hd (by decide) kp.rf rfl
