/-! ===== judged ===== -/
theorem pYear.out {m : mi_M} {y W : Nat} (h : pYear m y W) : ∃ (n : Nat) (L : Nat → Nat × Nat × Nat), n ≤ 30 ∧ (∀ k, k < n → (L k).1 ≤ 3 ∧ ((L k).1 < 3 → (L k).2.1 < W) ∧ (L k).2.2 ≤ 99) ∧ m.1 10 y 0 = n32 n ∧ m.1 61 0 0 = n32 n ∧ (∀ k, k < n → m.1 48 y k = n32 (L k).1 ∧ m.1 49 y k = n32 (L k).2.1 ∧ m.1 50 y k = n32 (L k).2.2) ∧ ∀ k, k < n → m.1 61 0 (1 + 3 * k) = n32 (L k).1 ∧ m.1 61 0 (2 + 3 * k) = n32 (L k).2.1 ∧ m.1 61 0 (3 + 3 * k) = n32 (L k).2.2 := by
  obtain ⟨n, h1, h2, h3, h4⟩ := h
  have key : ∀ k, ∃ v : Nat × Nat × Nat, k < n → (v.1 ≤ 3 ∧ (v.1 < 3 → v.2.1 < W) ∧ v.2.2 ≤ 99) ∧ (m.1 48 y k = n32 v.1 ∧ m.1 49 y k = n32 v.2.1 ∧ m.1 50 y k = n32 v.2.2) ∧ m.1 61 0 (1 + 3 * k) = n32 v.1 ∧ m.1 61 0 (2 + 3 * k) = n32 v.2.1 ∧ m.1 61 0 (3 + 3 * k) = n32 v.2.2 := by
    intro k
    by_cases hk : k < n
    · obtain ⟨l, g, u, a⟩ := h4 k hk
      exact ⟨(l, g, u), fun _ => a⟩
    · exact ⟨(0, 0, 0), fun x => absurd x hk⟩
  exact ⟨n, fun k => (key k).choose, h1, fun k hk => ((key k).choose_spec hk).1, h2, h3, fun k hk => ((key k).choose_spec hk).2.1, fun k hk => ((key k).choose_spec hk).2.2⟩
/-- as ob_ev, with the frame -/
theorem ob_ek {m : mi_M} {T : Nat → Nat} {cd : Nat → List Int32} {c y : Nat} {f1 f2 : mi_M → Option (Int32 × mi_M)} (hR : RelX m T cd c y) (val : Int32) (h1 : wo (f1 m) (fun r => r.1 = val ∧ cT r.2 c T cd ∧ kp (fun k i _ => pXc c k i) m r.2)) (h2 : ∀ m1, RelX m1 T cd c y → kp (fun k i _ => pXc c k i) m m1 → wo (f2 m1) (fun r => r.1 = val ∧ kp (fun k i p => pXm k i p) m1 r.2)) : ∃ (r : Int32) (m1 m2 : mi_M), f1 m = some (r, m1) ∧ f2 m1 = some (r, m2) ∧ Rel m2 := by
  obtain ⟨⟨r1, m1⟩, e1, a1, a2, a3⟩ := h1
  simp only at a1 a2 a3
  subst a1
  have hR1 := hR.sc a3 a2
  obtain ⟨⟨r2, m2⟩, e2, b1, b2⟩ := h2 m1 hR1 a3
  simp only at b1 b2
  subst b1
  exact ⟨_, m1, m2, e1, e2, T, cd, c, y, hR1.sm b2⟩
def jdS (T : Nat → Nat) (cd : Nat → List Int32) (L : Nat → Nat × Nat × Nat) : Nat → Nat → Int32
  | 0 => begS T
  | k + 1 => if ddB T (jdS T cd L k) (L k).1 (L k).2.1 (L k).2.2 then ddA T cd (jdS T cd L k) (L k).1 (L k).2.1 (L k).2.2 else jdS T cd L k
def jdF (T : Nat → Nat) (cd : Nat → List Int32) (L : Nat → Nat × Nat × Nat) : Nat → Int32
  | 0 => -1
  | k + 1 => if ddB T (jdS T cd L k) (L k).1 (L k).2.1 (L k).2.2 then jdF T cd L k else if jdF T cd L k = -1 then n32 k else jdF T cd L k
theorem jdF_s {T : Nat → Nat} {cd : Nat → List Int32} {L : Nat → Nat × Nat × Nat} {k : Nat} : jdF T cd L (k + 1) = if ddB T (jdS T cd L k) (L k).1 (L k).2.1 (L k).2.2 then jdF T cd L k else if jdF T cd L k = -1 then n32 k else jdF T cd L k := rfl
theorem jdS_ok {T : Nat → Nat} {cd : Nat → List Int32} {L : Nat → Nat × Nat × Nat} {n : Nat} (hT : tOK T) (hL : ∀ k, k < n → (L k).1 ≤ 3 ∧ ((L k).1 < 3 → (L k).2.1 < T 2) ∧ (L k).2.2 ≤ 99) : ∀ k, k ≤ n → sOK T (jdS T cd L k)
  | 0, _ => begS_ok hT
  | k + 1, hk => by
    have ih := jdS_ok (cd := cd) hT hL k (by omega)
    obtain ⟨a1, a2, a3⟩ := hL k (by omega)
    unfold jdS
    by_cases hb : ddB T (jdS T cd L k) (L k).1 (L k).2.1 (L k).2.2 = true
    · rw [if_pos hb]; exact ddA_ok hT ih a2 a3 hb
    · rw [if_neg hb]; exact ih
theorem jdF_n {T : Nat → Nat} {cd : Nat → List Int32} {L : Nat → Nat × Nat × Nat} : ∀ {k : Nat}, k < 1000 → (0 ≤ jdF T cd L k ↔ ¬ jdF T cd L k = -1)
  | 0, _ => by show ((0 : Int32) ≤ -1 ↔ ¬ (-1 : Int32) = -1); decide
  | k + 1, h => by
    have ih := jdF_n (T := T) (cd := cd) (L := L) (k := k) (by omega)
    unfold jdF
    split
    · exact ih
    · split
      · rw [n32_eqN (by omega)]
        exact ⟨fun _ x => x, fun _ => n32_ge0 (by omega)⟩
      · exact ih
theorem po_judged : ob_judged Rel := by
  rintro a0 mem ⟨T, cd, c, y, hR⟩
  obtain ⟨h1, h2, h3, h4, h5, h6, ⟨S, hc, hm, hs⟩, h8, h9, h10⟩ := id hR
  have hT := h2.1.2.1
  obtain ⟨n, L, v1, v2, v3, v4, v5, v6⟩ := h6.out
  have hc2 := h1.1
  by_cases hg : (0 : Int32) ≤ a0 ∧ a0 ≤ 2
  · refine ob_ek (f1 := f_X11_judged a0) (f2 := f_X12_judged a0) hR (if a0 = 0 then jdF T cd L n else if a0 = 1 then sumI (fun w => jdS T cd L n (22 + w)) 8 else jdS T cd L n 1) ?_ ?_
    · unfold f_X11_judged f_X11_judged_J30 f_X0_judge
      rw [pc_within, wi_y hg, pe_bo, if_neg (by decide), h1.2.2.1, pe_g (n8 h1.1), h1.2.2.2.2.1, pe_g (n10 h1.2.1)]
      simp only [pw_b, pw_bo, pw_some]
      refine pw_mono (pc_begin (i := 21) h2) ?_
      rintro m1 ⟨a1, a2, a3⟩
      refine pl_for (fun k s => s.1 = jdF T cd L k ∧ s.2.1 = n32 k ∧ cT s.2.2 c T cd ∧ cSt s.2.2 21 (jdS T cd L k) ∧ kp (fun k j _ => pcE c k j ∨ pcS 21 k j) mem s.2.2) n (by omega) ⟨rfl, rfl, a2, a1, a3.mo (fun k i p a => Or.inr a)⟩ ?_
      clear a1 a2 a3 m1
      rintro k ⟨l8, l9, m1⟩ hk ⟨e1, e2, e3, e4, e5⟩
      simp only at e1 e2 e3 e4 e5
      subst e1 e2
      have ok := jdS_ok (cd := cd) hT v2 k hk
      have r10 : m1.1 10 y 0 = n32 n := by rw [e5.1 10 y 0 (by omega)]; exact v3
      unfold f_X0_judge_B14 f_X0_judge_J97
      simp (disch := omega) only [r10, pw_if, pw_some, pw_g, pw_bo, n32_le, lr_r, lr_l, n32_in, n32_cl, n32_al]
      refine ⟨fun hz => ?_, fun hz => ⟨by omega, by omega, by omega, ?_⟩⟩
      · have : k = n := by omega
        subst this
        unfold f_X0_judge_K14 f_X0_judge_J135
        have kk : kp (fun k i _ => pXc c k i) mem m1 := e5.mo (fun k i p a => by omega)
        simp only [pw_if, pw_bo, pw_some]
        refine ⟨fun z0 => ⟨by rw [if_pos z0], e3, kk⟩, fun z0 => ⟨fun z1 => ?_, fun z1 => ⟨by rw [if_neg z0, if_neg z1]; exact e4.1.2.1, e3, kk⟩⟩⟩
        rw [e4.1.2.2.1, pc_bits (bs_lt _ 8), pw_some]
        exact ⟨by rw [if_neg z0, if_pos z1]; exact over_n ok, e3, kk⟩
      · have hk : k < n := by omega
        obtain ⟨d1, d2, d3⟩ := v2 k hk
        have z := v5 k hk
        rw [← e5.1 48 y k (by omega), ← e5.1 49 y k (by omega), ← e5.1 50 y k (by omega)] at z
        rw [z.1, z.2.1, z.2.2, pc_ddB e3.1.1 hT e4 ok d1 d2, pw_some]
        by_cases hb : ddB T (jdS T cd L k) (L k).1 (L k).2.1 (L k).2.2 = true
        · rw [if_pos hb]
          refine ⟨fun x => absurd x (by decide), fun _ => ⟨by omega, by omega, by omega, pw_mono (pc_ddA e3 e4 ok d1 d2 d3 hb) ?_⟩⟩
          rintro m2 ⟨b1, b2, b3⟩
          refine ⟨hk, ?_, by trivial, b2, ?_, e5.tr b3⟩
          · rw [jdF_s, if_pos hb]
          · unfold jdS; rw [if_pos hb]; exact b1
        · rw [if_neg hb]
          have s1 : cSt m1 21 (jdS T cd L (k + 1)) := by unfold jdS; rw [if_neg hb]; exact e4
          refine ⟨fun _ => ⟨fun w1 => ⟨hk, ?_, by trivial, e3, s1, e5⟩, fun w1 => ⟨hk, ?_, by trivial, e3, s1, e5⟩⟩, fun x => absurd (by trivial) x⟩
          · rw [jdF_s, if_neg hb, if_pos w1]
          · rw [jdF_s, if_neg hb, if_neg w1]
    · intro m1 R1 km
      obtain ⟨r1, r2, r3, -⟩ := id R1
      have y0 : m1.1 61 0 0 = n32 n := by rw [km.1 61 0 0 (by omega)]; exact v4
      have y1 : ∀ k, k < n → m1.1 61 0 (1 + 3 * k) = n32 (L k).1 ∧ m1.1 61 0 (2 + 3 * k) = n32 (L k).2.1 ∧ m1.1 61 0 (3 + 3 * k) = n32 (L k).2.2 := fun k hk => by
        rw [km.1 61 0 _ (by omega), km.1 61 0 _ (by omega), km.1 61 0 _ (by omega)]; exact v6 k hk
      unfold f_X12_judged
      rw [pe_let, pm_within, wi_y hg, pe_bo, if_neg (by decide), pw_bo]
      have q1 : mTw (mi_wI m1 12 0 0 0) T := r3.1.1.mv kp_thr (fun p _ x => by omega)
      refine pw_mono (pm_starts (b := 1323) q1 hT (by omega)) ?_
      rintro m2 ⟨a1, a2⟩
      have k2 : kp (fun k i p => pXm k i p) m1 m2 := kp_thr.tr (a2.mo (fun k i p a => by omega))
      rw [pw_bo]
      refine pl_for (fun k s => s.1 = jdF T cd L k ∧ s.2.1 = n32 k ∧ mSt s.2.2 1323 (jdS T cd L k) ∧ kp (fun k i p => pXm k i p) m1 s.2.2) n (by omega) ⟨rfl, rfl, a1, k2⟩ ?_
      clear a1 a2 k2 m2
      rintro k ⟨l11, l12, m2⟩ hk ⟨e1, e2, e4, e5⟩
      simp only at e1 e2 e4 e5
      subst e1 e2
      have ok := jdS_ok (cd := cd) hT v2 k hk
      have t2 : mT m2 T cd := r3.mv e5 (fun k i p a b d => by omega)
      have z0 : m2.1 61 0 0 = n32 n := by rw [e5.1 61 0 0 (by omega)]; exact y0
      have z24 : m2.1 12 0 24 = 0 := by rw [e5.1 12 0 24 (by omega)]; exact r1.2.2.2.2.2.2
      unfold f_X12_judged_B28 f_X12_judged_J87 f_X12_judged_J88
      simp (disch := omega) only [n32_lcl, n32_lin, z0, pw_if, pw_some, pw_g, pw_b, n32_le, lr_r, lr_l, n32_lm, n32_la, n32_in, n32_cl, n32_al]
      refine ⟨by omega, fun hz => ?_, fun hz => ⟨by omega, by omega, by omega, ?_⟩⟩
      · have : k = n := by omega
        subst this
        unfold f_X12_judged_K28 f_X12_judged_J126
        simp (disch := omega) only [pw_if, pw_bo, pw_some, pw_g, n32_lin, n32_lcl]
        refine ⟨fun w0 => ⟨by rw [if_pos w0], e5⟩, fun w0 => ⟨fun w1 => ?_, fun w1 => ⟨by omega, by rw [if_neg w0, if_neg w1]; exact e4 1 (by omega), e5⟩⟩⟩
        rw [show f_X12_overMany 1323 m2 = _ from pm_overMany (b := 1323) t2.1.1 hT e4 ok (by omega), pw_some]
        exact ⟨by rw [if_neg w0, if_pos w1], e5⟩
      · have hk : k < n := by omega
        obtain ⟨d1, d2, d3⟩ := v2 k hk
        have z := y1 k hk
        rw [← e5.1 61 0 _ (by omega), ← e5.1 61 0 _ (by omega), ← e5.1 61 0 _ (by omega)] at z
        rw [z.1, z.2.1, z.2.2]
        refine pw_mono (pm_does t2 e4 ok d1 d2 z24) ?_
        rintro ⟨v, m3⟩ ⟨b1, b2, b3⟩
        simp only at b1 b2 b3
        have k3 : kp (fun k i p => pXm k i p) m1 m3 := e5.tr (b3.mo (fun k i p a => by omega))
        have s3 : mSt m3 1323 (jdS T cd L (k + 1)) := b2
        have nn := jdF_n (T := T) (cd := cd) (L := L) (k := k) (by omega)
        by_cases hb : ddB T (jdS T cd L k) (L k).1 (L k).2.1 (L k).2.2 = true
        · rw [if_pos hb] at b1
          subst b1
          refine ⟨fun x => absurd (show (1 : Int32) = 0 from x) (by decide), fun _ => ⟨hk, ?_, by trivial, s3, k3⟩⟩
          rw [jdF_s, if_pos hb]
        · rw [if_neg hb] at b1
          subst b1
          refine ⟨fun _ => ⟨fun w1 => ⟨hk, ?_, by trivial, s3, k3⟩, fun w1 => ⟨hk, ?_, by trivial, s3, k3⟩⟩, fun x => absurd rfl x⟩
          · rw [jdF_s, if_neg hb, if_neg (nn.mp w1)]
          · have w2 : jdF T cd L k = -1 := by
              by_cases ez : jdF T cd L k = -1
              · exact ez
              · exact absurd (nn.mpr ez) w1
            rw [jdF_s, if_neg hb, if_pos w2]
  · refine ob_no (f1 := f_X11_judged a0) (f2 := f_X12_judged a0) (v := -2) hR ?_ ?_
    · unfold f_X11_judged f_X11_judged_J30
      rw [pc_within, wi_n hg, pe_bo, if_pos rfl]
    · unfold f_X12_judged
      rw [pe_let, pm_within, wi_n hg, pe_bo, if_pos rfl]
