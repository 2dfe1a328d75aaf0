/-! ===== by hand: say, give, ask, night; undo ===== -/
theorem pc_keep {m : mi_M} {S : Nat → Int32} {h nx : Nat} (hS : cSt m 0 S) (hh : h ≤ 16) (hn : nx < 16) (e0 : m.1 3 0 0 = n32 h) (e1 : m.1 3 0 1 = n32 nx) : wo (f_X3_keep 0 m) (fun m' => cSt m' (1 + nx) S ∧ m'.1 3 0 0 = n32 (min 16 (h + 1)) ∧ m'.1 3 0 1 = n32 ((nx + 1) % 16) ∧ kp (fun k i p => pcS (1 + nx) k i ∨ (k = 3 ∧ i = 0 ∧ p < 2)) m m') := by
  unfold f_X3_keep
  rw [e1]
  simp (disch := omega) only [pw_g, pw_bo, pw_let, pw_some, n32_in, n32_cl]
  refine ⟨hn, ?_⟩
  rw [show 0 * 0 + 1 + nx = 1 + nx by omega]
  refine pw_mono (pc_become (i := 1 + nx) hS) ?_
  rintro m1 ⟨a1, a2⟩
  have r1 : m1.1 3 0 1 = n32 nx := by rw [a2.1 3 0 1 (by omega)]; exact e1
  have r0 : m1.1 3 0 0 = n32 h := by rw [a2.1 3 0 0 (by omega)]; exact e0
  simp (disch := omega) only [r1, r0, rI_ne, n32_al, n32_dl, n32_ml, n32_sub, n32_ltL]
  have k1 : kp (fun k i p => pcS (1 + nx) k i ∨ (k = 3 ∧ i = 0 ∧ p < 2)) m m1 := a2.mo (fun k i p a => Or.inl a)
  refine ⟨a1.mv (((kp.rf (P := fun k i p => k = 3 ∧ i = 0 ∧ p < 2)).wI ⟨rfl, rfl, by omega⟩).wI ⟨rfl, rfl, by omega⟩) (fun k i p a b d => by omega), ?_, ?_, (k1.wI (Or.inr ⟨rfl, rfl, by omega⟩)).wI (Or.inr ⟨rfl, rfl, by omega⟩)⟩
  · rw [rI_eq]
    by_cases e : h + 1 < 16
    · rw [if_pos e, show min 16 (h + 1) = h + 1 by omega]
    · rw [if_neg e, show min 16 (h + 1) = 16 by omega]; rfl
  · rw [rI_eq]
    congr 1
    omega
theorem pm_keeps {m : mi_M} {h : Nat} (hh : h ≤ 16) (e0 : m.1 12 0 22 = n32 h) : wo (f_X12_keeps m) (fun m' => m'.1 12 0 22 = n32 (min 16 (h + 1)) ∧ (∀ q, q < 38 → m'.1 64 0 (63 * (5 + min 15 h) + q) = m.1 64 0 q) ∧ (h = 16 → ∀ j, j < 15 → ∀ q, q < 38 → m'.1 64 0 (63 * (5 + j) + q) = m.1 64 0 (63 * (5 + (j + 1)) + q)) ∧ (h < 16 → ∀ j, j < h → ∀ q, q < 38 → m'.1 64 0 (63 * (5 + j) + q) = m.1 64 0 (63 * (5 + j) + q)) ∧ kp (fun k i p => (k = 64 ∧ i = 0 ∧ 315 ≤ p ∧ p < 1323) ∨ (k = 12 ∧ i = 0 ∧ p = 22)) m m') := by
  have tail : ∀ m1 g, g < 16 → m1.1 12 0 22 = n32 g → wo (f_X12_keeps_J53 m1) (fun m' => m'.1 12 0 22 = n32 (g + 1) ∧ (∀ q, q < 38 → m'.1 64 0 (63 * (5 + g) + q) = m1.1 64 0 q) ∧ kp (fun k i p => (k = 64 ∧ i = 0 ∧ 63 * (5 + g) ≤ p ∧ p < 63 * (5 + g) + 38) ∨ (k = 12 ∧ i = 0 ∧ p = 22)) m1 m') := by
    intro m1 g hg e1
    unfold f_X12_keeps_J53
    rw [e1]
    simp (disch := omega) only [pw_bo, pw_let, pw_some, n32_la, n32_lm]
    refine pw_mono (pm_copies (a := 0) (b := 63 * (5 + g)) (n := 38) (by omega) (by omega) (by omega)) ?_
    rintro m2 ⟨a1, a2⟩
    rw [a1.1 12 0 22 (by omega), e1]
    refine ⟨by rw [rI_eq, n32_al], fun q hq => ?_, (a1.mo (fun k i p a => by omega)).wI (Or.inr ⟨rfl, rfl, rfl⟩)⟩
    rw [rI_ne (by omega), a2 q hq, Nat.zero_add]
  unfold f_X12_keeps
  rw [e0]
  simp (disch := omega) only [pw_if, n32_eqL, pw_bo]
  refine ⟨fun e => ?_, fun e => ?_⟩
  · subst e
    refine pl_for (fun k s => s.1 = n32 (k + 1) ∧ (∀ j, j < k → ∀ q, q < 38 → s.2.1 64 0 (63 * (5 + j) + q) = m.1 64 0 (63 * (5 + (j + 1)) + q)) ∧ (∀ p, (p < 315 ∨ 63 * (5 + k) ≤ p) → s.2.1 64 0 p = m.1 64 0 p) ∧ kp (fun k i p => (k = 64 ∧ i = 0 ∧ 315 ≤ p ∧ p < 1323) ∨ (k = 12 ∧ i = 0 ∧ p = 22)) m s.2 ∧ s.2.1 12 0 22 = n32 16) 15 (by omega) ⟨rfl, fun j hj => absurd hj (by omega), fun p _ => rfl, kp.rf, e0⟩ ?_
    rintro k ⟨l6, m1⟩ hk ⟨e1, e2, e3, e4, e5⟩
    simp only at e1 e2 e3 e4 e5
    subst e1
    unfold f_X12_keeps_B11
    simp (disch := omega) only [pw_if, pw_some, pw_bo, n32_Lle, lr_r, lr_l, n32_la, n32_sl, n32_lm, n32_al]
    refine ⟨fun hz => ?_, fun hz => ?_⟩
    · have : k = 15 := by omega
      subst this
      unfold f_X12_keeps_K11
      rw [e5]
      simp (disch := omega) only [pw_let, n32_sl]
      refine pw_mono (tail _ 15 (by omega) rI_eq) ?_
      rintro m2 ⟨a1, a2, a3⟩
      refine ⟨by rw [a1]; rfl, fun q hq => ?_, fun _ j hj q hq => ?_, fun x => absurd x (by omega), (e4.wI (Or.inr ⟨rfl, rfl, rfl⟩)).tr (a3.mo (fun k i p a => by omega))⟩
      · rw [show min 15 16 = 15 by omega, a2 q hq, rI_ne (by omega), e3 q (by omega)]
      · rw [a3.1 64 0 _ (by omega), rI_ne (by omega), e2 j hj q hq]
    · have hk : k < 15 := by omega
      rw [show 5 + (k + 1) - 1 = 5 + k by omega]
      refine pw_mono (pm_copies (a := 63 * (5 + (k + 1))) (b := 63 * (5 + k)) (n := 38) (by omega) (by omega) (by omega)) ?_
      rintro m2 ⟨a1, a2⟩
      refine ⟨hk, by trivial, fun j hj q hq => ?_, fun p hp => ?_, e4.tr (a1.mo (fun k i p a => by omega)), ?_⟩
      · by_cases e : j = k
        · subst e
          rw [a2 q hq, e3 _ (by omega)]
        · rw [a1.1 64 0 _ (by omega), e2 j (by omega) q hq]
      · rw [a1.1 64 0 _ (by omega), e3 p (by omega)]
      · rw [a1.1 12 0 22 (by omega), e5]
  · refine pw_mono (tail m h (by omega) e0) ?_
    rintro m2 ⟨a1, a2, a3⟩
    refine ⟨by rw [a1, show min 16 (h + 1) = h + 1 by omega], fun q hq => ?_, fun x => absurd x e, fun _ j hj q hq => ?_, a3.mo (fun k i p a => by omega)⟩
    · rw [show min 15 h = h by omega, a2 q hq]
    · rw [a3.1 64 0 _ (by omega)]
/-- what the developers' may change by hand -/
abbrev pHc (c nx k i p : Nat) : Prop := pcE c k i ∨ pcS 0 k i ∨ pcS (1 + nx) k i ∨ (k = 3 ∧ i = 0 ∧ p < 2)
/-- what the reference may change by hand -/
abbrev pHm (k i p : Nat) : Prop := pXm k i p ∨ pmS 0 k i p ∨ (k = 64 ∧ i = 0 ∧ 315 ≤ p ∧ p < 1323) ∨ (k = 12 ∧ i = 0 ∧ p = 22)
theorem hand_rel {mem m1 m2 : mi_M} {T : Nat → Nat} {cd : Nat → List Int32} {c y h nx : Nat} {S S' : Nat → Int32} (hR : RelX mem T cd c y) (hm : mSt mem 0 S) (hs : sOK T S) (hs' : sOK T S') (u1 : h ≤ 16) (u2 : nx < 16) (u6 : ∀ j, j < h → pState mem T (1 + (nx + 16 - h + j) % 16) (63 * (5 + j)))
    (c1 : cT m1 c T cd) (c2 : cSt m1 0 S') (c3 : cSt m1 (1 + nx) S) (c4 : m1.1 3 0 0 = n32 (min 16 (h + 1))) (c5 : m1.1 3 0 1 = n32 ((nx + 1) % 16)) (c6 : kp (fun k i p => pHc c nx k i p) mem m1)
    (d1 : mSt m2 0 S') (d2 : m2.1 12 0 22 = n32 (min 16 (h + 1))) (d3 : ∀ q, q < 38 → m2.1 64 0 (63 * (5 + min 15 h) + q) = S q) (d4 : h = 16 → ∀ j, j < 15 → ∀ q, q < 38 → m2.1 64 0 (63 * (5 + j) + q) = m1.1 64 0 (63 * (5 + (j + 1)) + q)) (d5 : h < 16 → ∀ j, j < h → ∀ q, q < 38 → m2.1 64 0 (63 * (5 + j) + q) = m1.1 64 0 (63 * (5 + j) + q)) (d6 : kp (fun k i p => pHm k i p) m1 m2) : RelX m2 T cd c y := by
  obtain ⟨h1, h2, h3, h4, h5, h6, h7, h8, h9, h10⟩ := hR
  have hc2 := h1.1
  have k2 : kp (fun k i p => pHc c nx k i p ∨ pHm k i p) mem m2 := (c6.mo (fun k i p a => Or.inl a)).tr (d6.mo (fun k i p a => Or.inr a))
  refine ⟨h1.mv k2 (by omega), c1.mv d6 (fun k i p a b => by unfold cTk at b; omega), h3.mv k2 (fun k i p a b d => by omega), h4.mv k2 (fun k i p a b d => by omega), h5.mv k2 (fun i p a => by omega), h6.mv k2 (fun k i p a b => by omega), ⟨S', c2.mv d6 (fun k i p a b d => by omega), d1, hs'⟩, h8.mv k2 (fun k i p a b => by omega), ?_, h10.mv k2 (fun k i p a b => by omega)⟩
  refine ⟨min 16 (h + 1), (nx + 1) % 16, by omega, by omega, ?_, ?_, d2, fun j hj => ?_⟩
  · rw [d6.1 3 0 0 (by omega)]; exact c4
  · rw [d6.1 3 0 1 (by omega)]; exact c5
  · by_cases e : j = min 15 h
    · subst e
      rw [show ((nx + 1) % 16 + 16 - min 16 (h + 1) + min 15 h) % 16 = nx by omega]
      exact ⟨S, c3.mv d6 (fun k i p a b d => by omega), d3, hs⟩
    · by_cases e2 : h = 16
      · obtain ⟨Sj, a1, a2, a3⟩ := u6 (j + 1) (by omega)
        have e3 : (nx + 16 - h + (j + 1)) % 16 = ((nx + 1) % 16 + 16 - min 16 (h + 1) + j) % 16 := by omega
        rw [e3] at a1
        refine ⟨Sj, (a1.mv c6 (fun k i p a b d => by omega)).mv d6 (fun k i p a b d => by omega), fun q hq => ?_, a3⟩
        rw [d4 e2 j (by omega) q hq, c6.1 64 0 _ (by omega)]
        exact a2 q hq
      · obtain ⟨Sj, a1, a2, a3⟩ := u6 j (by omega)
        have e3 : (nx + 16 - h + j) % 16 = ((nx + 1) % 16 + 16 - min 16 (h + 1) + j) % 16 := by omega
        rw [e3] at a1
        refine ⟨Sj, (a1.mv c6 (fun k i p a b d => by omega)).mv d6 (fun k i p a b d => by omega), fun q hq => ?_, a3⟩
        rw [d5 (by omega) j (by omega) q hq, c6.1 64 0 _ (by omega)]
        exact a2 q hq
/-- the developers' deed by hand -/
theorem pc_hand {mem : mi_M} {T : Nat → Nat} {cd : Nat → List Int32} {c h nx : Nat} {S S' : Nat → Int32} {f : mi_M → Option mi_M} (h2 : cT mem c T cd) (hc : cSt mem 0 S) (u1 : h ≤ 16) (u2 : nx < 16) (u3 : mem.1 3 0 0 = n32 h) (u4 : mem.1 3 0 1 = n32 nx) (act : ∀ m1, cT m1 c T cd → cSt m1 0 S → m1.2.2 = mem.2.2 → wo (f m1) (fun m' => cSt m' 0 S' ∧ cT m' c T cd ∧ kp (fun k j _ => pcE c k j ∨ pcS 0 k j) m1 m')) :
    wo (f_X3_keep 0 mem) (fun m1 => m1.2.2 = mem.2.2 ∧ m1.1 5 0 1 = S 1 ∧ wo (f m1) (fun m' => cT m' c T cd ∧ cSt m' 0 S' ∧ cSt m' (1 + nx) S ∧ m'.1 3 0 0 = n32 (min 16 (h + 1)) ∧ m'.1 3 0 1 = n32 ((nx + 1) % 16) ∧ kp (fun k i p => pHc c nx k i p) mem m')) := by
  refine pw_mono (pc_keep hc u1 u2 u3 u4) ?_
  rintro m1 ⟨a1, a2, a3, a4⟩
  have b1 : cT m1 c T cd := h2.mv a4 (fun k i p a b => by unfold cTk at b; omega)
  have b2 : cSt m1 0 S := hc.mv a4 (fun k i p a b d => by omega)
  refine ⟨a4.2.2, b2.1.2.1, pw_mono (act m1 b1 b2 a4.2.2) ?_⟩
  rintro m2 ⟨d1, d2, d3⟩
  refine ⟨d2, d1, a1.mv d3 (fun k i p a b d => by omega), ?_, ?_, (a4.mo (fun k i p a => by omega)).tr (d3.mo (fun k i p a => by omega))⟩
  · rw [d3.1 3 0 0 (by omega)]; exact a2
  · rw [d3.1 3 0 1 (by omega)]; exact a3
/-- the reference's deed by hand -/
theorem pm_hand {m1 : mi_M} {T : Nat → Nat} {cd : Nat → List Int32} {h : Nat} {S S' : Nat → Int32} {f : mi_M → Option (Int32 × mi_M)} {Q : Int32 → Prop} (h3 : mT m1 T cd) (hm : mSt m1 0 S) (u1 : h ≤ 16) (u5 : m1.1 12 0 22 = n32 h) (act : ∀ m2, mT m2 T cd → mSt m2 0 S → m2.1 12 0 24 = m1.1 12 0 24 → wo (f m2) (fun r => Q r.1 ∧ mSt r.2 0 S' ∧ kp (fun k i p => pmE k i ∨ pmS 0 k i p) m2 r.2)) :
    wo (f_X12_keeps (mi_wI m1 12 0 0 0)) (fun m2 => wo (f m2) (fun r => Q r.1 ∧ mSt r.2 0 S' ∧ r.2.1 12 0 22 = n32 (min 16 (h + 1)) ∧ (∀ q, q < 38 → r.2.1 64 0 (63 * (5 + min 15 h) + q) = S q) ∧ (h = 16 → ∀ j, j < 15 → ∀ q, q < 38 → r.2.1 64 0 (63 * (5 + j) + q) = m1.1 64 0 (63 * (5 + (j + 1)) + q)) ∧ (h < 16 → ∀ j, j < h → ∀ q, q < 38 → r.2.1 64 0 (63 * (5 + j) + q) = m1.1 64 0 (63 * (5 + j) + q)) ∧ kp (fun k i p => pHm k i p) m1 r.2)) := by
  refine pw_mono (pm_keeps (m := mi_wI m1 12 0 0 0) u1 (by rw [rI_ne (by omega)]; exact u5)) ?_
  rintro m2 ⟨a1, a2, a3, a4, a5⟩
  have k2 : kp (fun k i p => pHm k i p) m1 m2 := (kp_thr.mo (fun k i p a => Or.inl a)).tr (a5.mo (fun k i p a => by omega))
  have b1 : mT m2 T cd := h3.mv k2 (fun k i p a b d => by omega)
  have b2 : mSt m2 0 S := (hm.mv kp_thr (fun p a b d => by omega)).mv a5 (fun p a b d => by omega)
  refine pw_mono (act m2 b1 b2 (by rw [k2.1 12 0 24 (by omega)])) ?_
  rintro ⟨v, m3⟩ ⟨d1, d2, d3⟩
  refine ⟨d1, d2, ?_, fun q hq => ?_, fun e j hj q hq => ?_, fun e j hj q hq => ?_, k2.tr (d3.mo (fun k i p a => by omega))⟩
  · show m3.1 12 0 22 = _
    rw [d3.1 12 0 22 (by omega)]; exact a1
  · show m3.1 64 0 _ = _
    rw [d3.1 64 0 _ (by omega), a2 q hq, rI_ne (by omega)]
    have := hm q hq
    rwa [Nat.zero_add] at this
  · show m3.1 64 0 _ = _
    rw [d3.1 64 0 _ (by omega), a3 e j hj q hq, rI_ne (by omega)]
  · show m3.1 64 0 _ = _
    rw [d3.1 64 0 _ (by omega), a4 e j hj q hq, rI_ne (by omega)]
theorem po_night : ob_night Rel := by
  rintro mem ⟨T, cd, c, y, hR⟩
  obtain ⟨h1, h2, h3, h4, h5, h6, ⟨S, hc, hm, hs⟩, h8, ⟨h, nx, u1, u2, u3, u4, u5, u6⟩, h10⟩ := id hR
  have hT := h2.1.2.1
  have cls : wo (f_X11_night mem) (fun r => r.1 = n32 (hmN T (lsA S 0)) ∧ cT r.2 c T cd ∧ cSt r.2 0 (aSleep T cd S) ∧ cSt r.2 (1 + nx) S ∧ r.2.1 3 0 0 = n32 (min 16 (h + 1)) ∧ r.2.1 3 0 1 = n32 ((nx + 1) % 16) ∧ kp (fun k i p => pHc c nx k i p) mem r.2) := by
    unfold f_X11_night
    simp only [pw_let, pw_bo, pw_g, pw_some]
    refine pw_mono (pc_hand (f := f_X5_sleep 0 c) h2 hc u1 u2 u3 u4 (fun m1 a b _ => pc_sleep a b hs)) ?_
    rintro m1 ⟨a1, a2, a3⟩
    rw [a1, h1.2.2.1]
    refine ⟨n8 h1.1, pw_mono a3 ?_⟩
    rintro m2 ⟨b1, b2, b3, b4, b5, b6⟩
    refine ⟨?_, b1, b2, b3, b4, b5, b6⟩
    rw [b2.1.2.1, hc.1.2.1]
    show S 1 + n32 (hmN T (lsA S 0)) - S 1 = _
    rw [Int32.add_comm, Int32.add_sub_cancel]
  obtain ⟨⟨r, m1⟩, e1, x1, x2, x3, x4, x5, x6, x7⟩ := cls
  simp only at x1 x2 x3 x4 x5 x6 x7
  subst x1
  have g3 : mT m1 T cd := h3.mv x7 (fun k i p a b d => by omega)
  have gm : mSt m1 0 S := hm.mv x7 (fun p a b d => by omega)
  have mdl : wo (f_X12_night m1) (fun r => r.1 = n32 (hmN T (lsA S 0)) ∧ RelX r.2 T cd c y) := by
    unfold f_X12_night
    simp only [pw_let, pw_bo, pw_b, pw_some]
    refine pw_mono (pm_hand (f := f_X12_passes 0) (h := h) (S' := aSleep T cd S) (Q := fun r => r = n32 (hmN T (lsA S 0))) g3 gm u1 (by rw [x7.1 12 0 22 (by omega)]; exact u5) (fun m2 a b _ => pm_passes (b := 0) a b hs (Nat.zero_le _))) ?_
    intro m2 a
    refine pw_mono a ?_
    rintro ⟨v, m3⟩ ⟨b1, b2, b3, b4, b5, b6, b7⟩
    exact ⟨b1, hand_rel hR hm hs (aSleep_ok hT hs) u1 u2 u6 x2 x3 x4 x5 x6 x7 b2 b3 b4 b5 b6 b7⟩
  obtain ⟨⟨r, m2⟩, e2, z1, z2⟩ := mdl
  simp only at z1 z2
  subst z1
  exact ⟨_, m1, m2, e1, e2, T, cd, c, y, z2⟩
