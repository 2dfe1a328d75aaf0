/-! ===== dark, middle; what can be undone ===== -/
theorem pc_firstDoor {c b i j : Nat} {m : mi_M} {T : Nat → Nat} {cd : Nat → List Int32} (h : cT m c T cd) (hb : b < 64) (hi : i < 6) (hj : j < 6) : wo (f_X9_firstDoor c (n32 b) (n32 i) (n32 j) m) (fun r => FD T b i j 6 0 r.1 ∧ cT r.2 c T cd ∧ kp (fun k i _ => pcE c k i) m r.2) := by
  have hT := h.1.2.1
  have hX : XX = 1048576 := rfl
  unfold f_X9_firstDoor
  rw [pw_b]
  refine pw_mono (pc_cost h hb hi hj) ?_
  rintro ⟨v, m1⟩ ⟨a1, a2, a3⟩
  simp only at a1 a2 a3
  subst a1
  rw [pw_bo]
  refine pl_for (fun k s => s.1 = n32 k ∧ (∀ n, n < k → ¬ fdC T b i j n) ∧ cT s.2 c T cd ∧ kp (fun k i _ => pcE c k i) m s.2) 6 (by omega) ⟨rfl, fun n hn => absurd hn (by omega), a2, a3⟩ ?_
  rintro k ⟨l6, m2⟩ hk ⟨e1, e2, e3, e4⟩
  simp only at e1 e2 e3 e4
  subst e1
  unfold f_X9_firstDoor_B12
  simp (disch := omega) only [pw_if, pw_some, pw_b, pw_bo, n32_Lle, lr_r]
  refine ⟨fun hz => ?_, fun hz => ?_⟩
  · unfold f_X9_firstDoor_K12
    simp only [pw_some]
    exact ⟨Or.inr ⟨rfl, fun n _ hn => e2 n (by omega)⟩, e3, e4⟩
  · rw [pc_laneCost hT.2.2.2.2 hb hi (by omega) e3.2.1.1, pw_some]
    refine pw_mono (pc_cost e3 hb (show k < 6 by omega) hj) ?_
    rintro ⟨v, m3⟩ ⟨b1, b2, b3⟩
    simp only at b1 b2 b3
    subst b1
    have l1 := ((lanQ_ok hT.2.2.2.2 b) i k).1
    have l2 := cst_le hT.2.2.2.2 b k j
    have l3 := cst_le hT.2.2.2.2 b i j
    simp (disch := omega) only [n32_add, n32_eq]
    refine ⟨fun hy => ?_, fun hy => ?_⟩
    · unfold f_X9_firstDoor_K12
      simp only [lr_r, pw_some]
      exact ⟨Or.inl ⟨k, by omega, by omega, rfl, hy, fun n' _ hn => e2 n' hn⟩, b2, e4.tr b3⟩
    · rw [lr_l]
      refine ⟨by omega, by rw [n32_al], fun n hn => ?_, b2, e4.tr b3⟩
      by_cases e : n = k
      · rw [e]; exact hy
      · exact e2 n (by omega)
theorem po_dark : ob_dark Rel := by
  rintro a0 a1 a2 mem ⟨T, cd, c, y, hR⟩
  obtain ⟨h1, h2, h3, h4, h5, h6, ⟨S, hc, hm, hs⟩, h8, h9, h10⟩ := id hR
  have hT := h2.1.2.1
  have h60 := hT.1.1
  have hX : XX = 1048576 := rfl
  have none1 : ∀ f1 : Option (Int32 × mi_M), f1 = some (-1, mem) → wo f1 (fun r => r.1 = -1 ∧ cT r.2 c T cd ∧ kp (fun k i _ => pXc c k i) mem r.2) := by
    rintro f1 rfl
    rw [pw_some]
    exact ⟨rfl, h2, kp.rf⟩
  rcases two_or (T 0) a0 a1 with ⟨i, j, hi, hj, hij, rfl, rfl⟩ | hx
  · by_cases hw : (0 : Int32) ≤ a2 ∧ a2 ≤ 2
    · have cls : ∀ (Q : Int32 → Prop), (¬ cst T (lsA S 0) i j < XX → Q (-1)) → (cst T (lsA S 0) i j < XX → a2 = 0 → Q (n32 (cst T (lsA S 0) i j / 1024))) → (cst T (lsA S 0) i j < XX → a2 = 1 → Q (n32 (cst T (lsA S 0) i j % 1024))) → (cst T (lsA S 0) i j < XX → ¬ a2 = 0 → ¬ a2 = 1 → ∀ x, FD T (lsA S 0) i j 6 0 x → Q x) → wo (f_X11_dark (n32 i) (n32 j) a2 mem) (fun r => Q r.1 ∧ cT r.2 c T cd ∧ kp (fun k i _ => pXc c k i) mem r.2) := by
        intro Q q1 q2 q3 q4
        unfold f_X11_dark
        rw [h1.2.2.1, pe_g (n8 h1.1), pc_two h2.1.1 hT hi hj hij, pe_bo, if_neg (by decide), pc_within, wi_y hw, pe_bo, if_neg (by decide), show f_X5_burningBehind 0 0 mem = _ from pc_burning (n := 0) hc, pe_bo, pe_g (n8 h1.1)]
        unfold f_X9_isThere f_X9_isThere_J17
        simp only [pw_b]
        refine pw_mono (pc_cost h2 (lsA_lt S 0) (show i < 6 by omega) (show j < 6 by omega)) ?_
        rintro ⟨v, m1⟩ ⟨b1, b2, b3⟩
        simp only at b1 b2 b3
        subst b1
        have l3 := cst_le hT.2.2.2.2 (lsA S 0) i j
        have r1 : m1.2.2 0 = c := by rw [b3.2.2]; exact h1.2.2.1
        have k1 : kp (fun k i _ => pXc c k i) mem m1 := b3.mo (fun k i p a => Or.inl a)
        simp (disch := omega) only [pw_if, pw_g, pw_some, n32_Lle, r1]
        refine ⟨fun e => ⟨by decide, fun _ => ⟨q1 (by omega), b2, k1⟩, fun x => absurd (by trivial) x⟩, fun e => ⟨by decide, fun x => absurd x (by decide), fun _ => ⟨fun z0 => ⟨n8 h1.1, ?_⟩, fun z0 => ⟨fun z1 => ⟨n8 h1.1, ?_⟩, fun z1 => ⟨n8 h1.1, ?_⟩⟩⟩⟩⟩
        · unfold f_X9_darkOf
          simp only [pw_b]
          refine pw_mono (pc_cost b2 (lsA_lt S 0) (show i < 6 by omega) (show j < 6 by omega)) ?_
          rintro ⟨v, m2⟩ ⟨d1, d2, d3⟩
          simp only at d1 d2 d3
          subst d1
          simp (disch := omega) only [pw_some, n32_dl]
          exact ⟨q2 (by omega) z0, d2, k1.tr (d3.mo (fun k i p a => Or.inl a))⟩
        · unfold f_X9_minutesOf
          simp only [pw_b]
          refine pw_mono (pc_cost b2 (lsA_lt S 0) (show i < 6 by omega) (show j < 6 by omega)) ?_
          rintro ⟨v, m2⟩ ⟨d1, d2, d3⟩
          simp only at d1 d2 d3
          subst d1
          simp (disch := omega) only [pw_some, n32_dl, n32_ml, n32_sub]
          rw [show cst T (lsA S 0) i j - cst T (lsA S 0) i j / 1024 * 1024 = cst T (lsA S 0) i j % 1024 by omega]
          exact ⟨q3 (by omega) z1, d2, k1.tr (d3.mo (fun k i p a => Or.inl a))⟩
        · rw [pw_b]
          refine pw_mono (pc_firstDoor b2 (lsA_lt S 0) (show i < 6 by omega) (show j < 6 by omega)) ?_
          rintro ⟨v, m2⟩ ⟨d1, d2, d3⟩
          rw [pw_some]
          exact ⟨q4 (by omega) z0 z1 v d1, d2, k1.tr (d3.mo (fun k i p a => Or.inl a))⟩
      have mdl : ∀ (val : Int32), (¬ cst T (lsA S 0) i j < XX → val = -1) → (cst T (lsA S 0) i j < XX → a2 = 0 → val = n32 (cst T (lsA S 0) i j / 1024)) → (cst T (lsA S 0) i j < XX → a2 = 1 → val = n32 (cst T (lsA S 0) i j % 1024)) → (cst T (lsA S 0) i j < XX → ¬ a2 = 0 → ¬ a2 = 1 → FD T (lsA S 0) i j 6 0 val) → ∀ m1, RelX m1 T cd c y → (∀ S b, mSt mem b S → mSt m1 b S) → wo (f_X12_dark (n32 i) (n32 j) a2 m1) (fun r => r.1 = val ∧ kp (fun k i p => pXm k i p) m1 r.2) := by
        intro val v1 v2 v3 v4 m1 R1 hmm
        obtain ⟨g1, g2, g3, -⟩ := R1
        have q1 : mTw (mi_wI m1 12 0 0 0) T := g3.1.1.mv kp_thr (fun p _ x => by omega)
        have q2 : mSt (mi_wI m1 12 0 0 0) 0 S := (hmm S 0 hm).mv kp_thr (fun p a b d => by omega)
        unfold f_X12_dark f_X12_dark_J23 f_X12_dark_J95
        rw [pe_let, pm_two q1 hT hi hj hij, pe_bo, if_neg (by decide), pm_within, wi_y hw, pe_bo, if_neg (by decide), show f_X12_lampsOf 0 (mi_wI m1 12 0 0 0) = _ from pm_lampsOf (b := 0) q1 hT q2 hs (Nat.zero_le _), pe_bo, pw_bo]
        refine pw_mono (pm_lays hT.2.2.2.2 h60 (lsA_lt S 0) q1) ?_
        rintro m2 ⟨b1, b2, b3⟩
        have k2 : kp (fun k i p => pXm k i p) m1 m2 := kp_thr.tr (b1.mo (fun k i p a => by omega))
        have hd := b2 (6 * i + j) (by omega)
        rw [show (6 * i + j) / 6 = i by omega, show (6 * i + j) % 6 = j by omega] at hd
        have l3 := cst_le hT.2.2.2.2 (lsA S 0) i j
        have dl := dO_lt l3
        simp (disch := omega) only [pw_let, pw_if, pw_g, pw_some, n32_lm, n32_add, n32_in, n32_cl]
        rw [hd.1, hd.2, show (1000000 : Int32) = n32 1000000 from rfl, n32_lt (by omega) (by omega)]
        refine ⟨by omega, fun e => ⟨fun z0 => ⟨by omega, ?_, k2⟩, fun z0 => ⟨fun z1 => ⟨by omega, ?_, k2⟩, fun z1 => ⟨by omega, ?_, k2⟩⟩⟩, fun e => ⟨(v1 (by omega)).symm, k2⟩⟩
        · rw [v2 (by omega) z0]
          unfold dO
          rw [if_pos (by omega)]
        · rw [v3 (by omega) z1]
          unfold fO
          rw [if_pos (by omega)]
        · exact FD.un (b3 i j (by omega) (by omega) hij (by omega)) (v4 (by omega) z0 z1)
      by_cases hl : cst T (lsA S 0) i j < XX
      · by_cases z0 : a2 = 0
        · exact ob_ev (f1 := f_X11_dark (n32 i) (n32 j) a2) (f2 := f_X12_dark (n32 i) (n32 j) a2) hR _ (cls (fun x => x = n32 (cst T (lsA S 0) i j / 1024)) (fun x => absurd hl x) (fun _ _ => rfl) (fun _ z1 => absurd (z0.symm.trans z1) (by decide)) (fun _ z => absurd z0 z)) (mdl _ (fun x => absurd hl x) (fun _ _ => rfl) (fun _ z1 => absurd (z0.symm.trans z1) (by decide)) (fun _ z => absurd z0 z))
        · by_cases z1 : a2 = 1
          · exact ob_ev (f1 := f_X11_dark (n32 i) (n32 j) a2) (f2 := f_X12_dark (n32 i) (n32 j) a2) hR _ (cls (fun x => x = n32 (cst T (lsA S 0) i j % 1024)) (fun x => absurd hl x) (fun _ z => absurd z z0) (fun _ _ => rfl) (fun _ _ z => absurd z1 z)) (mdl _ (fun x => absurd hl x) (fun _ z => absurd z z0) (fun _ _ => rfl) (fun _ _ z => absurd z1 z))
          · obtain ⟨⟨x, m1⟩, e1, f1, f2, f3⟩ := cls (fun x => FD T (lsA S 0) i j 6 0 x) (fun x => absurd hl x) (fun _ z => absurd z z0) (fun _ z => absurd z z1) (fun _ _ _ x hx => hx)
            exact ob_ev (f1 := f_X11_dark (n32 i) (n32 j) a2) (f2 := f_X12_dark (n32 i) (n32 j) a2) hR x ⟨_, e1, rfl, f2, f3⟩ (mdl x (fun x => absurd hl x) (fun _ z => absurd z z0) (fun _ z => absurd z z1) (fun _ _ _ => f1))
      · exact ob_ev (f1 := f_X11_dark (n32 i) (n32 j) a2) (f2 := f_X12_dark (n32 i) (n32 j) a2) hR (-1) (cls (fun x => x = -1) (fun _ => rfl) (fun x => absurd x hl) (fun x => absurd x hl) (fun x => absurd x hl)) (mdl _ (fun _ => rfl) (fun x => absurd x hl) (fun x => absurd x hl) (fun x => absurd x hl))
    · refine ob_ev (f1 := f_X11_dark (n32 i) (n32 j) a2) (f2 := f_X12_dark (n32 i) (n32 j) a2) hR (-1) (none1 _ ?_) ?_
      · unfold f_X11_dark f_X11_dark_J21
        rw [h1.2.2.1, pe_g (n8 h1.1), pc_two h2.1.1 hT hi hj hij, pe_bo, if_neg (by decide), pc_within, wi_n hw, pe_bo, if_pos rfl]
      · intro m1 R1 hmm
        obtain ⟨g1, g2, g3, -⟩ := R1
        have q1 : mTw (mi_wI m1 12 0 0 0) T := g3.1.1.mv kp_thr (fun p _ x => by omega)
        unfold f_X12_dark f_X12_dark_J23
        rw [pe_let, pm_two q1 hT hi hj hij, pe_bo, if_neg (by decide), pm_within, wi_n hw, pe_bo, if_pos rfl, pw_some]
        exact ⟨rfl, kp_thr⟩
  · refine ob_ev (f1 := f_X11_dark a0 a1 a2) (f2 := f_X12_dark a0 a1 a2) hR (-1) (none1 _ ?_) ?_
    · unfold f_X11_dark f_X11_dark_J21
      rw [h1.2.2.1, pe_g (n8 h1.1), pc_two_n h2.1.1 hT hx, pe_bo, if_pos rfl]
    · intro m1 R1 hmm
      obtain ⟨g1, g2, g3, -⟩ := R1
      have q1 : mTw (mi_wI m1 12 0 0 0) T := g3.1.1.mv kp_thr (fun p _ x => by omega)
      unfold f_X12_dark f_X12_dark_J23
      rw [pe_let, pm_two_n q1 hT hx, pe_bo, if_pos rfl, pw_some]
      exact ⟨rfl, kp_thr⟩
/-! middle -/
def mdS (T : Nat → Nat) (b k : Nat) : Nat := sumN (fun j => dh (cst T b k j)) (T 0)
def mdA (T : Nat → Nat) (b : Nat) : Nat → Int32 × Int32
  | 0 => (-1, 0)
  | k + 1 => if (mdA T b k).1 = -1 ∨ n32 (mdS T b k) < (mdA T b k).2 then (n32 k, n32 (mdS T b k)) else mdA T b k
theorem mdA_neg {T : Nat → Nat} {b : Nat} : ∀ {k : Nat}, k < 1000 → ((mdA T b k).1 < 0 ↔ (mdA T b k).1 = -1)
  | 0, _ => by show ((-1 : Int32) < 0 ↔ (-1 : Int32) = -1); decide
  | k + 1, h => by
    unfold mdA
    split
    · show (n32 k < 0 ↔ n32 k = -1)
      rw [n32_nn (by omega), n32_eqN (by omega)]
    · exact mdA_neg (by omega)
theorem po_middle : ob_middle Rel := by
  rintro mem ⟨T, cd, c, y, hR⟩
  obtain ⟨h1, h2, h3, h4, h5, h6, ⟨S, hc, hm, hs⟩, h8, h9, h10⟩ := id hR
  have hT := h2.1.2.1
  have h60 := hT.1.1
  have hX : XX = 1048576 := rfl
  obtain ⟨b, hb⟩ : ∃ b, b = lsA S 0 := ⟨_, rfl⟩
  have hb64 : b < 64 := by rw [hb]; exact lsA_lt S 0
  refine ob_ev (f1 := f_X11_middle) (f2 := f_X12_middle) hR (mdA T b (T 0)).1 ?_ ?_
  · unfold f_X11_middle
    rw [h1.2.2.1, pe_g (n8 h1.1), show f_X5_burningBehind 0 0 mem = _ from pc_burning (n := 0) hc, pe_bo, pe_g (n8 h1.1), h2.1.1.1.1, ← hb]
    unfold f_X9_leastDarkDoor
    simp only [pw_b, pw_bo, pw_some]
    refine pl_for (fun k s => s.1 = (mdA T b k).1 ∧ s.2.1 = (mdA T b k).2 ∧ s.2.2.1 = n32 k ∧ cT s.2.2.2 c T cd ∧ kp (fun k i _ => pcE c k i) mem s.2.2.2) (T 0) (by omega) ⟨rfl, rfl, rfl, h2, kp.rf⟩ ?_
    rintro k ⟨l3, l4, l5, m1⟩ hk ⟨e1, e2, e3, e4, e5⟩
    simp only at e1 e2 e3 e4 e5
    subst e1 e2 e3
    unfold f_X9_leastDarkDoor_B8
    simp (disch := omega) only [pw_if, pw_some, pw_bo, n32_le, lr_r]
    refine ⟨fun hz => ?_, fun hz => ?_⟩
    · have : k = T 0 := by omega
      subst this
      unfold f_X9_leastDarkDoor_K8
      simp only [pw_some]
      exact ⟨by trivial, e4, e5.mo (fun k i p a => Or.inl a)⟩
    · refine pl_for (fun t s => s.1 = n32 (sumN (fun j => dh (cst T b k j)) t) ∧ s.2.1 = n32 t ∧ cT s.2.2 c T cd ∧ kp (fun k i _ => pcE c k i) mem s.2.2) (T 0) (by omega) ⟨rfl, rfl, e4, e5⟩ ?_
      clear e4 e5 m1
      rintro t ⟨l13, l14, m1⟩ ht ⟨e1, e3, e4, e5⟩
      simp only at e1 e3 e4 e5
      subst e1 e3
      unfold f_X9_leastDarkDoor_B20
      simp (disch := omega) only [pw_if, pw_some, pw_b, pw_bo, pw_let, n32_le, lr_r]
      refine ⟨fun hy => ?_, fun hy => ?_⟩
      · have : t = T 0 := by omega
        subst this
        unfold f_X9_leastDarkDoor_K20 f_X9_leastDarkDoor_J61 f_X9_leastDarkDoor_J68
        simp only [pw_if, pw_some, lr_l, n32_al]
        have hsame : ∀ u v, (u, v) = mdA T b (k + 1) → k < T 0 ∧ u = (mdA T b (k + 1)).1 ∧ v = (mdA T b (k + 1)).2 ∧ True ∧ cT m1 c T cd ∧ kp (fun k i _ => pcE c k i) mem m1 := by
          intro u v huv
          rw [← huv]
          exact ⟨by omega, rfl, rfl, trivial, e4, e5⟩
        refine ⟨fun w1 => hsame _ _ ?_, fun w1 => ⟨fun w2 => hsame _ _ ?_, fun w2 => hsame _ _ ?_⟩⟩
        · show _ = if _ then _ else _
          rw [if_pos (Or.inl w1)]; rfl
        · show _ = if _ then _ else _
          rw [if_neg (fun x => x.elim w1 (fun x => absurd x (i32_nlt.mpr w2)))]
        · show _ = if _ then _ else _
          rw [if_pos (Or.inr (show n32 (mdS T b k) < (mdA T b k).2 from i32_nle.mp w2))]; rfl
      · refine pw_mono (pc_cost e4 hb64 (show k < 6 by omega) (show t < 6 by omega)) ?_
        rintro ⟨v, m2⟩ ⟨b1, b2, b3⟩
        simp only at b1 b2 b3
        subst b1
        simp only [pc_dh (cst_le hT.2.2.2.2 b k t), pw_some, lr_l, n32_add, n32_al]
        exact ⟨by omega, by trivial, by trivial, b2, e5.tr b3⟩
  · intro m1 R1 hmm
    obtain ⟨g1, g2, g3, -⟩ := R1
    have q1 : mTw (mi_wI m1 12 0 0 0) T := g3.1.1.mv kp_thr (fun p _ x => by omega)
    have q2 : mSt (mi_wI m1 12 0 0 0) 0 S := (hmm S 0 hm).mv kp_thr (fun p a b d => by omega)
    unfold f_X12_middle
    rw [pe_let, show f_X12_lampsOf 0 (mi_wI m1 12 0 0 0) = _ from pm_lampsOf (b := 0) q1 hT q2 hs (Nat.zero_le _), pe_bo, pw_bo, ← hb]
    refine pw_mono (pm_lays hT.2.2.2.2 h60 hb64 q1) ?_
    rintro m2 ⟨b1, b2, -⟩
    have k2 : kp (fun k i p => pXm k i p) m1 m2 := kp_thr.tr (b1.mo (fun k i p a => by omega))
    have q3 : mTw m2 T := q1.mv b1 (fun p _ x => by omega)
    rw [pw_bo]
    refine pl_for (fun k s => s = ((mdA T b k).1, (mdA T b k).2, n32 k)) (T 0) (by omega) rfl ?_
    rintro k s hk rfl
    unfold f_X12_middle_B20
    simp (disch := omega) only [pm_people q3, pw_if, pw_some, pw_bo, n32_le, lr_r]
    refine ⟨fun hz => ?_, fun hz => ?_⟩
    · have : k = T 0 := by omega
      subst this
      unfold f_X12_middle_K20
      rw [pw_some]
      exact ⟨rfl, k2⟩
    · refine pl_for (fun t s => s = (n32 (sumN (fun j => dh (cst T b k j)) t), n32 t)) (T 0) (by omega) rfl ?_
      rintro t s ht rfl
      unfold f_X12_middle_B34 f_X12_middle_J80
      simp (disch := omega) only [pm_people q3, pw_if, pw_some, pw_bo, pw_g, pw_let, n32_le, lr_r, lr_l, n32_lm, n32_add, n32_in, n32_cl, n32_al]
      refine ⟨fun hy => ?_, fun hy => ⟨by omega, ?_⟩⟩
      · have : t = T 0 := by omega
        subst this
        have fin : ∀ (u : Int32) (x1 x2 : Int32), (x1, x2) = mdA T b (k + 1) → wo (f_X12_middle_J128 (n32 k) x1 x2) (lr (fun s' => k < T 0 ∧ s' = ((mdA T b (k + 1)).1, (mdA T b (k + 1)).2, n32 (k + 1))) (fun e => wo (f_X12_middle_K20 m2 e) (fun r => r.1 = (mdA T b (T 0)).1 ∧ kp (fun k i p => pXm k i p) m1 r.2))) := by
          intro u x1 x2 hx
          unfold f_X12_middle_J128
          rw [pw_some, lr_l, ← hx, n32_al]
          exact ⟨by omega, rfl⟩
        unfold f_X12_middle_K34 f_X12_middle_J99 f_X12_middle_J104 f_X12_middle_J116
        simp only [pw_if]
        have nn := mdA_neg (T := T) (b := b) (k := k) (by omega)
        refine ⟨fun w1 => ⟨fun x => absurd x (by decide), fun _ => ⟨fun x => absurd x (by decide), fun _ => fin 0 _ _ ?_⟩⟩, fun w1 => ⟨fun w2 => ⟨fun _ => ⟨fun _ => fin 0 _ _ ?_, fun x => absurd (by trivial) x⟩, fun x => absurd (by trivial) x⟩, fun w2 => ⟨fun x => absurd x (by decide), fun _ => ⟨fun x => absurd x (by decide), fun _ => fin 0 _ _ ?_⟩⟩⟩⟩
        · show _ = if _ then _ else _
          rw [if_pos (Or.inl (nn.mp w1))]; rfl
        · show _ = if _ then _ else _
          rw [if_neg (fun x => x.elim (fun z => w1 (nn.mpr z)) (fun x => absurd x (i32_nlt.mpr w2)))]
        · show _ = if _ then _ else _
          rw [if_pos (Or.inr (show n32 (mdS T b k) < (mdA T b k).2 from i32_nle.mp w2))]; rfl
      · have hd := (b2 (6 * k + t) (by omega)).1
        rw [show (6 * k + t) / 6 = k by omega, show (6 * k + t) % 6 = t by omega] at hd
        have hl := cst_le hT.2.2.2.2 b k t
        have hdl := dO_lt hl
        rw [hd, show (1000000 : Int32) = n32 1000000 from rfl, n32_lt (by omega) (by omega)]
        refine ⟨fun e => ⟨by omega, by omega, ?_⟩, fun e => ⟨by omega, ?_⟩⟩
        · rw [n32_add]
          show (n32 (_ + _), _) = (n32 (_ + dh _), _)
          unfold dh
          rw [if_pos (by omega)]
          unfold dO
          rw [if_pos (by omega)]
        · show (n32 (_ + _), _) = (n32 (_ + dh _), _)
          unfold dh
          rw [if_neg (by omega)]
