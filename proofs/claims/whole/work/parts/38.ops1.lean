/-! ===== calls that tell: person, wrong, lamps, count, grudges, harm, dark, stays, middle ===== -/
theorem w_no {x : Int32} {hi : Nat} (hh : hi < 2147483648) (h : ∀ k, k ≤ hi → x ≠ n32 k) : ¬ ((0 : Int32) ≤ x ∧ x ≤ n32 hi) := by
  intro hx
  obtain ⟨k, -, h2, e⟩ := wi_of (lo := 0) (by omega) hh hx
  exact h k h2 e
theorem w_no2 {x : Int32} (h0 : x ≠ 0) (h1 : x ≠ 1) (h2 : x ≠ 2) : ¬ ((0 : Int32) ≤ x ∧ x ≤ 2) := w_no (hi := 2) (by omega) (fun k hk => by
  have : k = 0 ∨ k = 1 ∨ k = 2 := by omega
  rcases this with rfl | rfl | rfl
  · exact h0
  · exact h1
  · exact h2)
theorem po_person : ob_person Rel := by
  rintro a0 a1 mem ⟨T, cd, c, y, hR⟩
  obtain ⟨h1, h2, h3, h4, h5, h6, ⟨S, hc, hm, hs⟩, h8, h9, h10⟩ := id hR
  have hT := h2.1.2.1
  have h60 := hT.1.1
  have q1 : mTw (mi_wI mem 12 0 0 0) T := h3.1.1.mv kp_thr (fun p _ x => by omega)
  have q2 : mSt (mi_wI mem 12 0 0 0) 0 S := hm.mv kp_thr (fun p a b d => by omega)
  rcases in_or (T 0) a0 with ⟨p, hp, rfl⟩ | hx
  · refine ob_rd (f1 := f_X11_person (n32 p) a1) (f2 := f_X12_person (n32 p) a1) hR (if a1 = 0 then n32 (kdA T p) else if a1 = 1 then S (8 + p) else if a1 = 2 then S (2 + p) else -1) ?_ ?_
    · unfold f_X11_person
      have hin : vp_in (n32 p) 6 := (n32_in (by omega)).mpr (by omega)
      rw [h1.2.2.1, pe_g (n8 h1.1), pc_hasPerson h2.1.1 hT hp, pe_bo, if_neg (by decide), pe_g (n8 h1.1), pe_g hin, pe_g hin, pe_g hin, n32_cl (by omega), (h2.1.1.2.1 p hp).1, hc.2.2.1 p (by omega), hc.2.1 p (by omega)]
      repeat' split
      all_goals rfl
    · unfold f_X12_person f_X12_person_J22 f_X12_person_J61
      rw [pe_let, pm_isPerson q1 hT hp, pe_bo, if_neg (by decide), pm_within, pe_bo, pm_kindOf q1 (by omega), pe_bo]
      simp (disch := omega) only [n32_la, n32_in, n32_cl]
      have e8 := q2 (8 + p) (by omega)
      have e2 := q2 (2 + p) (by omega)
      rw [Nat.zero_add] at e8 e2
      rw [e8, e2, pe_g (by omega), pe_g (by omega)]
      by_cases x0 : a1 = 0
      · subst x0
        rw [wi_y (by decide), if_neg (by decide), if_pos rfl, if_pos rfl, pw_some]
        exact ⟨by trivial, kp_thr⟩
      · by_cases x1 : a1 = 1
        · subst x1
          rw [wi_y (by decide), if_neg (by decide), if_neg (by decide), if_pos rfl, if_neg (by decide), if_pos rfl, pw_some]
          exact ⟨by trivial, kp_thr⟩
        · by_cases x2 : a1 = 2
          · subst x2
            rw [wi_y (by decide), if_neg (by decide), if_neg (by decide), if_neg (by decide), if_neg (by decide), if_neg (by decide), if_pos rfl, pw_some]
            exact ⟨by trivial, kp_thr⟩
          · rw [wi_n (w_no2 x0 x1 x2), if_pos rfl, if_neg x0, if_neg x1, if_neg x2, pw_some]
            exact ⟨by trivial, kp_thr⟩
  · refine ob_rd (f1 := f_X11_person a0 a1) (f2 := f_X12_person a0 a1) hR (-1) ?_ ?_
    · unfold f_X11_person
      rw [h1.2.2.1, pe_g (n8 h1.1), pc_hasPerson_n h2.1.1 hT hx, pe_bo, if_pos rfl]
    · unfold f_X12_person f_X12_person_J22
      rw [pe_let, pm_isPerson_n q1 hT hx, pe_bo, if_pos rfl, pw_some]
      exact ⟨by trivial, kp_thr⟩
theorem i01 {x : Int32} (h : x = 0 ∨ x = 1) : (if x = 0 then (0 : Int32) else 1) = x := by
  rcases h with rfl | rfl <;> decide
theorem po_wrong : ob_wrong Rel := by
  rintro a0 a1 mem ⟨T, cd, c, y, hR⟩
  obtain ⟨h1, h2, h3, h4, h5, h6, ⟨S, hc, hm, hs⟩, h8, h9, h10⟩ := id hR
  have hT := h2.1.2.1
  have h82 := hT.1.2.1
  have q1 : mTw (mi_wI mem 12 0 0 0) T := h3.1.1.mv kp_thr (fun p _ x => by omega)
  have q2 : mSt (mi_wI mem 12 0 0 0) 0 S := hm.mv kp_thr (fun p a b d => by omega)
  rcases in_or (T 2) a0 with ⟨p, hp, rfl⟩ | hx
  · refine ob_rd (f1 := f_X11_wrong (n32 p) a1) (f2 := f_X12_wrong_ (n32 p) a1) hR (if a1 = 0 then n32 (byA T p) else if a1 = 1 then n32 (toA T p) else if a1 = 2 then n32 (szA T p) else if a1 = 3 then S (14 + p) else if a1 = 4 then S (22 + p) else if a1 = 5 then S (30 + p) else if a1 = 6 then n32 (barA T p) else -1) ?_ ?_
    · unfold f_X11_wrong f_X11_wrong_J112 f_X11_wrong_J129
      have hin : vp_in (n32 p) 8 := (n32_in (by omega)).mpr (by omega)
      simp only [h1.2.2.1, pe_g (n8 h1.1), pc_hasWrong h2.1.1 hT hp, pe_bo, pe_g hin, n32_cl (show p < 2147483648 by omega), (h2.1.1.2.2.1 p hp).1, (h2.1.1.2.2.1 p hp).2.1, (h2.1.1.2.2.1 p hp).2.2, hc.2.2.2 p (show p < 8 by omega), pc_isForgiven hc hs (show p < 8 by omega), pc_isSaid hc hs (show p < 8 by omega), pc_barOf h2.1.1 hT hp]
      rw [if_neg (by decide)]
      have j1 := i01 (hs.2.2.2.2.1 p (by omega)).1
      have j2 := i01 (hs.2.2.2.2.1 p (by omega)).2
      rw [← apply_ite some, ← apply_ite some, j1, j2]
      repeat' split
      all_goals rfl
    · unfold f_X12_wrong_ f_X12_wrong__J23
      rw [pe_let, pm_isWrong q1 hT hp, pe_bo, if_neg (by decide), pm_within, pe_bo, pm_barOf q1 hT hp, pe_bo]
      simp (disch := omega) only [n32_la, n32_in, n32_cl]
      have e14 := q2 (14 + p) (by omega)
      have e22 := q2 (22 + p) (by omega)
      have e30 := q2 (30 + p) (by omega)
      rw [Nat.zero_add] at e14 e22 e30
      rw [e14, e22, e30, pe_g (by omega), pe_g (by omega), pe_g (by omega)]
      by_cases x0 : a1 = 0
      · subst x0
        rw [wi_y (by decide), pm_by q1 (by omega), pe_bo]
        simp only [show ¬ ((1 : Int32) = 0) by decide, show ¬ ((0 : Int32) = 3) by decide, show ¬ ((0 : Int32) = 4) by decide, show ¬ ((0 : Int32) = 5) by decide, show ¬ ((0 : Int32) = 6) by decide, if_false, if_true, pw_some]
        exact ⟨by trivial, kp_thr⟩
      · by_cases x1 : a1 = 1
        · subst x1
          rw [wi_y (by decide), pm_to q1 (by omega), pe_bo]
          simp only [show ¬ ((1 : Int32) = 0) by decide, show ¬ ((1 : Int32) = 3) by decide, show ¬ ((1 : Int32) = 4) by decide, show ¬ ((1 : Int32) = 5) by decide, show ¬ ((1 : Int32) = 6) by decide, if_false, if_true, pw_some]
          exact ⟨by trivial, kp_thr⟩
        · by_cases x2 : a1 = 2
          · subst x2
            rw [wi_y (by decide), pm_sz q1 (by omega), pe_bo]
            simp only [show ¬ ((1 : Int32) = 0) by decide, show ¬ ((2 : Int32) = 0) by decide, show ¬ ((2 : Int32) = 1) by decide, show ¬ ((2 : Int32) = 3) by decide, show ¬ ((2 : Int32) = 4) by decide, show ¬ ((2 : Int32) = 5) by decide, show ¬ ((2 : Int32) = 6) by decide, if_false, if_true, pw_some]
            exact ⟨by trivial, kp_thr⟩
          · rw [if_neg x0, if_neg x1, if_neg x2]
            by_cases x3 : a1 = 3
            · subst x3
              rw [wi_y (by decide), if_neg (by decide), if_pos rfl, if_pos rfl, pw_some]
              exact ⟨by trivial, kp_thr⟩
            · by_cases x4 : a1 = 4
              · subst x4
                rw [wi_y (by decide), if_neg (by decide), if_neg (by decide), if_pos rfl, if_neg (by decide), if_pos rfl, pw_some]
                exact ⟨by trivial, kp_thr⟩
              · by_cases x5 : a1 = 5
                · subst x5
                  rw [wi_y (by decide), if_neg (by decide), if_neg (by decide), if_neg (by decide), if_pos rfl, if_neg (by decide), if_neg (by decide), if_pos rfl, pw_some]
                  exact ⟨by trivial, kp_thr⟩
                · by_cases x6 : a1 = 6
                  · subst x6
                    rw [wi_y (by decide), if_neg (by decide), if_neg (by decide), if_neg (by decide), if_neg (by decide), if_pos rfl, if_neg (by decide), if_neg (by decide), if_neg (by decide), if_pos rfl, pw_some]
                    exact ⟨by trivial, kp_thr⟩
                  · have hno : ¬ ((0 : Int32) ≤ a1 ∧ a1 ≤ 6) := w_no (hi := 6) (by omega) (fun k hk => by
                      have : k = 0 ∨ k = 1 ∨ k = 2 ∨ k = 3 ∨ k = 4 ∨ k = 5 ∨ k = 6 := by omega
                      rcases this with rfl | rfl | rfl | rfl | rfl | rfl | rfl
                      · exact x0
                      · exact x1
                      · exact x2
                      · exact x3
                      · exact x4
                      · exact x5
                      · exact x6)
                    rw [wi_n hno, if_pos rfl, if_neg x3, if_neg x4, if_neg x5, if_neg x6, pw_some]
                    exact ⟨by trivial, kp_thr⟩
  · refine ob_rd (f1 := f_X11_wrong a0 a1) (f2 := f_X12_wrong_ a0 a1) hR (-1) ?_ ?_
    · unfold f_X11_wrong
      rw [h1.2.2.1, pe_g (n8 h1.1), pc_hasWrong_n h2.1.1 hT hx, pe_bo, if_pos rfl]
    · unfold f_X12_wrong_ f_X12_wrong__J23
      rw [pe_let, pm_isWrong_n q1 hT hx, pe_bo, if_pos rfl, pw_some]
      exact ⟨by trivial, kp_thr⟩
theorem po_lamps : ob_lamps Rel := by
  rintro mem ⟨T, cd, c, y, hR⟩
  obtain ⟨h1, h2, h3, h4, h5, h6, ⟨S, hc, hm, hs⟩, h8, h9, h10⟩ := id hR
  have hT := h2.1.2.1
  have q1 : mTw (mi_wI mem 12 0 0 0) T := h3.1.1.mv kp_thr (fun p _ x => by omega)
  have q2 : mSt (mi_wI mem 12 0 0 0) 0 S := hm.mv kp_thr (fun p a b d => by omega)
  refine ob_rd (f1 := f_X11_lamps) (f2 := f_X12_lamps) hR (n32 (lsA S 0)) ?_ ?_
  · unfold f_X11_lamps
    rw [show (0 : Int32) = n32 0 from rfl, pc_burning hc, pe_bo]
  · unfold f_X12_lamps
    rw [pe_let, show f_X12_lampsOf 0 (mi_wI mem 12 0 0 0) = _ from pm_lampsOf (b := 0) q1 hT q2 hs (Nat.zero_le _), pe_bo, pw_some]
    exact ⟨by trivial, kp_thr⟩
theorem po_harm : ob_harm Rel := by
  rintro mem ⟨T, cd, c, y, hR⟩
  obtain ⟨h1, h2, h3, h4, h5, h6, ⟨S, hc, hm, hs⟩, h8, h9, h10⟩ := id hR
  have hT := h2.1.2.1
  refine ob_ev (f1 := f_X11_harm) (f2 := f_X12_harm) hR (n32 (hmN T (lsA S 0))) ?_ ?_
  · unfold f_X11_harm
    rw [h1.2.2.1, pe_g (n8 h1.1), show f_X5_burningBehind 0 0 mem = _ from pc_burning (n := 0) hc, pe_bo, pw_b]
    refine pw_mono (pc_harmBy h2 (lsA_lt S 0)) ?_
    rintro ⟨v, m1⟩ ⟨a1, a2, a3⟩
    rw [pw_some]
    exact ⟨a1, a2, a3.mo (fun k i p a => Or.inl a)⟩
  · intro m1 R1 hmm
    obtain ⟨g1, g2, g3, -⟩ := R1
    have q1 : mTw (mi_wI m1 12 0 0 0) T := g3.1.1.mv kp_thr (fun p _ x => by omega)
    have q2 : mSt (mi_wI m1 12 0 0 0) 0 S := (hmm S 0 hm).mv kp_thr (fun p a b d => by omega)
    unfold f_X12_harm
    rw [pe_let, show f_X12_lampsOf 0 (mi_wI m1 12 0 0 0) = _ from pm_lampsOf (b := 0) q1 hT q2 hs (Nat.zero_le _), pe_bo, pw_b]
    refine pw_mono (pm_harmBy q1 hT (lsA_lt S 0)) ?_
    rintro ⟨v, m2⟩ ⟨a1, a2⟩
    rw [pw_some]
    exact ⟨a1, kp_thr.tr (a2.mo (fun k i p a => Or.inr (Or.inl a)))⟩
theorem pm_isLit {m : mi_M} {T : Nat → Nat} {b i j : Nat} (h : mTw m T) (hT : tOK T) (hb : b < 64) (hi : i < 6) (hj : j < 6) : wo (f_X12_isLit (n32 b) (n32 i) (n32 j) m) (fun r => r.1 = (if cst T b i j < 1024 then 1 else 0) ∧ kp (fun k i _ => pmE k i) m r.2) := by
  have h60 := hT.1.1
  unfold f_X12_isLit f_X12_isLit_J24
  rw [pw_bo]
  refine pw_mono (pm_lays hT.2.2.2.2 h60 hb h) ?_
  rintro m1 ⟨a1, a2, -⟩
  simp (disch := omega) only [pw_g, pw_if, pw_some, n32_lm, n32_add, n32_in, n32_cl]
  have hd := (a2 (6 * i + j) (by omega)).1
  rw [show (6 * i + j) / 6 = i by omega, show (6 * i + j) % 6 = j by omega] at hd
  have hl := cst_le hT.2.2.2.2 b i j
  have hdl := dO_lt hl
  have hX : XX = 1048576 := rfl
  have key : dO (cst T b i j) = 0 ↔ cst T b i j < 1024 := by
    unfold dO
    split <;> omega
  rw [hd, show (0 : Int32) = n32 0 from rfl, n32_eq (by omega) (by omega), key]
  have a3 : kp (fun k i _ => pmE k i) m m1 := a1.mo (fun k i p a => by omega)
  exact ⟨by omega, fun e => ⟨by decide, by rw [if_pos e], a3⟩, fun e => ⟨by decide, by rw [if_neg e], a3⟩⟩
theorem pc_isLit {m : mi_M} {T : Nat → Nat} {cd : Nat → List Int32} {c b i j : Nat} (h : cT m c T cd) (hb : b < 64) (hi : i < 6) (hj : j < 6) : wo (f_X9_isLit c (n32 b) (n32 i) (n32 j) m) (fun r => r.1 = (if cst T b i j < 1024 then 1 else 0) ∧ cT r.2 c T cd ∧ kp (fun k i _ => pcE c k i) m r.2) := by
  unfold f_X9_isLit f_X9_isLit_J18
  rw [pw_b]
  refine pw_mono (pc_cost h hb hi hj) ?_
  rintro ⟨v, m1⟩ ⟨a1, a2, a3⟩
  simp only at a1 a2 a3
  subst a1
  have hl := cst_le h.1.2.1.2.2.2.2 b i j
  have hX : XX = 1048576 := rfl
  simp (disch := omega) only [pw_if, pw_g, pw_some, n32_Lle]
  exact ⟨fun e => ⟨by decide, by rw [if_neg (by omega)], a2, a3⟩, fun e => ⟨by decide, by rw [if_pos (by omega)], a2, a3⟩⟩
theorem pm_lampsBehind {m : mi_M} {T : Nat → Nat} {S : Nat → Int32} {n : Nat} (h : mTw m T) (hT : tOK T) (hS : mSt m 0 S) (hs : sOK T S) : f_X12_lampsBehind (n32 n) m = some (n32 (bs (fun p => decide (n32 n < S (2 + p))) (T 0))) := by
  have h60 := hT.1.1
  unfold f_X12_lampsBehind
  apply pw_eq
  rw [pw_bo]
  refine pl_for (fun k s => s = (n32 (bs (fun p => decide (n32 n < S (2 + p))) k), n32 k)) (T 0) (by omega) rfl ?_
  rintro k s hk rfl
  unfold f_X12_lampsBehind_B4 f_X12_lampsBehind_J32
  rw [pm_people h]
  simp (disch := omega) only [pw_if, pw_some, pw_g, pw_let, pw_bo, n32_le, lr_r, lr_l, n32_la, n32_in, n32_cl, n32_al]
  have e2 : k < T 0 → m.1 64 0 (2 + k) = S (2 + k) := fun hh => by
    have := hS (2 + k) (by omega)
    rwa [Nat.zero_add] at this
  refine ⟨fun hx => ?_, fun hx => ⟨by omega, fun hy => ⟨by omega, ?_⟩, fun hy => ⟨by omega, ?_⟩⟩⟩
  · have : k = T 0 := by omega
    subst this
    unfold f_X12_lampsBehind_K4
    rw [pw_some]
  · rw [e2 (by omega)] at hy
    rw [bs_no (by simpa using hy), Int32.or_zero]
  · rw [e2 (by omega)] at hy
    rw [bs_or (by omega) (by simpa using i32_nle.mp hy)]
theorem lsA_T {T : Nat → Nat} {S : Nat → Int32} {n : Nat} (hT : tOK T) (hs : sOK T S) (hn : n < 2147483648) : bs (fun p => decide (n32 n < S (2 + p))) (T 0) = lsA S n := by
  unfold lsA
  rw [bs_ext hT.1.1 (fun w h1 h2 => ?_)]
  rw [(hs.2.1 w h2 h1).1]
  simp
  exact n32_ge0 hn
/-- for how many nights it is so -/
def upto (P : Nat → Bool) : Nat → Nat → Nat
  | 0, k => k
  | n + 1, k => if P k then upto P n (k + 1) else k
theorem po_stays : ob_stays Rel := by
  rintro a0 a1 mem ⟨T, cd, c, y, hR⟩
  obtain ⟨h1, h2, h3, h4, h5, h6, ⟨S, hc, hm, hs⟩, h8, h9, h10⟩ := id hR
  have hT := h2.1.2.1
  have h60 := hT.1.1
  rcases two_or (T 0) a0 a1 with ⟨i, j, hi, hj, hij, rfl, rfl⟩ | hx
  · obtain ⟨R0, hR0⟩ : ∃ R0, R0 = upto (fun n => decide (cst T (lsA S n) i j < 1024)) 99 0 := ⟨_, rfl⟩
    refine ob_ev (f1 := f_X11_stays (n32 i) (n32 j)) (f2 := f_X12_stays (n32 i) (n32 j)) hR (n32 R0) ?_ ?_
    · unfold f_X11_stays f_X11_stays_J33 f_X2_nightsLit
      rw [h1.2.2.1, pe_g (n8 h1.1), pc_two h2.1.1 hT hi hj hij, pe_bo, if_neg (by decide), pe_g (n8 h1.1)]
      simp only [pw_b, pw_bo, pw_some]
      refine pl_for (fun k s => s.1 = n32 k ∧ upto (fun n => decide (cst T (lsA S n) i j < 1024)) (99 - k) k = R0 ∧ cT s.2 c T cd ∧ kp (fun k i _ => pcE c k i) mem s.2) 99 (by omega) ⟨rfl, hR0.symm, h2, kp.rf⟩ ?_
      rintro k ⟨l4, m1⟩ hk ⟨e1, e2, e3, e4⟩
      simp only at e1 e2 e3 e4
      subst e1
      have hc1 : cSt m1 0 S := hc.mv e4 (fun k j p a b d => by omega)
      unfold f_X2_nightsLit_B3
      simp (disch := omega) only [pc_burning hc1, pw_if, pw_some, pw_b, pw_bo, n32_Lle, lr_r]
      refine ⟨fun hz => ?_, fun hz => ?_⟩
      · have : k = 99 := by omega
        subst this
        unfold f_X2_nightsLit_K3
        simp only [pw_some]
        exact ⟨by rw [← e2]; rfl, e3, e4.mo (fun k i p a => Or.inl a)⟩
      · refine pw_mono (pc_isLit e3 (lsA_lt S k) (by omega) (by omega)) ?_
        rintro ⟨v, m2⟩ ⟨b1, b2, b3⟩
        simp only at b1 b2 b3
        rw [show 99 - k = (99 - (k + 1)) + 1 by omega] at e2
        unfold upto at e2
        by_cases hl : cst T (lsA S k) i j < 1024
        · rw [if_pos hl] at b1
          subst b1
          rw [if_pos (by simpa using hl)] at e2
          refine ⟨fun x => absurd (show (1 : Int32) = 0 from x) (by decide), fun _ => ?_⟩
          rw [lr_l]
          exact ⟨by omega, by rw [n32_al], e2, b2, e4.tr b3⟩
        · rw [if_neg hl] at b1
          subst b1
          rw [if_neg (by simpa using hl)] at e2
          refine ⟨fun _ => ?_, fun x => absurd (by trivial) x⟩
          unfold f_X2_nightsLit_K3
          simp only [pw_some]
          exact ⟨by rw [← e2], b2, (e4.tr b3).mo (fun k i p a => Or.inl a)⟩
    · intro m1 R1 hmm
      obtain ⟨g1, g2, g3, -⟩ := R1
      have q1 : mTw (mi_wI m1 12 0 0 0) T := g3.1.1.mv kp_thr (fun p _ x => by omega)
      have q2 : mSt (mi_wI m1 12 0 0 0) 0 S := (hmm S 0 hm).mv kp_thr (fun p a b d => by omega)
      unfold f_X12_stays
      rw [pe_let, pm_two q1 hT hi hj hij, pe_bo, if_neg (by decide), pw_bo]
      refine pl_for (fun k s => s.1 = n32 k ∧ upto (fun n => decide (cst T (lsA S n) i j < 1024)) (99 - k) k = R0 ∧ kp (fun k i _ => pmE k i) (mi_wI m1 12 0 0 0) s.2) 99 (by omega) ⟨rfl, hR0.symm, kp.rf⟩ ?_
      rintro k ⟨l4, m2⟩ hk ⟨e1, e2, e4⟩
      simp only at e1 e2 e4
      subst e1
      have q3 : mTw m2 T := q1.mv e4 (fun p _ x => by omega)
      have q4 : mSt m2 0 S := q2.fr e4
      unfold f_X12_stays_B18
      simp (disch := omega) only [pm_lampsBehind q3 hT q4 hs, lsA_T hT hs (show k < 2147483648 by omega), pw_if, pw_some, pw_b, pw_bo, n32_Lle, lr_r]
      refine ⟨fun hz => ?_, fun hz => ?_⟩
      · have : k = 99 := by omega
        subst this
        unfold f_X12_stays_K18
        simp only [pw_some]
        exact ⟨by rw [← e2]; rfl, kp_thr.tr (e4.mo (fun k i p a => Or.inr (Or.inl a)))⟩
      · refine pw_mono (pm_isLit q3 hT (lsA_lt S k) (show i < 6 by omega) (show j < 6 by omega)) ?_
        rintro ⟨v, m3⟩ ⟨b1, b3⟩
        simp only at b1 b3
        rw [show 99 - k = (99 - (k + 1)) + 1 by omega] at e2
        unfold upto at e2
        by_cases hl : cst T (lsA S k) i j < 1024
        · rw [if_pos hl] at b1
          subst b1
          rw [if_pos (by simpa using hl)] at e2
          refine ⟨fun x => absurd (show (1 : Int32) = 0 from x) (by decide), fun _ => ?_⟩
          rw [lr_l]
          exact ⟨by omega, by rw [n32_al], e2, e4.tr b3⟩
        · rw [if_neg hl] at b1
          subst b1
          rw [if_neg (by simpa using hl)] at e2
          refine ⟨fun _ => ?_, fun x => absurd (by trivial) x⟩
          unfold f_X12_stays_K18
          simp only [pw_some]
          exact ⟨by rw [← e2], kp_thr.tr ((e4.tr b3).mo (fun k i p a => Or.inr (Or.inl a)))⟩
  · refine ob_ev (f1 := f_X11_stays a0 a1) (f2 := f_X12_stays a0 a1) hR (-1) ?_ ?_
    · unfold f_X11_stays f_X11_stays_J33
      rw [h1.2.2.1, pe_g (n8 h1.1), pc_two_n h2.1.1 hT hx, pe_bo, if_pos rfl, pw_some]
      exact ⟨rfl, h2, kp.rf⟩
    · intro m1 R1 hmm
      obtain ⟨g1, g2, g3, -⟩ := R1
      have q1 : mTw (mi_wI m1 12 0 0 0) T := g3.1.1.mv kp_thr (fun p _ x => by omega)
      unfold f_X12_stays
      rw [pe_let, pm_two_n q1 hT hx, pe_bo, if_pos rfl, pw_some]
      exact ⟨by trivial, kp_thr⟩
