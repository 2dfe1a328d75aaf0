/-! ===== round: all rounds that there are ===== -/
def gO (x : Nat) : Nat := if x < XX then x else 1000000
theorem lan63 {T : Nat → Nat} (hT : lanOK T) : flW 0 (lanQ T 63) := by
  intro i j
  unfold lanQ
  by_cases hij : i < 6 ∧ j < 6
  · rw [if_pos hij]
    have := (hT i j hij.1 hij.2).1
    have hb : ((63 : Nat).testBit i || (63 : Nat).testBit j) = true := by
      have : ∀ i, i < 6 → (63 : Nat).testBit i = true := by decide
      rw [this i hij.1]; rfl
    unfold lanW
    by_cases h0 : T (21 + 6 * i + j) = 0
    · rw [if_pos h0]; exact ⟨Nat.le_refl _, fun x => absurd x (Nat.lt_irrefl _)⟩
    · rw [if_neg h0, if_pos hb]
      exact ⟨by show _ ≤ 1048576; omega, fun _ => ⟨0, _, by omega, by omega, this⟩⟩
  · rw [if_neg hij]; exact ⟨Nat.le_refl _, fun x => absurd x (Nat.lt_irrefl _)⟩
theorem fl63 {T : Nat → Nat} (hT : lanOK T) {k i j : Nat} (hk : k ≤ 6) (hi : i < 6) (hj : j < 6) : fl (lanQ T 63) k i j ≤ 150 ∨ fl (lanQ T 63) k i j = XX := by
  have hX : XX = 1048576 := rfl
  have hle := fl_le (fun i j => ((lanQ_ok hT 63) i j).1) k i j
  by_cases e : fl (lanQ T 63) k i j < XX
  · obtain ⟨d, f, a1, a2, a3⟩ := fl_df (lan63 hT) hk hi hj e
    exact Or.inl (by omega)
  · exact Or.inr (by omega)
def stM (m : mi_M) (g : Nat → Nat → Nat) : Prop := ∀ q, q < 36 → m.1 72 0 q = n32 (gO (g (q / 6) (q % 6)))
theorem gO_min {a b c : Nat} (ha : a ≤ 150 ∨ a = XX) (hb : b ≤ 150 ∨ b = XX) (hc : c ≤ 150 ∨ c = XX) (hm : min a (b + c) ≤ 150 ∨ min a (b + c) = XX) : gO (min a (b + c)) = if gO a ≤ gO b + gO c then gO a else gO b + gO c := by
  have hX : XX = 1048576 := rfl
  unfold gO
  rcases ha with ha | ha <;> rcases hb with hb | hb <;> rcases hc with hc | hc <;> rcases hm with hm | hm <;> (try omega)
  all_goals (repeat' split) <;> omega
theorem pm_steps {m : mi_M} {T : Nat → Nat} (hT : lanOK T) (hP : T 0 ≤ 6) (h : mTw m T) : wo (f_X12_laysSteps m) (fun m' => kp (fun k i _ => k = 72 ∧ i = 0) m m' ∧ stM m' (cst T 63)) := by
  have hX : XX = 1048576 := rfl
  unfold f_X12_laysSteps
  rw [pw_bo]
  refine pl_for (fun k s => s.1 = n32 k ∧ kp (fun k i _ => k = 72 ∧ i = 0) m s.2 ∧ ∀ q, q < k → s.2.1 72 0 q = n32 (gO (fl (lanQ T 63) 0 (q / 6) (q % 6)))) 36 (by omega) ⟨rfl, kp.rf, fun _ h => absurd h (by omega)⟩ ?_
  rintro k ⟨l, m1⟩ hk ⟨h1, hkp, hc⟩
  simp only at h1 hkp hc
  subst h1
  have hm1 : mTw m1 T := h.mv hkp (by intro p _ x; omega)
  unfold f_X12_laysSteps_B2
  simp (disch := omega) only [pw_if, pw_some, n32_Lle, lr_r, pw_g, pw_let, n32_la, n32_in, n32_cl, n32_dl, n32_ml, n32_sub, n32_eq]
  refine ⟨fun hx => ?_, fun hx => ⟨by omega, ?_⟩⟩
  · have hk6 : k = 36 := by omega
    subst hk6
    clear hx
    unfold f_X12_laysSteps_K2
    rw [pw_bo]
    replace hc : stM m1 (fl (lanQ T 63) 0) := hc
    refine pl_for (fun k s => s.1 = n32 k ∧ kp (fun k i _ => k = 72 ∧ i = 0) m s.2 ∧ stM s.2 (fl (lanQ T 63) k)) (T 0) (by omega) ⟨rfl, hkp, hc⟩ ?_
    clear hkp hc hm1 m1
    rintro y ⟨l, m1⟩ hy ⟨h1, hkp, hc⟩
    simp only at h1 hkp hc
    subst h1
    have hm1 : mTw m1 T := h.mv hkp (by intro p _ x; omega)
    unfold f_X12_laysSteps_B58
    simp (disch := omega) only [pm_people hm1, pw_bo, pw_some, pw_if, n32_le, lr_r]
    refine ⟨fun hx => ?_, fun hx => ?_⟩
    · have hyP : y = T 0 := by omega
      subst hyP
      have hend : ∀ i j, fl (lanQ T 63) (T 0) i j = cst T 63 i j := by
        intro i j
        have hz := fl_end (W := lanQ T 63) (fun i j => ((lanQ_ok hT 63) i j).1) (P := T 0) (by
          intro i j _ hh
          unfold lanQ
          by_cases e : i < 6 ∧ j < 6
          · rw [if_pos e]
            unfold lanW
            rw [if_pos ((hT i j e.1 e.2).2 hh)]
          · rw [if_neg e]) (6 - T 0) i j
        rw [show T 0 + (6 - T 0) = 6 by omega] at hz
        exact hz.symm
      unfold f_X12_laysSteps_K58
      rw [pw_some]
      exact ⟨hkp, fun q hq => by rw [← hend]; exact hc q hq⟩
    · have hy6 : y < 6 := by omega
      refine pl_for (fun k s => s.1 = n32 k ∧ kp (fun k i _ => k = 72 ∧ i = 0) m s.2 ∧ (∀ q, q < 36 → s.2.1 72 0 q = n32 (gO (fl (lanQ T 63) (if q < k then y + 1 else y) (q / 6) (q % 6))))) 36 (by omega) ⟨rfl, hkp, fun q hq => by rw [if_neg (by omega)]; exact hc q hq⟩ ?_
      clear hkp hc hm1 m1
      rintro k ⟨l, m1⟩ hk ⟨h1, hkp, hc⟩
      simp only at h1 hkp hc
      subst h1
      unfold f_X12_laysSteps_B68
      simp (disch := omega) only [pw_if, pw_some, n32_Lle, lr_r, pw_g, pw_let, n32_dl, n32_ml, n32_lm, n32_sub, n32_add, n32_in, n32_cl]
      refine ⟨fun hx => ?_, fun hx => ?_⟩
      · have : k = 36 := by omega
        subst this
        unfold f_X12_laysSteps_K68
        rw [pw_some, lr_l, n32_al]
        refine ⟨by omega, rfl, hkp, fun q hq => ?_⟩
        have := hc q hq
        rw [if_pos hq] at this
        exact this
      · have hk : k < 36 := by omega
        have e1 := hc (6 * (k / 6) + y) (by omega)
        have e2 := hc (6 * y + (k - k / 6 * 6)) (by omega)
        have e3 := hc k hk
        have r1 : fl (lanQ T 63) (if 6 * (k / 6) + y < k then y + 1 else y) ((6 * (k / 6) + y) / 6) ((6 * (k / 6) + y) % 6) = fl (lanQ T 63) y (k / 6) y := by
          rw [show (6 * (k / 6) + y) / 6 = k / 6 by omega, show (6 * (k / 6) + y) % 6 = y by omega]
          split
          · exact fl_col _ _ _
          · rfl
        have r2 : fl (lanQ T 63) (if 6 * y + (k - k / 6 * 6) < k then y + 1 else y) ((6 * y + (k - k / 6 * 6)) / 6) ((6 * y + (k - k / 6 * 6)) % 6) = fl (lanQ T 63) y y (k % 6) := by
          rw [show (6 * y + (k - k / 6 * 6)) / 6 = y by omega, show (6 * y + (k - k / 6 * 6)) % 6 = k % 6 by omega]
          split
          · exact fl_row _ _ _
          · rfl
        rw [r1] at e1
        rw [r2] at e2
        rw [if_neg (Nat.lt_irrefl _)] at e3
        have b1 := fl63 hT (k := y) (i := k / 6) (j := y) (by omega) (by omega) hy6
        have b2 := fl63 hT (k := y) (i := y) (j := k % 6) (by omega) hy6 (by omega)
        have b3 := fl63 hT (k := y) (i := k / 6) (j := k % 6) (by omega) (by omega) (by omega)
        have b4 := fl63 hT (k := y + 1) (i := k / 6) (j := k % 6) (by omega) (by omega) (by omega)
        have gm := gO_min b3 b1 b2 b4
        have lm : ∀ x, x ≤ 150 ∨ x = XX → gO x ≤ 1000000 := by
          intro x hx
          unfold gO
          split <;> omega
        have g1 := lm _ b1
        have g2 := lm _ b2
        have g3 := lm _ b3
        rw [e1, e2, e3]
        have fin : ∀ v, v = n32 (gO (fl (lanQ T 63) (y + 1) (k / 6) (k % 6))) → wo (f_X12_laysSteps_J129 (n32 k) m1 v) (lr (fun s' => k < 36 ∧ s'.1 = n32 (k + 1) ∧ kp (fun k i _ => k = 72 ∧ i = 0) m s'.2 ∧ (∀ q, q < 36 → s'.2.1 72 0 q = n32 (gO (fl (lanQ T 63) (if q < k + 1 then y + 1 else y) (q / 6) (q % 6))))) (fun e => wo (f_X12_laysSteps_K68 (n32 y) e) (lr (fun s' => y < T 0 ∧ s'.1 = n32 (y + 1) ∧ kp (fun k i _ => k = 72 ∧ i = 0) m s'.2 ∧ stM s'.2 (fl (lanQ T 63) (y + 1))) (fun e => wo (f_X12_laysSteps_K58 e) (fun m' => kp (fun k i _ => k = 72 ∧ i = 0) m m' ∧ stM m' (cst T 63)))))) := by
          rintro v rfl
          unfold f_X12_laysSteps_J129
          simp (disch := omega) only [pw_g, pw_let, pw_some, lr_l, n32_in, n32_cl, n32_al]
          refine ⟨by omega, hk, by trivial, hkp.wI ⟨rfl, rfl⟩, fun q hq => ?_⟩
          by_cases e : q = k
          · subst e; rw [rI_eq, if_pos (by omega)]
          · rw [rI_ne (by omega), hc q hq]
            by_cases e2 : q < k
            · rw [if_pos e2, if_pos (by omega)]
            · rw [if_neg e2, if_neg (by omega)]
        have gm : gO (fl (lanQ T 63) (y + 1) (k / 6) (k % 6)) = _ := gm
        simp (disch := omega) only [n32_le, n32_add]
        refine ⟨by omega, by omega, by omega, fun x => ⟨by omega, fin _ ?_⟩, fun x => fin _ ?_⟩
        · rw [gm, if_pos x]
        · rw [gm, if_neg x]
  · have hk : k < 36 := by omega
    have fin : ∀ v, v = n32 (gO (fl (lanQ T 63) 0 (k / 6) (k % 6))) → wo (f_X12_laysSteps_J49 (n32 k) m1 v) (lr (fun s' => k < 36 ∧ s'.1 = n32 (k + 1) ∧ kp (fun k i _ => k = 72 ∧ i = 0) m s'.2 ∧ ∀ q, q < k + 1 → s'.2.1 72 0 q = n32 (gO (fl (lanQ T 63) 0 (q / 6) (q % 6)))) (fun e => wo (f_X12_laysSteps_K2 e) (fun m' => kp (fun k i _ => k = 72 ∧ i = 0) m m' ∧ stM m' (cst T 63)))) := by
      rintro v rfl
      unfold f_X12_laysSteps_J49
      simp (disch := omega) only [pw_g, pw_let, pw_some, lr_l, n32_in, n32_cl, n32_al]
      refine ⟨by omega, hk, by trivial, hkp.wI ⟨rfl, rfl⟩, fun q hq => ?_⟩
      by_cases e : q = k
      · subst e; rw [rI_eq]
      · rw [rI_ne (by omega), hc q (by omega)]
    have lan : m1.1 56 0 (21 + k) = n32 (T (21 + k)) := hm1 _ (by omega) (by omega)
    have l30 := (hT (k / 6) (k % 6) (by omega) (by omega)).1
    have ek : 21 + 6 * (k / 6) + k % 6 = 21 + k := by omega
    rw [ek] at l30
    rw [lan]
    simp (disch := omega) only [n32_eqL]
    have f0 : fl (lanQ T 63) 0 (k / 6) (k % 6) = if k / 6 = k % 6 then 0 else if T (21 + k) = 0 then XX else T (21 + k) := by
      show (if k / 6 = k % 6 then 0 else lanQ T 63 (k / 6) (k % 6)) = _
      unfold lanQ
      rw [if_pos (show k / 6 < 6 ∧ k % 6 < 6 by omega)]
      unfold lanW
      have hb : ((63 : Nat).testBit (k / 6) || (63 : Nat).testBit (k % 6)) = true := by
        have : ∀ i, i < 6 → (63 : Nat).testBit i = true := by decide
        rw [this _ (by omega)]; rfl
      rw [ek, if_pos hb]
    rw [f0] at fin
    rw [show k - k / 6 * 6 = k % 6 by omega]
    refine ⟨fun x => fin _ ?_, fun x => ⟨fun z => fin _ ?_, fun z => fin _ ?_⟩⟩
    · rw [if_pos x]; rfl
    · rw [if_neg x, if_pos z]; rfl
    · rw [if_neg x, if_neg z]
      unfold gO
      rw [if_pos (by omega)]
