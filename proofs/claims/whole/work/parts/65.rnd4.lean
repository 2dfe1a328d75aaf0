/-! ===== round: the developers' table of sets ===== -/
def dpC (m : mi_M) (D : Nat → Nat → Nat) : Prop := ∀ s, s < 64 → ∀ a, a < 6 → m.1 25 0 (s * 6 + a) = n32 (D s a)
def dpA (P : Nat) (rp : Nat → Nat) (st : Nat → Nat → Nat) (mo s0 p : Nat) (D : Nat → Nat → Nat) : Prop := ∀ s, s < 64 → ∀ a, a < 6 → D s a = XX ∨ (a < P ∧ D s a ≤ mo ∧ Rf P rp st mo (pcN s) s0 p 0 s a (D s a))
def rlx (P : Nat) (rp : Nat → Nat) (st : Nat → Nat → Nat) (mo : Nat) (D : Nat → Nat → Nat) (s a : Nat) : Prop := ∀ x, D s a < XX → okX P rp st mo s a (D s a) x → D (stS s x) x ≤ D s a + st a x
def rpC (m : mi_M) (rp : Nat → Nat) : Prop := ∀ x, x < 6 → m.1 24 0 x = n32 (rp x)
abbrev k25 (c k i : Nat) : Prop := pcE c k i ∨ k = 25 ∧ i = 0
theorem rpC.mv {m m' : mi_M} {rp : Nat → Nat} {P : Nat → Nat → Nat → Prop} (h : rpC m rp) (hk : kp P m m') (hp : ∀ p, ¬ P 24 0 p) : rpC m' rp := fun x hx => by rw [hk.1 24 0 x (hp x)]; exact h x hx
theorem dpC.mv {m m' : mi_M} {D : Nat → Nat → Nat} {P : Nat → Nat → Nat → Prop} (h : dpC m D) (hk : kp P m m') (hp : ∀ p, ¬ P 25 0 p) : dpC m' D := fun s hs a ha => by rw [hk.1 25 0 _ (hp _)]; exact h s hs a ha
theorem pc_walkOn {c s a mo s0 p : Nat} {m : mi_M} {T : Nat → Nat} {cd : Nat → List Int32} {rp : Nat → Nat} {D : Nat → Nat → Nat} (h : cT m c T cd) (hr : rpC m rp) (hr8 : ∀ x, x < 6 → rp x ≤ 8) (hmo : mo ≤ 200) (hs : s < 64) (ha : a < T 0) (hD : dpC m D) (hA : dpA (T 0) rp (sT T) mo s0 p D) (hx : D s a < XX) :
    wo (f_X2_walkOn c (n32 s) (n32 a) (n32 mo) m) (fun m' => cT m' c T cd ∧ kp (fun k i p => k25 c k i) m m' ∧ ∃ D', dpC m' D' ∧ dpA (T 0) rp (sT T) mo s0 p D' ∧ (∀ s', s' ≤ s → ∀ a', D' s' a' = D s' a') ∧ (∀ s' a', D' s' a' ≤ D s' a') ∧ ∀ x, okX (T 0) rp (sT T) mo s a (D s a) x → D' (stS s x) x ≤ D s a + sT T a x) := by
  have hT := h.1.2.1
  have h6 := hT.1.1
  have hX : XX = 1048576 := rfl
  have da := (hA s hs a (by omega)).resolve_left (by omega)
  unfold f_X2_walkOn
  rw [pw_bo]
  refine pl_for (fun k z => z.1 = n32 k ∧ cT z.2 c T cd ∧ kp (fun k i p => k25 c k i) m z.2 ∧ ∃ D', dpC z.2 D' ∧ dpA (T 0) rp (sT T) mo s0 p D' ∧ (∀ s', s' ≤ s → ∀ a', D' s' a' = D s' a') ∧ (∀ s' a', D' s' a' ≤ D s' a') ∧ ∀ x, x < k → okX (T 0) rp (sT T) mo s a (D s a) x → D' (stS s x) x ≤ D s a + sT T a x) (T 0) (by omega) ⟨rfl, h, kp.rf, D, hD, hA, fun _ _ _ => rfl, fun _ _ => Nat.le_refl _, fun x hx => absurd hx (by omega)⟩ ?_
  rintro k ⟨l, m1⟩ hk ⟨e1, c1, k1, D1, d1, d2, d3, d4, d5⟩
  simp only at e1 c1 k1 d1
  subst e1
  have r1 := hr.mv k1 (fun p x => by omega)
  unfold f_X2_walkOn_B3
  dsimp only
  rw [show m1.1 8 c 0 = n32 (T 0) from c1.1.1.1.1]
  simp (disch := omega) only [pw_if, pw_some, n32_le, lr_r, pw_g, pw_bo, n32_in, n32_cl, pc_holds]
  refine ⟨fun hz => ?_, fun hz => ⟨by omega, ?_⟩⟩
  · have : k = T 0 := by omega
    subst this
    unfold f_X2_walkOn_K3
    rw [pw_some]
    exact ⟨c1, k1, D1, d1, d2, d3, d4, fun x ok => d5 x ok.1 ok⟩
  · have hk : k < T 0 := by omega
    have rk := hr8 k (by omega)
    have skip : ∀ m2, cT m2 c T cd → kp (fun k i _ => pcE c k i) m1 m2 → ¬ okX (T 0) rp (sT T) mo s a (D s a) k → wo (f_X2_walkOn_J115 (n32 k) m2) (lr (fun z => k < T 0 ∧ z.1 = n32 (k + 1) ∧ cT z.2 c T cd ∧ kp (fun k i p => k25 c k i) m z.2 ∧ ∃ D', dpC z.2 D' ∧ dpA (T 0) rp (sT T) mo s0 p D' ∧ (∀ s', s' ≤ s → ∀ a', D' s' a' = D s' a') ∧ (∀ s' a', D' s' a' ≤ D s' a') ∧ ∀ x, x < k + 1 → okX (T 0) rp (sT T) mo s a (D s a) x → D' (stS s x) x ≤ D s a + sT T a x) (fun e => wo (f_X2_walkOn_K3 e) (fun m' => cT m' c T cd ∧ kp (fun k i p => k25 c k i) m m' ∧ ∃ D', dpC m' D' ∧ dpA (T 0) rp (sT T) mo s0 p D' ∧ (∀ s', s' ≤ s → ∀ a', D' s' a' = D s' a') ∧ (∀ s' a', D' s' a' ≤ D s' a') ∧ ∀ x, okX (T 0) rp (sT T) mo s a (D s a) x → D' (stS s x) x ≤ D s a + sT T a x))) := by
      intro m2 c2 k2 no
      unfold f_X2_walkOn_J115
      rw [pw_some, lr_l, n32_al]
      refine ⟨hk, rfl, c2, k1.tr (k2.mo (fun k i p a => Or.inl a)), D1, d1.mv k2 (fun p x => by omega), d2, d3, d4, fun x hx ok => ?_⟩
      by_cases e : x = k
      · subst e; exact absurd ok no
      · exact d5 x (by omega) ok
    rw [r1 k (by omega)]
    simp (disch := omega) only [n32_eqL]
    refine ⟨fun x => skip m1 c1 kp.rf (fun z => by have := z.2.1; omega), fun x => ?_⟩
    cases hb : s.testBit k with
    | true => exact ⟨fun z => absurd z (by decide), fun _ => skip m1 c1 kp.rf (fun z => by have := z.2.2.1; rw [hb] at this; cases this)⟩
    | false =>
      refine ⟨fun _ => ?_, fun z => absurd rfl z⟩
      unfold f_X9_isThere f_X9_isThere_J17
      simp only [pw_b]
      refine pw_mono (pc_cost c1 (b := 63) (by omega) (show a < 6 by omega) (show k < 6 by omega)) ?_
      rintro ⟨v, m2⟩ ⟨b1, b2, b3⟩
      simp only at b1 b2 b3
      subst b1
      have fl6 := fl63 hT.2.2.2.2 (k := 6) (i := a) (j := k) (by omega) (by omega) (by omega)
      have fl6 : cst T 63 a k ≤ 150 ∨ cst T 63 a k = XX := fl6
      simp (disch := omega) only [pw_if, pw_g, pw_some, n32_Lle]
      refine ⟨fun y => ⟨by decide, fun _ => skip m2 b2 b3 (fun z => ?_), fun z => absurd (by trivial) z⟩, fun y => ⟨by decide, fun z => absurd z (by decide), fun _ => ?_⟩⟩
      · have z2 : D s a + gO (cst T 63 a k) ≤ mo := z.2.2.2
        have : gO (cst T 63 a k) = 1000000 := if_neg (by omega)
        omega
      · have hst : gO (cst T 63 a k) = cst T 63 a k := if_pos (by omega)
        unfold f_X9_minutesOf
        simp only [pw_b]
        rw [n32_ml, n32_add, n32_in (by omega)]
        refine ⟨by omega, pw_mono (pc_cost b2 (b := 63) (by omega) (show a < 6 by omega) (show k < 6 by omega)) ?_⟩
        rintro ⟨v, m3⟩ ⟨g1, g2, g3⟩
        simp only at g1 g2 g3
        subst g1
        have dm2 := d1.mv b3 (fun p x => by omega)
        have dm3 := dm2.mv g3 (fun p x => by omega)
        obtain ⟨q1, q2, -, -⟩ := s64 s hs k (by omega)
        have q2 := q2 hb
        rw [n32_cl (by omega), dm2 s hs a (by omega), d3 s (Nat.le_refl _) a, (stS_n s (by omega) k (by omega)).1]
        have dc := (d2 (stS s k) q1 k (by omega))
        have dle : D1 (stS s k) k ≤ XX := by omega
        simp (disch := omega) only [pw_some, n32_dl, n32_ml, n32_sub, n32_add, pw_let, pw_if, n32_lt, n32_in, n32_cl, pw_g]
        rw [show cst T 63 a k - cst T 63 a k / 1024 * 1024 = cst T 63 a k by omega, dm3 _ q1 k (by omega)]
        simp (disch := omega) only [n32_lt]
        refine ⟨fun z => skip m3 g2 (b3.tr g3) (fun z2 => ?_), fun z => ⟨by omega, by omega, ?_⟩⟩
        · have z3 : D s a + gO (cst T 63 a k) ≤ mo := z2.2.2.2
          omega
        · have ok : okX (T 0) rp (sT T) mo s a (D s a) k := ⟨hk, by omega, hb, by show D s a + gO (cst T 63 a k) ≤ mo; omega⟩
          have pc1 := (stS_n s (by omega) k (by omega)).2 hb
          have hon := Rf_on ok da.2.2
          rw [← pc1, show sT T a k = cst T 63 a k from hst] at hon
          have em : (if D s a + cst T 63 a k < D1 (stS s k) k then n32 (D s a + cst T 63 a k) else n32 (D1 (stS s k) k)) = n32 (min (D s a + cst T 63 a k) (D1 (stS s k) k)) := by
            split <;> congr 1 <;> omega
          rw [em]
          unfold f_X2_walkOn_J115
          rw [pw_some, lr_l, n32_al]
          have kw : kp (fun k i p => k = 25 ∧ i = 0) m3 (mi_wI m3 25 0 (stS s k * 6 + k) (n32 (min (D s a + cst T 63 a k) (D1 (stS s k) k)))) := kp.rf.wI ⟨rfl, rfl⟩
          refine ⟨hk, rfl, g2.mv kw (fun k i p x y => by unfold cTk at y; omega), (k1.tr ((b3.tr g3).mo (fun k i p a => Or.inl a))).tr (kw.mo (fun k i p a => Or.inr a)), fun s' a' => if s' = stS s k ∧ a' = k then min (D s a + cst T 63 a k) (D1 (stS s k) k) else D1 s' a', fun s' hs' a' ha' => ?_, fun s' hs' a' ha' => ?_, fun s' hs' a' => ?_, fun s' a' => ?_, fun y hy ok2 => ?_⟩
          · dsimp only
            by_cases e : s' = stS s k ∧ a' = k
            · rw [if_pos e, e.1, e.2, rI_eq]
            · rw [if_neg e, rI_ne (by omega)]; exact dm3 s' hs' a' ha'
          · dsimp only
            by_cases e : s' = stS s k ∧ a' = k
            · rw [if_pos e, e.1, e.2]
              by_cases e2 : D s a + cst T 63 a k ≤ D1 (stS s k) k
              · rw [Nat.min_eq_left e2]
                exact Or.inr ⟨hk, by omega, hon⟩
              · rw [Nat.min_eq_right (by omega)]
                exact dc
            · rw [if_neg e]; exact d2 s' hs' a' ha'
          · dsimp only
            rw [if_neg (by omega)]; exact d3 s' hs' a'
          · dsimp only
            have := d4 s' a'
            by_cases e : s' = stS s k ∧ a' = k
            · rw [if_pos e]
              rw [e.1, e.2] at this ⊢
              omega
            · rw [if_neg e]; exact this
          · dsimp only
            by_cases e : y = k
            · rw [e, if_pos ⟨rfl, rfl⟩, show sT T a k = cst T 63 a k from hst]
              exact Nat.min_le_left _ _
            · rw [if_neg (fun z => e z.2)]; exact d5 y (by omega) ok2
theorem dp_low {P : Nat} {rp : Nat → Nat} {st : Nat → Nat → Nat} {mo : Nat} {D : Nat → Nat → Nat} (hP : P ≤ 6) (hmo : mo ≤ 200) (hR : ∀ s, s < 64 → ∀ a, a < P → rlx P rp st mo D s a) : ∀ n s a w s' a' w', s < 64 → a < P → D s a ≤ w → w ≤ mo → Rf P rp st mo n s a w s' a' w' → s' < 64 ∧ a' < P ∧ D s' a' ≤ w'
  | 0, s, a, w, s', a', w', h1, h2, h3, h4, ⟨e1, e2, e3⟩ => by subst e1 e2 e3; exact ⟨h1, h2, h3⟩
  | n + 1, s, a, w, s', a', w', h1, h2, h3, h4, h => by
    have hX : XX = 1048576 := rfl
    rcases h with ⟨e1, e2, e3⟩ | ⟨x, ok, h⟩
    · subst e1 e2 e3; exact ⟨h1, h2, h3⟩
    · obtain ⟨o1, o2, o3, o4⟩ := ok
      have := hR s h1 a h2 x (by omega) ⟨o1, o2, o3, by omega⟩
      exact dp_low hP hmo hR n (stS s x) x (w + st a x) s' a' w' (s64 s h1 x (by omega)).1 o1 (by omega) o4 h
