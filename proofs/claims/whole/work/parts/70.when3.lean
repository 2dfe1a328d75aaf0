theorem sim_d {T : Nat → Nat} {cd : Nat → List Int32} {c h' : Nat} : ∀ {k h} {S : Nat → Int32}, sim T cd k S h c = some h' → ∀ i, i < k → c / 9 ^ i % 9 ≤ T 2
  | 0, _, _, _, i, hi => absurd hi (by omega)
  | k + 1, h, S, e, i, hi => by
    rw [sim_s] at e
    split at e
    · cases e
    · by_cases e2 : i = k
      · subst e2; omega
      · exact sim_d e i (by omega)
def rO (n N : Nat) (m : mi_M) : Option (Nat × Nat) → Prop
  | none => m.1 12 0 31 = -1
  | some b => m.1 12 0 31 = n32 b.1 ∧ b.1 ≤ 1800 ∧ ∀ i, i < N → m.1 71 0 i = dg n (b.2 / 9 ^ (N - 1 - i) % 9)
theorem rO.mv {n N : Nat} {m m' : mi_M} {o : Option (Nat × Nat)} {P : Nat → Nat → Nat → Prop} (h : rO n N m o) (hk : kp P m m') (h4 : ¬ P 12 0 31) (h15 : ∀ p, ¬ P 71 0 p) : rO n N m' o := by
  cases o with
  | none => show m'.1 12 0 31 = _; rw [hk.1 12 0 31 h4]; exact h
  | some b => exact ⟨by rw [hk.1 12 0 31 h4]; exact h.1, h.2.1, fun i hi => by rw [hk.1 71 0 i (h15 i)]; exact h.2.2 i hi⟩
abbrev kR (k i p : Nat) : Prop := pmE k i ∨ pmS 1323 k i p
abbrev kM (d k i p : Nat) : Prop := kR k i p ∨ (k = 70 ∧ i = 0 ∧ d ≤ p) ∨ (k = 71 ∧ i = 0) ∨ (k = 12 ∧ i = 0 ∧ p = 31)
theorem pm_run {N c : Nat} {T : Nat → Nat} {cd : Nat → List Int32} {S : Nat → Int32} {m : mi_M} (hN : N ≤ 3) (hm : mT m T cd) (hS : mSt m 1323 S) (hs : sOK T S) (h24 : m.1 12 0 24 = 0) (hp : ∀ i, i < N → m.1 70 0 i = dg (T 2) (c / 9 ^ (N - 1 - i) % 9) ∧ c / 9 ^ (N - 1 - i) % 9 ≤ T 2) : wo (mi_lp (f_X12_whens_B20 (n32 N)) mi_fu ((0 : Int32), (0 : Int32), m)) (fun e => (∃ m', e = .inl m' ∧ sim T cd N S 0 c = none ∧ kp (fun k i p => kR k i p) m m') ∨ ∃ h m', e = .inr (n32 h, m') ∧ h ≤ 1800 ∧ sim T cd N S 0 c = some h ∧ kp (fun k i p => kR k i p) m m') := by
  have hT := hm.1.2.1
  have h8 := hT.1.2.1
  refine pl_for (fun j z => ∃ h S1 m1, z = (n32 h, n32 j, m1) ∧ h ≤ 600 * j ∧ mSt m1 1323 S1 ∧ sOK T S1 ∧ kp (fun k i p => kR k i p) m m1 ∧ sim T cd (N - j) S1 h c = sim T cd N S 0 c) N (by omega) ⟨0, S, m, rfl, by omega, hS, hs, kp.rf, rfl⟩ ?_
  rintro j z hj ⟨h, S1, m1, rfl, a1, a2, a3, a4, a5⟩
  have hm1 : mT m1 T cd := hm.mv a4 (fun k i p x y e => by omega)
  unfold f_X12_whens_B20
  dsimp only
  by_cases hjN : j = N
  · subst hjN
    rw [if_pos (by rw [n32_le (by omega) (by omega)]; omega), pw_some, lr_r]
    rw [Nat.sub_self] at a5
    exact Or.inr ⟨h, m1, rfl, by omega, a5.symm, a4⟩
  · have hj : j < N := by omega
    have hp := hp j hj
    have c70 : m1.1 70 0 j = dg (T 2) (c / 9 ^ (N - 1 - j) % 9) := by rw [a4.1 70 0 j (by omega)]; exact hp.1
    have hx := hp.2
    obtain ⟨e, he⟩ : ∃ e, e = N - 1 - j := ⟨_, rfl⟩
    rw [← he] at c70 hx
    rw [show N - j = e + 1 by omega, sim_s] at a5
    generalize c / 9 ^ e % 9 = x at c70 hx a5
    have pass : ∀ m2, mT m2 T cd → mSt m2 1323 (wQ T cd S1 x) → kp (fun k i p => kR k i p) m m2 → ¬ (T 2 < x ∨ (x < T 2 ∧ S1 (22 + x) ≠ 0)) → wo (f_X12_whens_J79 (n32 h) (n32 j) m2) (lr (fun z => j < N ∧ ∃ h S1 m1, z = (n32 h, n32 (j + 1), m1) ∧ h ≤ 600 * (j + 1) ∧ mSt m1 1323 S1 ∧ sOK T S1 ∧ kp (fun k i p => kR k i p) m m1 ∧ sim T cd (N - (j + 1)) S1 h c = sim T cd N S 0 c) (fun e => (∃ m', e = .inl m' ∧ sim T cd N S 0 c = none ∧ kp (fun k i p => kR k i p) m m') ∨ ∃ h m', e = .inr (n32 h, m') ∧ h ≤ 1800 ∧ sim T cd N S 0 c = some h ∧ kp (fun k i p => kR k i p) m m')) := by
      intro m2 m2T s2 k2 ok
      unfold f_X12_whens_J79
      rw [pw_b]
      refine pw_mono (show wo (f_X12_passes 1323 m2) _ from pm_passes (b := 1323) m2T s2 (wQ_ok hT a3) (by omega)) ?_
      rintro ⟨v, m3⟩ ⟨b1, b2, b3⟩
      simp only at b1 b2 b3
      subst b1
      rw [pw_let, pw_some, lr_l, n32_add, n32_al]
      have hm := hmN_le hT (lsA (wQ T cd S1 x) 0)
      refine ⟨hj, h + hmN T (lsA (wQ T cd S1 x) 0), wS T cd S1 x, m3, rfl, by omega, b2, aSleep_ok hT (wQ_ok hT a3), k2.tr b3, ?_⟩
      rw [if_neg ok] at a5
      rw [show N - (j + 1) = e by omega]
      exact a5
    rw [if_neg (by rw [n32_le (by omega) (by omega)]; omega), pw_g, n32_in (by omega), n32_cl (by omega), c70]
    refine ⟨by omega, ?_⟩
    unfold f_X12_whens_J54
    rw [n32_cl (by omega), c70]
    by_cases hn : x < T 2
    · rw [show dg (T 2) x = n32 x from if_pos hn]
      rw [if_neg (n32_nn (by omega)).mp, if_neg (n32_nn (by omega)).mp, pw_g, n32_in (by omega), show f_X12_isOpen 1323 (n32 x) m1 = _ from pm_isOpen (b := 1323) hm1.1.1 hT a2 (by omega) hn, pw_bo, pw_some]
      refine ⟨by omega, ?_⟩
      by_cases h0 : S1 (22 + x) = 0
      · rw [if_pos h0, if_neg (by decide), pw_g, pw_g, pw_b]
        refine ⟨by omega, by omega, ?_⟩
        refine pw_mono (show wo (f_X12_asks 1323 (n32 x) m1) _ from pm_asks (b := 1323) hm1 a2 (by omega) hn h0) ?_
        rintro ⟨v, m2⟩ ⟨b1, b2, b3⟩
        simp only at b1 b2 b3
        rw [a4.1 12 0 24 (by omega), h24] at b2
        refine pass m2 (hm1.mv b3 (fun k i p x y e => by omega)) ?_ (a4.tr b3) (fun z => z.elim (by omega) (fun z => z.2 h0))
        unfold wQ
        rw [if_pos hn]
        exact b2
      · rw [if_neg h0, if_pos rfl, pw_some, lr_r]
        rw [if_pos (Or.inr ⟨hn, h0⟩)] at a5
        exact Or.inl ⟨m1, rfl, a5.symm, a4⟩
    · rw [show dg (T 2) x = -1 from if_neg hn, if_pos (by decide), if_pos (by decide), pw_g, n32_in (by omega)]
      refine ⟨by omega, pass m1 hm1 ?_ a4 (fun z => by omega)⟩
      unfold wQ
      rw [if_neg hn]
      exact a2
theorem pm_whens {N : Nat} {T : Nat → Nat} {cd : Nat → List Int32} {S : Nat → Int32} (hN : N ≤ 3) (hs : sOK T S) : ∀ k d fu c o m, d + k = N → k < fu → mT m T cd → mSt m 0 S → m.1 12 0 24 = 0 → rO (T 2) N m o → (∀ i, i < d → m.1 70 0 i = dg (T 2) (c / 9 ^ (d - 1 - i) % 9) ∧ c / 9 ^ (d - 1 - i) % 9 ≤ T 2) → (∀ b, o = some b → b.2 < c * 9 ^ k) → wo (fg_X12_whens fu (n32 N) (n32 d) m) (fun m' => kp (fun k i p => kM d k i p) m m' ∧ ∃ o', rO (T 2) N m' o' ∧ wPost (fun h' c' => c' / 9 ^ k = c ∧ sim T cd N S 0 c' = some h') o o' ((c + 1) * 9 ^ k))
  | k, d, 0, _, _, _, _, hf, _, _, _, _, _, _ => absurd hf (by omega)
  | 0, d, fu + 1, c, o, m, hd, hf, hm, hS, h24, ho, hp, hb => by
    show wo (f_X12_whens_ (fg_X12_whens fu) (n32 N) (n32 d) m) _
    have : d = N := by omega
    subst this
    unfold f_X12_whens_
    rw [if_pos rfl, pw_bo]
    refine pw_mono (show wo (f_X12_copies 0 1323 38 m) _ from pm_copies (a := 0) (b := 1323) (n := 38) (by omega) (by omega) (by omega)) ?_
    rintro m1 ⟨k1, v1⟩
    have s1 : mSt m1 1323 S := fun q hq => by rw [v1 q hq]; exact hS q hq
    have m1T : mT m1 T cd := hm.mv k1 (fun k i p x y e => by omega)
    rw [pw_bo]
    refine pw_mono (pm_run (c := c) hN m1T s1 hs (by rw [k1.1 12 0 24 (by omega)]; exact h24) (fun i hi => by rw [k1.1 70 0 i (by omega)]; exact hp i hi)) ?_
    have k1' : kp (fun k i p => kR k i p) m m1 := k1.mo (fun k i p a => Or.inr ⟨a.1, a.2.1, a.2.2.1, a.2.2.2⟩)
    have gc : ∀ h' c', c' / 9 ^ 0 = c ∧ sim T cd d S 0 c' = some h' → c' = c ∧ sim T cd d S 0 c = some h' := by
      rintro h' c' ⟨g1, g2⟩
      have : c' = c := by simpa using g1
      subst this
      exact ⟨rfl, g2⟩
    have bd : ∀ b, o = some b → b.2 < (c + 1) * 9 ^ 0 := fun b hb2 => by have := hb b hb2; simp only [Nat.pow_zero, Nat.mul_one] at this ⊢; omega
    rintro e (⟨m2, rfl, e1, k2⟩ | ⟨h, m2, rfl, e0, e1, k2⟩)
    · unfold f_X12_whens_K20
      rw [pw_some]
      have kk := k1'.tr k2
      exact ⟨kk.mo (fun k i p a => Or.inl a), o, ho.mv kk (by omega) (fun p x => by omega), wPost.no bd (fun h' c' g => by have := (gc h' c' g).2; rw [e1] at this; cases this)⟩
    · have kk := k1'.tr k2
      have ho2 := ho.mv kk (by omega) (fun p x => by omega)
      have j110 : (∀ b, o = some b → h < b.1) → wo (f_X12_whens_J110 (n32 d) (n32 h) m2) (fun m' => kp (fun k i p => kM d k i p) m m' ∧ ∃ o', rO (T 2) d m' o' ∧ wPost (fun h' c' => c' / 9 ^ 0 = c ∧ sim T cd d S 0 c' = some h') o o' ((c + 1) * 9 ^ 0)) := by
        intro hlt
        unfold f_X12_whens_J110
        rw [pw_let, pw_bo]
        have kw : kp (fun k i p => k = 12 ∧ i = 0 ∧ p = 31) m2 (mi_wI m2 12 0 31 (n32 h)) := kp.rf.wI ⟨rfl, rfl, rfl⟩
        refine pl_for (fun j z => z.1 = n32 j ∧ kp (fun k i p => k = 71 ∧ i = 0) (mi_wI m2 12 0 31 (n32 h)) z.2 ∧ ∀ i, i < j → z.2.1 71 0 i = m.1 70 0 i) d (by omega) ⟨rfl, kp.rf, fun i hi => absurd hi (by omega)⟩ ?_
        rintro j ⟨l, m3⟩ hj ⟨b1, b2, b3⟩
        simp only at b1 b2 b3
        subst b1
        unfold f_X12_whens_B118
        simp (disch := omega) only [pw_if, pw_some, n32_le, lr_r, lr_l, pw_g, pw_let, n32_in, n32_cl, n32_al]
        refine ⟨fun hx => ?_, fun hx => ⟨by omega, by omega, by omega, by trivial, b2.wI ⟨rfl, rfl⟩, fun i hi => ?_⟩⟩
        · unfold f_X12_whens_K118 f_X12_whens_J144
          rw [pw_some]
          refine ⟨((kk.mo (fun k i p a => Or.inl a)).tr (kw.mo (fun k i p a => by omega))).tr (b2.mo (fun k i p a => by omega)), some (h, c), ⟨?_, e0, fun i hi => ?_⟩, Or.inr ⟨h, c, rfl, by simp, e1⟩, fun b hb2 => ⟨_, rfl, ?_⟩, fun h' c' g => ⟨_, rfl, ?_⟩, fun b hb2 => ?_⟩
          · rw [b2.1 12 0 31 (by omega), rI_eq]
          · rw [b3 i (by omega)]; exact (hp i hi).1
          · have := hlt b hb2
            unfold btw; dsimp only; omega
          · obtain ⟨g1, g2⟩ := gc h' c' g
            rw [e1] at g2
            have g2 := Option.some.inj g2
            unfold btw; dsimp only; omega
          · cases hb2
            show c < (c + 1) * 9 ^ 0
            omega
        · by_cases e : i = j
          · subst e
            rw [rI_eq, b2.1 70 0 i (by omega), kw.1 70 0 i (by omega), kk.1 70 0 i (by omega)]
          · rw [rI_ne (by omega)]; exact b3 i (by omega)
      unfold f_X12_whens_K20
      dsimp only
      cases o with
      | none =>
        rw [show m2.1 12 0 31 = -1 from ho2, if_pos (by decide)]
        exact j110 (fun b hb2 => by cases hb2)
      | some b =>
        have b18 := ho2.2.1
        rw [ho2.1, if_neg (n32_nn (by omega)).mp, pw_if, n32_le (by omega) (by omega)]
        refine ⟨fun x => ?_, fun x => j110 (fun b2 hb2 => by cases hb2; omega)⟩
        unfold f_X12_whens_J144
        rw [pw_some]
        refine ⟨kk.mo (fun k i p a => Or.inl a), some b, ho2, wPost.no bd (fun h' c' g => ⟨b, rfl, ?_⟩)⟩
        obtain ⟨g1, g2⟩ := gc h' c' g
        rw [e1] at g2
        have g2 := Option.some.inj g2
        have := hb b rfl
        simp only [Nat.pow_zero, Nat.mul_one] at this
        unfold btw; dsimp only; omega
  | k + 1, d, fu + 1, c, o, m, hd, hf, hm, hS, h24, ho, hp, hb => by
    have hT := hm.1.2.1
    have h8 := hT.1.2.1
    show wo (f_X12_whens_ (fg_X12_whens fu) (n32 N) (n32 d) m) _
    unfold f_X12_whens_
    rw [if_neg (by rw [n32_eq (by omega) (by omega)]; omega), pw_bo]
    have rcl : ∀ j m1 o1, j ≤ T 2 → kp (fun k i p => kM d k i p) m m1 → rO (T 2) N m1 o1 → (∀ b, o1 = some b → b.2 < (c * 9 + j) * 9 ^ k) → wo (fg_X12_whens fu (n32 N) (n32 (d + 1)) (mi_wI m1 70 0 d (dg (T 2) j))) (fun m' => kp (fun k i p => kM d k i p) m m' ∧ ∃ o', rO (T 2) N m' o' ∧ wPost (fun h' c' => c' / 9 ^ k = c * 9 + j ∧ sim T cd N S 0 c' = some h') o1 o' ((c * 9 + j + 1) * 9 ^ k)) := by
      intro j m1 o1 hj k1 w1 b1
      have kw : kp (fun k i p => k = 70 ∧ i = 0 ∧ p = d) m1 (mi_wI m1 70 0 d (dg (T 2) j)) := kp.rf.wI ⟨rfl, rfl, rfl⟩
      have kk := k1.tr (kw.mo (fun k i p a => show kM d k i p by omega))
      refine pw_mono (pm_whens hN hs k (d + 1) fu (c * 9 + j) o1 _ (by omega) (by omega) (hm.mv kk (fun k i p x y e => by omega)) (hS.mv kk (fun p x y e => by omega)) (by rw [kk.1 12 0 24 (by omega)]; exact h24) (w1.mv kw (by omega) (fun p x => by omega)) (fun i hi => ?_) b1) ?_
      · by_cases e : i = d
        · subst e
          rw [rI_eq, show i + 1 - 1 - i = 0 by omega]
          simp only [Nat.pow_zero, Nat.div_one]
          rw [show (c * 9 + j) % 9 = j by omega]
          exact ⟨rfl, hj⟩
        · rw [rI_ne (by omega), k1.1 70 0 i (by omega), show d + 1 - 1 - i = (d - 1 - i) + 1 by omega, d9p (by omega)]
          exact hp i (by omega)
      · rintro m2 ⟨k2, o2, w2, p2⟩
        exact ⟨kk.tr (k2.mo (fun k i p a => by omega)), o2, w2, p2⟩
    refine pl_for (fun j z => z.1 = n32 j ∧ kp (fun k i p => kM d k i p) m z.2 ∧ ∃ o', rO (T 2) N z.2 o' ∧ wPost (fun h' c' => (∃ x, x < j ∧ c' / 9 ^ k = c * 9 + x) ∧ sim T cd N S 0 c' = some h') o o' ((c * 9 + j) * 9 ^ k)) (T 2) (by omega) ⟨rfl, kp.rf, o, ho, wPost.no (fun b hb2 => ?_) (fun h' c' g => ?_)⟩ ?_
    · have := hb b hb2
      rw [Nat.pow_succ] at this
      rw [Nat.add_zero, Nat.mul_assoc, Nat.mul_comm 9]
      exact this
    · obtain ⟨x, hx, -⟩ := g.1
      omega
    · rintro j ⟨l, m1⟩ hj ⟨e1, k1, o1, w1, p1⟩
      simp only at e1 k1 w1
      subst e1
      have m1T : mT m1 T cd := hm.mv k1 (fun k i p x y e => by omega)
      have bd : ∀ b, o1 = some b → b.2 < (c * 9 + j) * 9 ^ k := p1.2.2.2
      unfold f_X12_whens_B147
      dsimp only
      rw [pm_wrongs m1T.1.1, pw_bo, pw_some, pw_if, n32_le (by omega) (by omega)]
      refine ⟨fun x => ?_, fun x => ?_⟩
      · have : j = T 2 := by omega
        subst this
        rw [pw_some, lr_r]
        unfold f_X12_whens_K147
        rw [pw_g, n32_in (by omega), n32_cl (by omega), pw_let, pw_bo, n32_al]
        refine ⟨by omega, ?_⟩
        have := rcl (T 2) m1 o1 (Nat.le_refl _) k1 w1 bd
        rw [show dg (T 2) (T 2) = -1 from if_neg (Nat.lt_irrefl _)] at this
        refine pw_mono this ?_
        rintro m2 ⟨k2, o2, w2, p2⟩
        rw [pw_some]
        refine ⟨k2, o2, w2, (p1.sq p2).cg (fun h' c' => ⟨fun g => ?_, fun g => ?_⟩) ?_⟩
        · rcases g with ⟨⟨x, x1, x2⟩, g⟩ | ⟨g1, g⟩
          · exact ⟨(d9r x2 (by omega)).1, g⟩
          · exact ⟨(d9r g1 (by omega)).1, g⟩
        · have gd := sim_d g.2 k (by omega)
          by_cases e : c' / 9 ^ k % 9 = T 2
          · exact Or.inr ⟨by rw [d9 g.1, e], g.2⟩
          · exact Or.inl ⟨⟨c' / 9 ^ k % 9, by omega, d9 g.1⟩, g.2⟩
        · rw [Nat.pow_succ, Nat.mul_comm (9 ^ k) 9, ← Nat.mul_assoc]
          exact Nat.mul_le_mul_right _ (by omega)
      · have hj : j < T 2 := by omega
        have gap : (c * 9 + j) * 9 ^ k ≤ (c * 9 + j + 1) * 9 ^ k := Nat.mul_le_mul_right _ (by omega)
        have nx : ∀ m2 o2, kp (fun k i p => kM d k i p) m m2 → rO (T 2) N m2 o2 → wPost (fun h' c' => c' / 9 ^ k = c * 9 + j ∧ sim T cd N S 0 c' = some h') o1 o2 ((c * 9 + j + 1) * 9 ^ k) → wo (f_X12_whens_J179 (n32 j) m2) (lr (fun z => j < T 2 ∧ z.1 = n32 (j + 1) ∧ kp (fun k i p => kM d k i p) m z.2 ∧ ∃ o', rO (T 2) N z.2 o' ∧ wPost (fun h' c' => (∃ x, x < j + 1 ∧ c' / 9 ^ k = c * 9 + x) ∧ sim T cd N S 0 c' = some h') o o' ((c * 9 + (j + 1)) * 9 ^ k)) (fun e => wo (f_X12_whens_K147 (fg_X12_whens fu) (n32 N) (n32 d) e) (fun m' => kp (fun k i p => kM d k i p) m m' ∧ ∃ o', rO (T 2) N m' o' ∧ wPost (fun h' c' => c' / 9 ^ (k + 1) = c ∧ sim T cd N S 0 c' = some h') o o' ((c + 1) * 9 ^ (k + 1))))) := by
          intro m2 o2 k2 w2 p2
          unfold f_X12_whens_J179
          rw [pw_some, lr_l, n32_al]
          refine ⟨hj, rfl, k2, o2, w2, (p1.sq p2).cg (fun h' c' => ⟨fun g => ?_, fun g => ?_⟩) (Nat.le_of_eq (by rw [Nat.add_assoc]))⟩
          · rcases g with ⟨⟨x, x1, x2⟩, g⟩ | ⟨g1, g⟩
            · exact ⟨⟨x, by omega, x2⟩, g⟩
            · exact ⟨⟨j, by omega, g1⟩, g⟩
          · obtain ⟨⟨x, x1, x2⟩, g⟩ := g
            by_cases e : x = j
            · subst e; exact Or.inr ⟨x2, g⟩
            · exact Or.inl ⟨⟨x, by omega, x2⟩, g⟩
        rw [show f_X12_isOpen 0 (n32 j) m1 = _ from pm_isOpen (b := 0) m1T.1.1 hT (hS.mv k1 (fun p x y e => by omega)) (by omega) hj, pw_bo, pw_some]
        by_cases h0 : S (22 + j) = 0
        · rw [if_pos h0, if_neg (by decide), pw_g, n32_in (by omega), n32_cl (by omega), pw_let, pw_bo, n32_al]
          refine ⟨by omega, ?_⟩
          have := rcl j m1 o1 (by omega) k1 w1 bd
          rw [show dg (T 2) j = n32 j from if_pos hj] at this
          refine pw_mono this ?_
          rintro m2 ⟨k2, o2, w2, p2⟩
          exact nx m2 o2 k2 w2 p2
        · rw [if_neg h0, if_pos rfl]
          exact nx m1 o1 k1 w1 (wPost.no (fun b hb2 => by have := bd b hb2; omega) (fun h' c' g => absurd (sim_o hT hj g.2 k (by omega) (d9r g.1 (by omega)).2) h0))
