def wrk (m : mi_M) (c : Nat) (T : Nat → Nat) (cd : Nat → List Int32) (rp : Nat → Nat) (mo s0 p : Nat) (m1 : mi_M) (D : Nat → Nat → Nat) : Prop := cT m1 c T cd ∧ kp (fun k i p => k25 c k i) m m1 ∧ dpC m1 D ∧ dpA (T 0) rp (sT T) mo s0 p D ∧ D s0 p = 0
theorem rlx_k {P : Nat} {rp : Nat → Nat} {st : Nat → Nat → Nat} {mo : Nat} {D D' : Nat → Nat → Nat} {s z a : Nat} (h : rlx P rp st mo D s a) (hs : s ≤ z) (h1 : ∀ s', s' ≤ z → ∀ a', D' s' a' = D s' a') (h2 : ∀ s' a', D' s' a' ≤ D s' a') : rlx P rp st mo D' s a := by
  intro x hx ok
  rw [h1 s hs a] at hx ok ⊢
  have := h x hx ok
  have := h2 (stS s x) x
  omega
theorem pc_walkRounds {c mo p : Nat} {m : mi_M} {T : Nat → Nat} {cd : Nat → List Int32} {rp : Nat → Nat} (h : cT m c T cd) (hr : rpC m rp) (hr8 : ∀ x, x < 6 → rp x ≤ 8) (hmo : mo ≤ 200) (hp : p < T 0) :
    wo (f_X2_walkRounds c (n32 p) (n32 mo) m) (fun m' => ∃ D, wrk m c T cd rp mo (s0A rp p) p m' D ∧ ∀ s, s < 64 → ∀ a, a < T 0 → rlx (T 0) rp (sT T) mo D s a) := by
  have hT := h.1.2.1
  have h6 := hT.1.1
  have hX : XX = 1048576 := rfl
  obtain ⟨z1, z2⟩ := s0A_f (rp := rp) (p := p) (by omega)
  unfold f_X2_walkRounds
  rw [pw_bo]
  refine pl_for (fun k z => z.1 = n32 k ∧ kp (fun k i p => k = 25 ∧ i = 0) m z.2 ∧ ∀ q, q < k → z.2.1 25 0 q = n32 XX) 384 (by omega) ⟨rfl, kp.rf, fun q hq => absurd hq (by omega)⟩ ?_
  rintro k ⟨l, m1⟩ hk ⟨e1, k1, f1⟩
  simp only at e1 k1 f1
  subst e1
  unfold f_X2_walkRounds_B3
  simp (disch := omega) only [pw_if, pw_some, n32_Lle, lr_r, lr_l, pw_g, pw_let, n32_in, n32_cl, n32_al]
  refine ⟨fun hz => ?_, fun hz => ⟨by omega, by omega, by trivial, k1.wI ⟨rfl, rfl⟩, fun q hq => ?_⟩⟩
  · have : k = 384 := by omega
    subst this
    have j44 : wo (f_X2_walkRounds_J44 c (n32 p) (n32 mo) m1 (n32 (s0A rp p))) (fun m' => ∃ D, wrk m c T cd rp mo (s0A rp p) p m' D ∧ ∀ s, s < 64 → ∀ a, a < T 0 → rlx (T 0) rp (sT T) mo D s a) := by
      generalize s0A rp p = s0 at z1 z2
      unfold f_X2_walkRounds_J44
      simp (disch := omega) only [pw_g, pw_let, n32_ml, n32_add, n32_in, n32_cl]
      refine ⟨by omega, ?_⟩
      rw [pw_bo]
      have kw : kp (fun k i p => k = 25 ∧ i = 0) m1 (mi_wI m1 25 0 (s0 * 6 + p) 0) := kp.rf.wI ⟨rfl, rfl⟩
      have c2 : cT (mi_wI m1 25 0 (s0 * 6 + p) 0) c T cd := (h.mv k1 (fun k i p a b => by unfold cTk at b; omega)).mv kw (fun k i p a b => by unfold cTk at b; omega)
      refine pl_for (fun k z => z.1 = n32 (s0 + k) ∧ ∃ D, wrk m c T cd rp mo s0 p z.2 D ∧ ∀ s, s < s0 + k → ∀ a, a < T 0 → rlx (T 0) rp (sT T) mo D s a) (64 - s0) (by omega) ⟨rfl, fun s a => if s = s0 ∧ a = p then 0 else XX, ⟨c2, (k1.mo (fun k i p a => Or.inr a)).tr (kw.mo (fun k i p a => Or.inr a)), fun s hs a ha => ?_, fun s hs a ha => ?_, if_pos ⟨rfl, rfl⟩⟩, fun s hs a ha x hx => ?_⟩ ?_
      · dsimp only
        by_cases e : s = s0 ∧ a = p
        · rw [if_pos e, e.1, e.2, rI_eq]; rfl
        · rw [if_neg e, rI_ne (by omega)]; exact f1 _ (by omega)
      · dsimp only
        by_cases e : s = s0 ∧ a = p
        · rw [if_pos e, e.1, e.2]; exact Or.inr ⟨hp, by omega, Rf_0⟩
        · rw [if_neg e]; exact Or.inl rfl
      · dsimp only at hx
        rw [if_neg (by omega)] at hx
        omega
      · clear c2 kw f1 k1 m1
        rintro k ⟨l, m1⟩ hk ⟨e1, D, w1, w2⟩
        simp only at e1 w1
        subst e1
        unfold f_X2_walkRounds_B63
        simp (disch := omega) only [pw_if, pw_some, n32_Lle, lr_r, pw_bo]
        refine ⟨fun hz => ?_, fun hz => ?_⟩
        · unfold f_X2_walkRounds_K63
          rw [pw_some]
          exact ⟨D, w1, fun s hs => w2 s (by omega)⟩
        · refine pl_for (fun y z => z.1 = n32 y ∧ ∃ D, wrk m c T cd rp mo s0 p z.2 D ∧ (∀ s, s < s0 + k → ∀ a, a < T 0 → rlx (T 0) rp (sT T) mo D s a) ∧ ∀ a, a < y → rlx (T 0) rp (sT T) mo D (s0 + k) a) (T 0) (by omega) ⟨rfl, D, w1, w2, fun a ha => absurd ha (by omega)⟩ ?_
          clear w1 w2 D m1
          rintro y ⟨l, m1⟩ hy ⟨e1, D, w1, w2, w3⟩
          simp only at e1 w1
          subst e1
          obtain ⟨v1, v2, v3, v4, v5⟩ := id w1
          unfold f_X2_walkRounds_B73
          dsimp only
          rw [show m1.1 8 c 0 = n32 (T 0) from v1.1.1.1.1]
          simp (disch := omega) only [pw_if, pw_some, n32_le, lr_r, pw_g, n32_ml, n32_add, n32_in, n32_cl]
          refine ⟨fun hx => ?_, fun hx => ⟨by omega, ?_⟩⟩
          · have : y = T 0 := by omega
            subst this
            unfold f_X2_walkRounds_K73
            rw [pw_some, lr_l, n32_al]
            refine ⟨by omega, rfl, D, w1, fun s hs a ha => ?_⟩
            by_cases e : s = s0 + k
            · rw [e]; exact w3 a ha
            · exact w2 s (by omega) a ha
          · have hy : y < T 0 := by omega
            have dv := v4 (s0 + k) (by omega) y (by omega)
            have dl : D (s0 + k) y ≤ XX := by omega
            rw [v3 (s0 + k) (by omega) y (by omega)]
            simp (disch := omega) only [n32_Lle]
            refine ⟨fun x => ?_, fun x => ?_⟩
            · unfold f_X2_walkRounds_J110
              rw [pw_some, lr_l, n32_al]
              refine ⟨hy, rfl, D, w1, w2, fun a ha => ?_⟩
              by_cases e : a = y
              · rw [e]; intro x2 hx2; omega
              · exact w3 a (by omega)
            · rw [pw_bo]
              refine pw_mono (pc_walkOn v1 (hr.mv v2 (fun p x => by omega)) hr8 hmo (show s0 + k < 64 by omega) hy v3 v4 (by omega)) ?_
              rintro m2 ⟨g1, g2, D2, g3, g4, g5, g6, g7⟩
              unfold f_X2_walkRounds_J110
              rw [pw_some, lr_l, n32_al]
              refine ⟨hy, rfl, D2, ⟨g1, v2.tr g2, g3, g4, by rw [g5 s0 (by omega)]; exact v5⟩, fun s hs a ha => rlx_k (w2 s hs a ha) (by omega) g5 g6, fun a ha => ?_⟩
              by_cases e : a = y
              · rw [e]
                intro x2 hx2 ok
                rw [g5 (s0 + k) (Nat.le_refl _) y] at hx2 ok ⊢
                exact g7 x2 ok
              · exact rlx_k (w3 a (by omega)) (Nat.le_refl _) g5 g6
    unfold f_X2_walkRounds_K3
    have r24 : m1.1 24 0 p = n32 (rp p) := by rw [k1.1 24 0 p (by omega)]; exact hr p (by omega)
    have rp8 := hr8 p (by omega)
    rw [pw_g, n32_in (by omega), n32_cl (by omega), r24, pw_if, show (0 : Int32) = n32 0 from rfl, n32_le (by omega) (by omega)]
    refine ⟨by omega, fun x => ?_, fun x => ?_⟩
    · have es : s0A rp p = 0 := if_pos (by omega)
      rw [es] at j44 ⊢
      exact j44
    · have es : s0A rp p = stS 0 p := if_neg (by omega)
      rw [(stS_0 p (by omega)).1, ← es]
      exact j44
  · by_cases e : q = k
    · subst e; rw [rI_eq]; rfl
    · rw [rI_ne (by omega)]; exact f1 q (by omega)
theorem pc_leastW {s : Nat} {m : mi_M} {D : Nat → Nat → Nat} (hD : dpC m D) (hs : s < 64) (hl : ∀ a, a < 6 → D s a ≤ XX) : wo (f_X2_leastWalked (n32 s) m) (fun r => ∃ L, r = n32 L ∧ L ≤ XX ∧ (∀ a, a < 6 → L ≤ D s a) ∧ (L < XX → ∃ a, a < 6 ∧ L = D s a)) := by
  have hX : XX = 1048576 := rfl
  unfold f_X2_leastWalked
  rw [pw_bo]
  refine pl_for (fun k z => ∃ L, z = (n32 L, n32 k) ∧ L ≤ XX ∧ (∀ a, a < k → L ≤ D s a) ∧ (L < XX → ∃ a, a < 6 ∧ L = D s a)) 6 (by omega) ⟨XX, rfl, Nat.le_refl _, fun a ha => absurd ha (by omega), fun x => absurd x (Nat.lt_irrefl _)⟩ ?_
  rintro k z hk ⟨L, rfl, l1, l2, l3⟩
  unfold f_X2_leastWalked_B5
  simp (disch := omega) only [pw_if, pw_some, n32_Lle, lr_r, lr_l, pw_g, pw_let, n32_ml, n32_add, n32_in, n32_cl, n32_al]
  refine ⟨fun hz => ?_, fun hz => ⟨by omega, by omega, ?_⟩⟩
  · unfold f_X2_leastWalked_K5
    rw [pw_some]
    exact ⟨L, rfl, l1, fun a ha => l2 a (by omega), l3⟩
  · have dl := hl k (by omega)
    rw [hD s hs k (by omega)]
    simp (disch := omega) only [n32_lt]
    by_cases e : D s k < L
    · refine ⟨D s k, by rw [if_pos e], dl, fun a ha => ?_, fun _ => ⟨k, by omega, rfl⟩⟩
      by_cases e2 : a = k
      · rw [e2]; exact Nat.le_refl _
      · have := l2 a (by omega); omega
    · refine ⟨L, by rw [if_neg e], l1, fun a ha => ?_, l3⟩
      by_cases e2 : a = k
      · rw [e2]; omega
      · exact l2 a (by omega)
def fK (rp : Nat → Nat) (s : Nat) : Nat → Nat
  | 0 => 0
  | k + 1 => fK rp s k + (if s.testBit k then rp k else 0)
theorem pc_ripeOf {s : Nat} {m : mi_M} {rp : Nat → Nat} (hr : rpC m rp) : f_X2_ripeOf (n32 s) m = some (n32 (fN rp s)) := by
  apply pw_eq
  unfold f_X2_ripeOf
  rw [pw_bo]
  refine pl_for (fun k z => z = (n32 (fK rp s k), n32 k)) 6 (by omega) rfl ?_
  rintro k z hk rfl
  unfold f_X2_ripeOf_B4 f_X2_ripeOf_J27
  simp (disch := omega) only [pw_if, pw_some, n32_Lle, lr_r, lr_l, pw_g, pw_let, pw_bo, n32_in, n32_cl, n32_al, pc_holds]
  refine ⟨fun hz => ?_, fun hz => ?_⟩
  · have : k = 6 := by omega
    subst this
    unfold f_X2_ripeOf_K4
    rw [pw_some]
    simp [fK, fN]
  · cases e : s.testBit k with
    | false =>
      refine ⟨fun _ => ⟨by omega, ?_⟩, fun x => absurd rfl x⟩
      rw [show fK rp s (k + 1) = fK rp s k + (if s.testBit k then rp k else 0) from rfl, e]
      rfl
    | true =>
      refine ⟨fun x => absurd x (by decide), fun _ => ⟨by omega, by omega, ?_⟩⟩
      rw [hr k (by omega), n32_add, show fK rp s (k + 1) = fK rp s k + (if s.testBit k then rp k else 0) from rfl, e]
      rfl
theorem pc_countRipe {c : Nat} {m : mi_M} {T : Nat → Nat} {S : Nat → Int32} (h : cTw m c T) (hT : tOK T) (hS : cSt m 0 S) (hs : sOK T S) : wo (f_X2_countRipe c 0 m) (fun m' => kp (fun k i p => k = 24 ∧ i = 0) m m' ∧ rpC m' (rpK T S (T 2))) := by
  have h6 := hT.1.1
  have h8 := hT.1.2.1
  unfold f_X2_countRipe
  rw [pw_bo]
  refine pl_for (fun k z => z.1 = n32 k ∧ kp (fun k i p => k = 24 ∧ i = 0) m z.2 ∧ ∀ x, x < k → z.2.1 24 0 x = n32 0) 6 (by omega) ⟨rfl, kp.rf, fun x hx => absurd hx (by omega)⟩ ?_
  rintro k ⟨l, m1⟩ hk ⟨a1, a2, a3⟩
  simp only at a1 a2 a3
  subst a1
  unfold f_X2_countRipe_B2
  simp (disch := omega) only [pw_if, pw_some, n32_Lle, lr_r, lr_l, pw_g, pw_let, n32_in, n32_cl, n32_al]
  refine ⟨fun hx => ?_, fun hx => ⟨by omega, by omega, by trivial, a2.wI ⟨rfl, rfl⟩, fun x hx2 => ?_⟩⟩
  · have : k = 6 := by omega
    subst this
    unfold f_X2_countRipe_K2
    rw [pw_bo]
    refine pl_for (fun k z => z.1 = n32 k ∧ kp (fun k i p => k = 24 ∧ i = 0) m z.2 ∧ ∀ x, x < 6 → z.2.1 24 0 x = n32 (rpK T S k x)) (T 2) (by omega) ⟨rfl, a2, a3⟩ ?_
    clear a2 a3 m1 hk hx
    rintro k ⟨l, m1⟩ hk ⟨a1, a2, a3⟩
    simp only at a1 a2 a3
    subst a1
    have c1 : cTw m1 c T := h.mv a2 (fun k i p a b d => by omega)
    have s1 : cSt m1 0 S := hS.mv a2 (fun k j p a b d => by omega)
    unfold f_X2_countRipe_B23
    dsimp only
    rw [c1.1.2.1]
    simp (disch := omega) only [pw_if, pw_some, n32_le, lr_r]
    refine ⟨fun hx => ?_, fun hx => ?_⟩
    · have : k = T 2 := by omega
      subst this
      unfold f_X2_countRipe_K23
      rw [pw_some]
      exact ⟨a2, a3⟩
    · have hk : k < T 2 := by omega
      obtain ⟨t1, t2, t3, t4, t5⟩ := hT.2.2.1 k hk
      have r8 := rpK_le (T := T) (S := S) (x := toA T k) k
      rw [pc_isRipe c1 hT s1 hs hk, pw_bo, pw_some]
      unfold f_X2_countRipe_J55
      by_cases e : S (22 + k) = 0 ∧ S (14 + k) ≤ n32 (barA T k)
      · rw [if_pos e, if_neg (by decide)]
        simp (disch := omega) only [pw_g, pw_let, pw_some, lr_l, n32_in, n32_cl, n32_al]
        rw [(c1.2.2.1 k hk).2.1]
        simp (disch := omega) only [n32_in, n32_cl]
        rw [a3 _ (by omega), n32_al]
        refine ⟨by omega, by omega, by omega, hk, by trivial, a2.wI ⟨rfl, rfl⟩, fun x hx => ?_⟩
        by_cases e2 : x = toA T k
        · subst e2; rw [rI_eq, rpK_s, if_pos ⟨e, rfl⟩]
        · rw [rI_ne (by omega), rpK_s, if_neg (fun z => e2 z.2.symm)]; exact a3 x hx
      · rw [if_neg e, if_pos rfl, pw_some, lr_l, n32_al]
        refine ⟨hk, rfl, a2, fun x hx => ?_⟩
        rw [rpK_s, if_neg (fun z => e z.1)]; exact a3 x hx
  · by_cases e : x = k
    · subst e; rw [rI_eq]; rfl
    · rw [rI_ne (by omega)]; exact a3 x (by omega)
