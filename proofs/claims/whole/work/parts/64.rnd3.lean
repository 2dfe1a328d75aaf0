/-! the ripe ones at each door -/
def rpK (T : Nat → Nat) (S : Nat → Int32) : Nat → Nat → Nat
  | 0, _ => 0
  | k + 1, x => rpK T S k x + (if (S (22 + k) = 0 ∧ S (14 + k) ≤ n32 (barA T k)) ∧ toA T k = x then 1 else 0)
theorem rpK_s {T : Nat → Nat} {S : Nat → Int32} {k x : Nat} : rpK T S (k + 1) x = rpK T S k x + (if (S (22 + k) = 0 ∧ S (14 + k) ≤ n32 (barA T k)) ∧ toA T k = x then 1 else 0) := rfl
theorem rpK_le {T : Nat → Nat} {S : Nat → Int32} {x : Nat} : ∀ k, rpK T S k x ≤ k
  | 0 => Nat.le_refl _
  | k + 1 => by
    rw [rpK_s]
    have := rpK_le (T := T) (S := S) (x := x) k
    split <;> omega
def s0A (rp : Nat → Nat) (p : Nat) : Nat := if rp p = 0 then 0 else stS 0 p
theorem stS_0 : ∀ p, p < 6 → (1 : Int32) <<< (n32 p &&& 31) = n32 (stS 0 p) ∧ stS 0 p < 64 ∧ (0 : Nat).testBit p = false := by decide +kernel
theorem fN_0 {rp : Nat → Nat} : fN rp 0 = 0 := by
  unfold fN
  simp only [Nat.zero_testBit, Bool.false_eq_true, if_false]
theorem s0A_f {rp : Nat → Nat} {p : Nat} (hp : p < 6) : fN rp (s0A rp p) = rp p ∧ s0A rp p < 64 := by
  unfold s0A
  by_cases e : rp p = 0
  · rw [if_pos e, fN_0, e]; exact ⟨rfl, by decide⟩
  · obtain ⟨a1, a2, a3⟩ := stS_0 p hp
    rw [if_neg e, fN_s hp a3, fN_0]
    exact ⟨by omega, a2⟩
theorem pm_round {m : mi_M} {T : Nat → Nat} {S : Nat → Int32} {p mo q : Nat} (h : mTw m T) (hT : tOK T) (hS : mSt m 0 S) (hp : p < T 0) (hmo : mo ≤ 200) (hq : q ≤ 2) : wo (mi_bo (f_X12_laysSteps m) fun m5 => mi_bo (mi_lp (f_X12_round_B42) mi_fu ((0 : Int32), m5)) (f_X12_round_K42 (n32 p) (n32 mo) (n32 q))) (fun r => ∃ b', rPost (Rf (T 0) (rpK T S (T 2)) (sT T) mo 6 (s0A (rpK T S (T 2)) p) p 0) (rpK T S (T 2)) none b' ∧ r.1 = (if q = 0 then n32 b'.1 else if q = 1 then n32 b'.2.1 else n32 b'.2.2) ∧ kp (fun k i p => pXm k i p) m r.2) := by
  have h6 := hT.1.1
  have h8 := hT.1.2.1
  rw [pw_bo]
  refine pw_mono (pm_steps hT.2.2.2.2 h6 h) ?_
  rintro m1 ⟨k1, st1⟩
  have hm1 : mTw m1 T := h.mv k1 (fun p _ x => by omega)
  have hS1 : mSt m1 0 S := hS.mv k1 (fun p a x y => by omega)
  have kx1 : kp (fun k i p => pXm k i p) m m1 := k1.mo (fun k i p a => by omega)
  rw [pw_bo]
  refine pl_for (fun k z => z.1 = n32 k ∧ kp (fun k i p => k = 73 ∧ i = 0) m1 z.2 ∧ ∀ x, x < k → z.2.1 73 0 x = n32 0) (T 0) (by omega) ⟨rfl, kp.rf, fun x hx => absurd hx (by omega)⟩ ?_
  rintro k ⟨l, m2⟩ hk ⟨a1, a2, a3⟩
  simp only at a1 a2 a3
  subst a1
  have hm2 : mTw m2 T := hm1.mv a2 (fun p _ x => by omega)
  unfold f_X12_round_B42
  dsimp only
  rw [pm_people hm2, pw_bo, pw_some]
  simp (disch := omega) only [pw_if, pw_some, n32_le, lr_r, lr_l, pw_g, pw_let, n32_in, n32_cl, n32_al]
  refine ⟨fun hx => ?_, fun hx => ⟨by omega, by omega, by trivial, a2.wI ⟨rfl, rfl⟩, fun x hx2 => ?_⟩⟩
  · have : k = T 0 := by omega
    subst this
    unfold f_X12_round_K42
    rw [pw_bo]
    refine pl_for (fun k z => z.1 = n32 k ∧ kp (fun k i p => k = 73 ∧ i = 0) m1 z.2 ∧ ∀ x, x < T 0 → z.2.1 73 0 x = n32 (rpK T S k x)) (T 2) (by omega) ⟨rfl, a2, a3⟩ ?_
    clear a2 a3 hm2 m2 hk hx
    rintro k ⟨l, m2⟩ hk ⟨a1, a2, a3⟩
    simp only at a1 a2 a3
    subst a1
    have hm2 : mTw m2 T := hm1.mv a2 (fun p _ x => by omega)
    have hS2 : mSt m2 0 S := hS1.mv a2 (fun p a x y => by omega)
    unfold f_X12_round_B68
    dsimp only
    rw [pm_wrongs hm2, pw_bo, pw_some]
    simp (disch := omega) only [pw_if, pw_some, n32_le, lr_r]
    refine ⟨fun hx => ?_, fun hx => ?_⟩
    · have : k = T 2 := by omega
      subst this
      obtain ⟨f1, f2⟩ := s0A_f (rp := rpK T S (T 2)) (p := p) (by omega)
      have r8 := rpK_le (T := T) (S := S) (x := p) (T 2)
      unfold f_X12_round_K68
      rw [pw_let, pw_let, pw_let]
      have kw : kp (fun k i p => k3 k i p) m2 (mi_wI (mi_wI (mi_wI m2 12 0 34 (-1)) 12 0 35 0) 12 0 36 0) := ((kp.rf.wI ⟨rfl, rfl, by omega⟩).wI ⟨rfl, rfl, by omega⟩).wI ⟨rfl, rfl, by omega⟩
      have rm : rMem (mi_wI (mi_wI (mi_wI m2 12 0 34 (-1)) 12 0 35 0) 12 0 36 0) T (rpK T S (T 2)) := by
        refine rMem.mv (m := m2) ⟨hm2, fun q hq => ?_, a3⟩ kw (fun k p x y => by omega)
        rw [a2.1 72 0 q (by omega)]
        exact st1 q hq
      have bo : bO (mi_wI (mi_wI (mi_wI m2 12 0 34 (-1)) 12 0 35 0) 12 0 36 0) none := by
        refine ⟨?_, ?_, ?_⟩
        · rw [rI_ne (by omega), rI_ne (by omega), rI_eq]
        · rw [rI_ne (by omega), rI_eq]
        · rw [rI_eq]
      have j146 : wo (f_X12_round_J146 (n32 p) (n32 mo) (n32 q) (mi_wI (mi_wI (mi_wI m2 12 0 34 (-1)) 12 0 35 0) 12 0 36 0) (n32 (s0A (rpK T S (T 2)) p))) (fun r => ∃ b', rPost (Rf (T 0) (rpK T S (T 2)) (sT T) mo 6 (s0A (rpK T S (T 2)) p) p 0) (rpK T S (T 2)) none b' ∧ r.1 = (if q = 0 then n32 b'.1 else if q = 1 then n32 b'.2.1 else n32 b'.2.2) ∧ kp (fun k i p => pXm k i p) m r.2) := by
        unfold f_X12_round_J146 f_X12_rounds f_X12_round_J184
        generalize mi_wI (mi_wI (mi_wI m2 12 0 34 (-1)) 12 0 35 0) 12 0 36 0 = m3 at kw rm bo
        rw [pw_g, n32_in (by omega), n32_cl (by omega), rm.2.2 p hp, ← f1, pw_bo]
        refine ⟨by omega, pw_mono (pm_rounds hT (fun x _ => by have := rpK_le (T := T) (S := S) (x := x) (T 2); omega) hmo 6 mi_dp (s0A (rpK T S (T 2)) p) p 0 m3 none (by decide) (by omega) f2 hp (by omega) rm bo) ?_⟩
        rintro m4 ⟨k4, b', hb, hp4⟩
        have kk : kp (fun k i p => pXm k i p) m m4 := ((kx1.tr (a2.mo (fun k i p a => by omega))).tr (kw.mo (fun k i p a => by omega))).tr (k4.mo (fun k i p a => by omega))
        simp (disch := omega) only [pw_if, pw_some, n32_eqL]
        refine ⟨fun x => ⟨b', hp4, ?_, kk⟩, fun x => ⟨fun y => ⟨b', hp4, ?_, kk⟩, fun y => ⟨b', hp4, ?_, kk⟩⟩⟩
        · rw [if_pos x]; exact hb.1.1
        · rw [if_neg x, if_pos y]; exact hb.1.2.1
        · rw [if_neg x, if_neg y]; exact hb.1.2.2
      rw [pw_g, n32_in (by omega), n32_cl (by omega), rm.2.2 p hp, pw_if, show (0 : Int32) = n32 0 from rfl, n32_le (by omega) (by omega)]
      refine ⟨by omega, fun x => ?_, fun x => ?_⟩
      · have es : s0A (rpK T S (T 2)) p = 0 := if_pos (by omega)
        rw [es] at j146 ⊢
        exact j146
      · have es : s0A (rpK T S (T 2)) p = stS 0 p := if_neg (by omega)
        rw [(stS_0 p (by omega)).1, ← es]
        exact j146
    · have hk : k < T 2 := by omega
      obtain ⟨t1, t2, t3, t4, t5⟩ := hT.2.2.1 k hk
      rw [pm_to hm2 (by omega), pw_bo, pw_some, pw_g, n32_in (by omega), show f_X12_isRipe 0 (n32 k) m2 = _ from pm_isRipe (b := 0) hm2 hT hS2 (by omega) hk, pw_bo, pw_some]
      have r8 := rpK_le (T := T) (S := S) (x := toA T k) k
      have fin : ∀ u v, u = n32 v → rpK T S (k + 1) (toA T k) = rpK T S k (toA T k) + v → (∀ x, x ≠ toA T k → rpK T S (k + 1) x = rpK T S k x) → wo (f_X12_round_J105 (n32 k) m2 (n32 (toA T k)) u) (lr (fun z => k < T 2 ∧ z.1 = n32 (k + 1) ∧ kp (fun k i p => k = 73 ∧ i = 0) m1 z.2 ∧ ∀ x, x < T 0 → z.2.1 73 0 x = n32 (rpK T S (k + 1) x)) (fun e => wo (f_X12_round_K68 (n32 p) (n32 mo) (n32 q) e) (fun r => ∃ b', rPost (Rf (T 0) (rpK T S (T 2)) (sT T) mo 6 (s0A (rpK T S (T 2)) p) p 0) (rpK T S (T 2)) none b' ∧ r.1 = (if q = 0 then n32 b'.1 else if q = 1 then n32 b'.2.1 else n32 b'.2.2) ∧ kp (fun k i p => pXm k i p) m r.2))) := by
        rintro u v rfl e1 e2
        unfold f_X12_round_J105
        simp (disch := omega) only [pw_g, pw_let, pw_some, lr_l, n32_in, n32_cl, n32_al]
        rw [a3 _ t2, n32_add]
        refine ⟨by omega, hk, by trivial, a2.wI ⟨rfl, rfl⟩, fun x hx => ?_⟩
        by_cases e : x = toA T k
        · subst e; rw [rI_eq, e1]
        · rw [rI_ne (by omega), e2 x e]; exact a3 x hx
      refine ⟨by omega, ?_⟩
      by_cases e : S (22 + k) = 0 ∧ S (14 + k) ≤ n32 (barA T k)
      · rw [if_pos e, if_neg (by decide)]
        exact fin 1 1 rfl (by rw [rpK_s, if_pos ⟨e, rfl⟩]) (fun x hx => by rw [rpK_s, if_neg (fun z => hx z.2.symm), Nat.add_zero])
      · rw [if_neg e, if_pos rfl]
        exact fin 0 0 rfl (by rw [rpK_s, if_neg (fun z => e z.1)]) (fun x hx => by rw [rpK_s, if_neg (fun z => hx z.2.symm), Nat.add_zero])
  · by_cases e : x = k
    · subst e; rw [rI_eq]; rfl
    · rw [rI_ne (by omega)]; exact a3 x (by omega)
