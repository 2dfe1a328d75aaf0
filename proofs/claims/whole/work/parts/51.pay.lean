/-! ===== pay ===== -/
def sN (S : Nat → Int32) (w : Nat) : Nat := (S (14 + w)).toNatClampNeg
def cN (S : Nat → Int32) (p : Nat) : Nat := (S (8 + p)).toNatClampNeg
theorem sN_eq {T : Nat → Nat} {S : Nat → Int32} {w : Nat} (hs : sOK T S) (hw : w < 8) : S (14 + w) = n32 (sN S w) ∧ sN S w ≤ 99 := by
  obtain ⟨n, hn, e⟩ := hs.2.2.2.1 w hw
  unfold sN
  rw [e, n32_cl (by omega)]
  exact ⟨rfl, hn⟩
theorem cN_eq {T : Nat → Nat} {S : Nat → Int32} {p : Nat} (hs : sOK T S) (hp : p < 6) : S (8 + p) = n32 (cN S p) ∧ cN S p ≤ 5994 := by
  obtain ⟨C, hC, e⟩ := hs.2.2.1
  have := s6_le (C := C) hp
  unfold cN
  rw [e p hp, n32_cl (by omega)]
  exact ⟨rfl, by omega⟩
/-- the price of a pardon, and what it burns -/
def prW (T : Nat → Nat) (S : Nat → Int32) (w : Nat) : Nat := sN S w - barA T w
def loW (T : Nat → Nat) (cd : Nat → List Int32) (S : Nat → Int32) (w : Nat) : Int32 := burnA T cd w (n32 (min (sN S w) (barA T w))) (S 0)
theorem max0n {a b : Nat} (ha : a < 1000) (hb : b < 1000) : (if 0 < n32 a - n32 b then n32 a - n32 b else (0 : Int32)) = n32 (a - b) := by
  by_cases h : b ≤ a
  · rw [n32_sub h]
    by_cases e : a - b = 0
    · rw [e]; rfl
    · rw [if_pos (by rw [show (0 : Int32) = n32 0 from rfl, n32_lt (by omega) (by omega)]; omega)]
  · rw [show a - b = 0 by omega, if_neg]
    · rfl
    · rw [i32_lt, Int32.toInt_sub, n32_int (by omega), n32_int (by omega), Int.bmod_eq_of_le (by omega) (by omega), show (0 : Int32).toInt = 0 by decide]
      omega
def WP (m : mi_M) (T : Nat → Nat) (cd : Nat → List Int32) (S : Nat → Int32) : Prop := ∀ w, w < T 2 → m.1 20 0 w = n32 (prW T S w) ∧ m.1 21 0 w = loW T cd S w
theorem WP.mv {m m' : mi_M} {T : Nat → Nat} {cd : Nat → List Int32} {S : Nat → Int32} {P : Nat → Nat → Nat → Prop} (h : WP m T cd S) (hk : kp P m m') (hp : ∀ k i p, P k i p → k ≠ 20 ∧ k ≠ 21) : WP m' T cd S := fun w hw => by
  rw [hk.1 20 0 w (fun x => (hp _ _ _ x).1 rfl), hk.1 21 0 w (fun x => (hp _ _ _ x).2 rfl)]
  exact h w hw
theorem pc_weigh {m : mi_M} {T : Nat → Nat} {cd : Nat → List Int32} {c : Nat} {S : Nat → Int32} (h : cT m c T cd) (hS : cSt m 0 S) (hs : sOK T S) : wo (f_X2_weighPardons c 0 m) (fun m' => cT m' c T cd ∧ WP m' T cd S ∧ kp (fun k i _ => (k = 19 ∧ i = c) ∨ k = 20 ∨ k = 21) m m') := by
  have hT := h.1.2.1
  have h82 := hT.1.2.1
  unfold f_X2_weighPardons
  rw [pw_bo]
  refine pl_for (fun k s => s.1 = n32 k ∧ cT s.2 c T cd ∧ (∀ w, w < k → s.2.1 20 0 w = n32 (prW T S w) ∧ s.2.1 21 0 w = loW T cd S w) ∧ kp (fun k i _ => (k = 19 ∧ i = c) ∨ k = 20 ∨ k = 21) m s.2) (T 2) (by omega) ⟨rfl, h, fun w hw => absurd hw (by omega), kp.rf⟩ ?_
  rintro k ⟨l2, m1⟩ hk ⟨e1, e2, e3, e4⟩
  simp only at e1 e2 e3 e4
  subst e1
  have S1 : cSt m1 0 S := hS.mv e4 (fun k j p a b d => by omega)
  unfold f_X2_weighPardons_B2
  simp (disch := omega) only [pw_if, pw_some, pw_g, pw_let, pw_b, pw_bo, e2.1.1.1.2.1, n32_le, lr_r, lr_l, n32_in, n32_cl, n32_al]
  refine ⟨fun hz => ?_, fun hz => ⟨by omega, ?_⟩⟩
  · have : k = T 2 := by omega
    subst this
    unfold f_X2_weighPardons_K2
    rw [pw_some]
    exact ⟨e2, e3, e4⟩
  · have hk : k < T 2 := by omega
    obtain ⟨es, ls⟩ := sN_eq hs (show k < 8 by omega)
    have lb := barA_le hT k
    rw [pc_barOf e2.1.1 hT hk, pw_some, S1.2.2.2 k (by omega), es, max0n (by omega) (by omega)]
    have c8 : cT (mi_wI m1 20 0 k (n32 (sN S k - barA T k))) c T cd := e2.mv (kp.rf.wI (P := fun k i p => k = 20) rfl) (fun k j p a b => by unfold cTk at b; omega)
    have S8 : cSt (mi_wI m1 20 0 k (n32 (sN S k - barA T k))) 0 S := S1.mv (kp.rf.wI (P := fun k i p => k = 20) rfl) (fun k j p a b d => by omega)
    rw [S8.2.2.2 k (by omega), S8.1.1, rI_eq, es, n32_sub (by omega), show sN S k - (sN S k - barA T k) = min (sN S k) (barA T k) by omega]
    refine ⟨by omega, by omega, by omega, pw_mono (pc_burns c8 hk) ?_⟩
    rintro ⟨v, m2⟩ ⟨b1, b2, b3⟩
    simp only at b1 b2 b3
    refine ⟨by omega, hk, by trivial, b2.mv (kp.rf.wI (P := fun k i p => k = 21) rfl) (fun k j p a b => by unfold cTk at b; omega), fun w hw => ?_, ((e4.wI (Or.inr (Or.inl rfl))).tr (b3.mo (fun k i p a => Or.inl a))).wI (Or.inr (Or.inr rfl))⟩
    by_cases ew : w = k
    · subst ew
      rw [rI_ne (by omega), b3.1 20 0 w (by omega), rI_eq, rI_eq, b1]
      exact ⟨rfl, rfl⟩
    · rw [rI_ne (by omega), rI_ne (by omega), b3.1 20 0 w (by omega), b3.1 21 0 w (by omega), rI_ne (by omega), rI_ne (by omega)]
      exact e3 w (by omega)
/-- what one spends for the wrongs of a set below n -/
def spN (T : Nat → Nat) (S : Nat → Int32) (s p : Nat) : Nat → Nat
  | 0 => 0
  | n + 1 => spN T S s p n + (if s.testBit n = true ∧ byA T n = p then prW T S n else 0)
theorem spN_mono {T : Nat → Nat} {S : Nat → Int32} {s p : Nat} : ∀ {n m : Nat}, n ≤ m → spN T S s p n ≤ spN T S s p m
  | n, 0, h => by rw [show n = 0 by omega]; exact Nat.le_refl _
  | n, m + 1, h => by
    by_cases e : n = m + 1
    · rw [e]; exact Nat.le_refl _
    · have := spN_mono (T := T) (S := S) (s := s) (p := p) (show n ≤ m by omega)
      show _ ≤ spN T S s p m + _
      omega
theorem spN_le {T : Nat → Nat} {S : Nat → Int32} {s p : Nat} (hT : tOK T) (hs : sOK T S) : ∀ {n : Nat}, n ≤ 8 → spN T S s p n ≤ n * 99
  | 0, _ => Nat.le_refl _
  | n + 1, h => by
    have ih := spN_le (s := s) (p := p) hT hs (show n ≤ 8 by omega)
    have := (sN_eq hs (show n < 8 by omega)).2
    show spN T S s p n + _ ≤ _
    unfold prW
    split <;> omega
def cstN (T : Nat → Nat) (S : Nat → Int32) (s : Nat) : Nat → Nat := sumN (fun w => if s.testBit w then prW T S w else 0)
theorem cstN_le {T : Nat → Nat} {S : Nat → Int32} {s n : Nat} (hs : sOK T S) (hn : n ≤ 8) : cstN T S s n ≤ 792 := by
  have := sumN_le (f := fun w => if s.testBit w then prW T S w else 0) (K := 99) (n := n) (fun w hw => by
    have := (sN_eq hs (show w < 8 by omega)).2
    unfold prW
    split <;> omega)
  have h2 : n * 99 ≤ 8 * 99 := Nat.mul_le_mul_right _ hn
  unfold cstN
  omega
/-- each of the set can be paid for, one behind another -/
def pyP (T : Nat → Nat) (S : Nat → Int32) (s w : Nat) : Bool := !s.testBit w || (decide (S (22 + w) = 0) && decide (spN T S s (byA T w) (w + 1) ≤ cN S (byA T w)))
def pyB (T : Nat → Nat) (S : Nat → Int32) (s : Nat) : Bool := alB (pyP T S s) (T 2)
theorem alB_iff {P : Nat → Bool} : ∀ {n : Nat}, alB P n = true ↔ ∀ k, k < n → P k = true
  | 0 => ⟨fun _ k hk => absurd hk (by omega), fun _ => rfl⟩
  | n + 1 => by
    unfold alB
    rw [Bool.and_eq_true, alB_iff]
    refine ⟨fun h k hk => ?_, fun h => ⟨fun k hk => h k (by omega), h n (by omega)⟩⟩
    by_cases e : k = n
    · rw [e]; exact h.2
    · exact h.1 k (by omega)
theorem py_iff {T : Nat → Nat} {S : Nat → Int32} {s : Nat} (hT : tOK T) : pyB T S s = true ↔ (∀ w, w < T 2 → s.testBit w = true → S (22 + w) = 0) ∧ ∀ p, p < T 0 → spN T S s p (T 2) ≤ cN S p := by
  unfold pyB
  rw [alB_iff]
  refine ⟨fun h => ⟨fun w hw hb => ?_, fun p hp => ?_⟩, fun h w hw => ?_⟩
  · have := h w hw
    unfold pyP at this
    rw [hb] at this
    simp at this
    exact this.1
  · have key : ∀ n, n ≤ T 2 → spN T S s p n ≤ cN S p := by
      intro n
      induction n with
      | zero => intro _; exact Nat.zero_le _
      | succ n ih =>
        intro hn
        have i1 := ih (by omega)
        by_cases e : s.testBit n = true ∧ byA T n = p
        · have := h n (by omega)
          unfold pyP at this
          rw [e.1, e.2] at this
          simp at this
          exact this.2
        · show spN T S s p n + _ ≤ _
          rw [if_neg e]
          omega
    exact key (T 2) (Nat.le_refl _)
  · unfold pyP
    by_cases hb : s.testBit w = true
    · rw [hb]
      have a1 := h.1 w hw hb
      have a2 := h.2 (byA T w) (hT.2.2.1 w hw).1
      have a3 := spN_mono (T := T) (S := S) (s := s) (p := byA T w) (show w + 1 ≤ T 2 by omega)
      simp [a1]
      omega
    · have hb : s.testBit w = false := by simpa using hb
      rw [hb]
      rfl
theorem and_0 : ∀ s, s < 256 → ∀ f, f < 256 → ((n32 s &&& n32 f) = 0 ↔ s &&& f = 0) := by
  intro s hs f hf
  rw [n32_and, show (0 : Int32) = n32 0 from rfl]
  have : s &&& f ≤ s := Nat.and_le_left
  exact n32_eq (by omega) (by omega)
theorem and_tb {s f : Nat} : s &&& f = 0 ↔ ∀ w, s.testBit w = true → f.testBit w = false := by
  refine ⟨fun h w hw => ?_, fun h => ?_⟩
  · have : (s &&& f).testBit w = false := by rw [h]; simp
    rw [Nat.testBit_and, hw] at this
    simpa using this
  · apply Nat.eq_of_testBit_eq
    intro i
    rw [Nat.testBit_and]
    cases hs : s.testBit i
    · simp
    · rw [h i hs]; simp
theorem pc_forg {T : Nat → Nat} {S : Nat → Int32} {s : Nat} (hs : sOK T S) (hT : tOK T) (hS : s < 2 ^ T 2) : s &&& bs (fun w => S (22 + w) == 1) 8 = 0 ↔ ∀ w, w < T 2 → s.testBit w = true → S (22 + w) = 0 := by
  have h82 := hT.1.2.1
  rw [and_tb]
  refine ⟨fun h w hw hb => ?_, fun h w hb => ?_⟩
  · have := h w hb
    rw [bs_tb] at this
    rcases (hs.2.2.2.2.1 w (by omega)).1 with e | e
    · exact e
    · rw [e] at this; simp at this; omega
  · have hw : w < T 2 := by
      by_cases q : w < T 2
      · exact q
      · have := Nat.testBit_lt_two_pow (Nat.lt_of_lt_of_le hS (Nat.pow_le_pow_right (show 0 < 2 by omega) (show T 2 ≤ w by omega)))
        rw [this] at hb; cases hb
    rw [bs_tb, h w hw hb]
    simp
/-- lamps that would burn by a set -/
def bbA (T : Nat → Nat) (cd : Nat → List Int32) (S : Nat → Int32) (s : Nat) : Nat → Nat
  | 0 => lsA S 0
  | n + 1 => if s.testBit n = true ∧ 0 < loW T cd S n then bbA T cd S s n ||| 2 ^ toA T n else bbA T cd S s n
theorem bbA_lt {T : Nat → Nat} {cd : Nat → List Int32} {S : Nat → Int32} {s : Nat} (hT : tOK T) : ∀ n, n ≤ T 2 → bbA T cd S s n < 64
  | 0, _ => lsA_lt S 0
  | n + 1, h => by
    have ih := bbA_lt (cd := cd) (S := S) (s := s) hT n (by omega)
    have h60 := hT.1.1
    have ht := (hT.2.2.1 n (by omega)).2.1
    unfold bbA
    split
    · exact Nat.or_lt_two_pow (n := 6) ih (Nat.pow_lt_pow_right (by omega) (by omega))
    · exact ih
def lessO (o : Option (Nat × Nat)) (x : Nat) : Bool := match o with
  | none => true
  | some v => decide (x < v.1)
def pyA (T : Nat → Nat) (cd : Nat → List Int32) (S : Nat → Int32) (i j : Nat) : Nat → Option (Nat × Nat)
  | 0 => none
  | s + 1 => if pyB T S s = true ∧ lessO (pyA T cd S i j s) (cstN T S s (T 2)) = true ∧ cst T (bbA T cd S s (T 2)) i j < 1024 then some (cstN T S s (T 2), s) else pyA T cd S i j s
theorem pyA_lt {T : Nat → Nat} {cd : Nat → List Int32} {S : Nat → Int32} {i j : Nat} (hT : tOK T) (hs : sOK T S) : ∀ s v, pyA T cd S i j s = some v → v.1 ≤ 792 ∧ v.2 < s
  | 0, v, h => by cases h
  | s + 1, v, h => by
    unfold pyA at h
    split at h
    · cases h
      exact ⟨cstN_le hs hT.1.2.1, by show s < s + 1; omega⟩
    · have := pyA_lt hT hs s v h
      exact ⟨this.1, by omega⟩
def o1 (o : Option (Nat × Nat)) : Int32 := match o with
  | none => -1
  | some v => n32 v.1
def o2 (o : Option (Nat × Nat)) : Int32 := match o with
  | none => -1
  | some v => n32 v.2
theorem pc_afford {m : mi_M} {T : Nat → Nat} {cd : Nat → List Int32} {c s : Nat} {S : Nat → Int32} (h : cT m c T cd) (hS : cSt m 0 S) (hs : sOK T S) (hw : WP m T cd S) (hf : ∀ w, w < T 2 → s.testBit w = true → S (22 + w) = 0) : wo (f_X2_areAfforded c 0 (n32 s) m) (fun r => r.1 = (if pyB T S s then 1 else 0) ∧ kp (fun k _ _ => k = 22) m r.2) := by
  have hT := h.1.2.1
  have h82 := hT.1.2.1
  have h60 := hT.1.1
  unfold f_X2_areAfforded
  rw [pw_bo]
  refine pl_for (fun k s => s.1 = n32 k ∧ (∀ p, p < k → s.2.1 22 0 p = 0) ∧ kp (fun k _ _ => k = 22) m s.2) (T 0) (by omega) ⟨rfl, fun w hw => absurd hw (by omega), kp.rf⟩ ?_
  rintro k ⟨l21, m1⟩ hk ⟨e1, e3, e4⟩
  simp only at e1 e3 e4
  subst e1
  have c1 : cT m1 c T cd := h.mv e4 (fun k j p a b => by unfold cTk at b; omega)
  unfold f_X2_areAfforded_B3
  simp (disch := omega) only [pw_if, pw_some, pw_g, pw_let, c1.1.1.1.1, n32_le, lr_r, lr_l, n32_in, n32_cl, n32_al]
  refine ⟨fun hz => ?_, fun hz => ⟨by omega, by omega, by trivial, fun p hp => ?_, e4.wI rfl⟩⟩
  · have : k = T 0 := by omega
    subst this
    unfold f_X2_areAfforded_K3
    rw [pw_bo]
    refine pl_for (fun k s' => s'.1 = n32 k ∧ (∀ p, p < T 0 → s'.2.1 22 0 p = n32 (spN T S s p k)) ∧ kp (fun k _ _ => k = 22) m s'.2) (T 2) (by omega) ⟨rfl, fun p hp => e3 p hp, e4⟩ ?_
    clear e3 e4 c1 m1
    rintro k ⟨l10, m1⟩ hk ⟨e1, e3, e4⟩
    simp only at e1 e3 e4
    subst e1
    have c1 : cT m1 c T cd := h.mv e4 (fun k j p a b => by unfold cTk at b; omega)
    have w1 : WP m1 T cd S := hw.mv e4 (fun k i p a => by omega)
    unfold f_X2_areAfforded_B29 f_X2_areAfforded_J69
    simp (disch := omega) only [pw_if, pw_some, pw_g, pw_let, pw_bo, pc_holds, c1.1.1.1.2.1, n32_le, lr_r, lr_l, n32_in, n32_cl, n32_al]
    refine ⟨fun hz => ?_, fun hz => ?_⟩
    · have : k = T 2 := by omega
      subst this
      unfold f_X2_areAfforded_K29
      rw [pw_bo]
      have fl := py_iff (S := S) (s := s) hT
      refine pl_for (fun k s' => s' = n32 k ∧ ∀ p, p < k → spN T S s p (T 2) ≤ cN S p) (T 0) (by omega) ⟨rfl, fun p hp => absurd hp (by omega)⟩ ?_
      rintro k l5 hk ⟨e1, e5⟩
      subst e1
      unfold f_X2_areAfforded_B78
      simp (disch := omega) only [pw_if, pw_some, pw_g, c1.1.1.1.1, n32_le, lr_r, lr_l, n32_in, n32_cl, n32_al]
      refine ⟨fun hy => ?_, fun hy => ⟨by omega, by omega, ?_⟩⟩
      · unfold f_X2_areAfforded_K78
        simp only [pw_g, pw_some]
        refine ⟨by decide, ?_, e4⟩
        rw [fl.mpr ⟨hf, fun p hp => e5 p (by omega)⟩]
        rfl
      · obtain ⟨ec, lc⟩ := cN_eq hs (show k < 6 by omega)
        have ls := spN_le (s := s) (p := k) hT hs (n := T 2) (by omega)
        rw [e3 k (by omega), e4.1 36 0 k (by omega), hS.2.2.1 k (by omega), ec, n32_le (by omega) (by omega)]
        refine ⟨fun x => ⟨by omega, by trivial, fun p hp => ?_⟩, fun x => ?_⟩
        · by_cases ep : p = k
          · rw [ep]; exact x
          · exact e5 p (by omega)
        · unfold f_X2_areAfforded_K78
          simp only [pw_g, pw_some]
          refine ⟨by decide, ?_, e4⟩
          have : ¬ pyB T S s = true := fun z => x ((fl.mp z).2 k (by omega))
          rw [if_neg this]
    · have hk : k < T 2 := by omega
      obtain ⟨b1, b2, b3, b4, b5⟩ := hT.2.2.1 k hk
      have es : ∀ p, spN T S s p (k + 1) = spN T S s p k + (if s.testBit k = true ∧ byA T k = p then prW T S k else 0) := fun p => rfl
      cases ht : s.testBit k with
      | false =>
        refine ⟨fun _ => ⟨hk, by trivial, fun p hp => ?_, e4⟩, fun x => absurd (by simp) x⟩
        rw [e3 p hp, es, ht]
        simp
      | true =>
        refine ⟨fun x => absurd x (by simp), fun _ => ?_⟩
        rw [(c1.1.1.2.2.1 k hk).1]
        simp (disch := omega) only [n32_in, n32_cl, (w1 k hk).1, e3 (byA T k) b1, n32_add]
        refine ⟨by omega, by omega, by omega, by omega, hk, by trivial, fun p hp => ?_, e4.wI rfl⟩
        rw [rI, es, ht]
        by_cases ep : p = byA T k
        · subst ep
          rw [if_pos ⟨rfl, rfl, rfl⟩, if_pos ⟨rfl, rfl⟩]
        · rw [if_neg (fun x => ep x.2.2), if_neg (fun x => ep x.2.symm), e3 p hp, Nat.add_zero]
  · rw [rI]
    by_cases ep : p = k
    · subst ep
      rw [if_pos ⟨rfl, rfl, rfl⟩]
    · rw [if_neg (fun x => ep x.2.2)]; exact e3 p (by omega)
theorem pc_coinsFor {m : mi_M} {T : Nat → Nat} {cd : Nat → List Int32} {c s : Nat} {S : Nat → Int32} (h : cT m c T cd) (hw : WP m T cd S) : f_X2_coinsFor c (n32 s) m = some (n32 (cstN T S s (T 2))) := by
  have hT := h.1.2.1
  have h82 := hT.1.2.1
  unfold f_X2_coinsFor
  apply pw_eq
  rw [pw_bo]
  refine pl_for (fun k s' => s' = (n32 (cstN T S s k), n32 k)) (T 2) (by omega) rfl ?_
  rintro k s' hk rfl
  unfold f_X2_coinsFor_B5 f_X2_coinsFor_J33
  simp (disch := omega) only [pw_if, pw_some, pw_g, pw_let, pw_bo, pc_holds, h.1.1.1.2.1, n32_le, lr_r, lr_l, n32_in, n32_cl, n32_al]
  have es : cstN T S s (k + 1) = cstN T S s k + (if s.testBit k then prW T S k else 0) := rfl
  refine ⟨fun hx => ?_, fun hx => ?_⟩
  · have : k = T 2 := by omega
    subst this
    unfold f_X2_coinsFor_K5
    rw [pw_some]
  · rw [es]
    cases ht : s.testBit k with
    | false => exact ⟨fun _ => ⟨by omega, by simp⟩, fun x => absurd (by simp) x⟩
    | true =>
      refine ⟨fun x => absurd x (by simp), fun _ => ⟨by omega, by omega, ?_⟩⟩
      rw [(hw k (by omega)).1, n32_add]
      simp
theorem bb_or {a b : Nat} (hb : b < 31) : n32 a ||| (1 : Int32) <<< (n32 b &&& 31) = n32 (a ||| 2 ^ b) := by
  rw [sh_1 hb, n32_or]
theorem pc_burningBy {m : mi_M} {T : Nat → Nat} {cd : Nat → List Int32} {c s : Nat} {S : Nat → Int32} (h : cT m c T cd) (hS : cSt m 0 S) (hw : WP m T cd S) : f_X2_burningBy c 0 (n32 s) m = some (n32 (bbA T cd S s (T 2))) := by
  have hT := h.1.2.1
  have h82 := hT.1.2.1
  have h60 := hT.1.1
  unfold f_X2_burningBy
  rw [show f_X5_burningBehind 0 0 m = _ from pc_burning (n := 0) hS, pe_bo]
  apply pw_eq
  rw [pw_bo]
  refine pl_for (fun k s' => s' = (n32 (bbA T cd S s k), n32 k)) (T 2) (by omega) rfl ?_
  rintro k s' hk rfl
  unfold f_X2_burningBy_B10 f_X2_burningBy_J52
  simp (disch := omega) only [pw_if, pw_some, pw_g, pw_let, pw_bo, pc_holds, h.1.1.1.2.1, n32_le, lr_r, lr_l, n32_in, n32_cl, n32_al]
  have es : bbA T cd S s (k + 1) = if s.testBit k = true ∧ 0 < loW T cd S k then bbA T cd S s k ||| 2 ^ toA T k else bbA T cd S s k := rfl
  refine ⟨fun hx => ?_, fun hx => ?_⟩
  · have : k = T 2 := by omega
    subst this
    unfold f_X2_burningBy_K10
    rw [pw_some]
  · have hk : k < T 2 := by omega
    obtain ⟨b1, b2, b3, b4, b5⟩ := hT.2.2.1 k hk
    rw [es, (hw k hk).2, (h.1.1.2.2.1 k hk).2.1]
    cases ht : s.testBit k with
    | false => exact ⟨fun _ => ⟨hk, by simp⟩, fun x => absurd (by simp) x⟩
    | true =>
      refine ⟨fun x => absurd x (by simp), fun _ => ⟨by omega, fun x => ⟨hk, ?_⟩, fun x => ⟨by omega, hk, ?_⟩⟩⟩
      · rw [if_neg (fun z => absurd z.2 (i32_nlt.mpr x))]
      · rw [if_pos ⟨rfl, i32_nle.mp x⟩, bb_or (by omega)]
theorem pc_pay {mem : mi_M} {T : Nat → Nat} {cd : Nat → List Int32} {c i j w : Nat} {S : Nat → Int32} (h2 : cT mem c T cd) (hc : cSt mem 0 S) (hs : sOK T S) (hi : i < 6) (hj : j < 6) (hw : w < 2) : wo (f_X2_fewestCoins c 0 (n32 i) (n32 j) (n32 w) mem) (fun r => r.1 = (if w = 0 then o1 (pyA T cd S i j (2 ^ T 2)) else o2 (pyA T cd S i j (2 ^ T 2))) ∧ cT r.2 c T cd ∧ kp (fun k i _ => pXc c k i) mem r.2) := by
  have hT := h2.1.2.1
  have h82 := hT.1.2.1
  have h256 := pow8 h82
  unfold f_X2_fewestCoins
  rw [pw_bo]
  refine pw_mono (pc_weigh h2 hc hs) ?_
  rintro m1 ⟨a1, a2, a3⟩
  simp (disch := omega) only [pw_g, pw_let, pw_bo, n32_lin, n32_lcl]
  refine ⟨by omega, by omega, ?_⟩
  have k0 : kp (fun k i _ => pXc c k i) mem (mi_wI (mi_wI m1 27 0 0 (-1)) 27 0 1 (-1)) := ((a3.mo (fun k i p a => by omega)).wI (by omega)).wI (by omega)
  have kq : kp (fun k i _ => k = 27) m1 (mi_wI (mi_wI m1 27 0 0 (-1)) 27 0 1 (-1)) := (kp.rf.wI rfl).wI rfl
  refine pl_for (fun k s => s.1 = n32 k ∧ cT s.2 c T cd ∧ WP s.2 T cd S ∧ s.2.1 27 0 0 = o1 (pyA T cd S i j k) ∧ s.2.1 27 0 1 = o2 (pyA T cd S i j k) ∧ kp (fun k i _ => pXc c k i) mem s.2) (2 ^ T 2) (by omega) ⟨rfl, a1.mv kq (fun k j p a b => by unfold cTk at b; omega), a2.mv kq (fun k i p a => by omega), by rw [rI_ne (by omega), rI_eq]; rfl, by rw [rI_eq]; rfl, k0⟩ ?_
  clear k0 kq a1 a2 a3 m1
  rintro k ⟨l8, m1⟩ hk ⟨e1, e2, e3, e4, e5, e6⟩
  simp only at e1 e2 e3 e4 e5 e6
  subst e1
  have S1 : cSt m1 0 S := hc.mv e6 (fun k j p a b d => by omega)
  unfold f_X2_fewestCoins_B23
  simp (disch := omega) only [sh_1, pw_if, pw_some, e2.1.1.1.2.1, n32_le, lr_r]
  refine ⟨fun hz => ?_, fun hz => ?_⟩
  · have : k = 2 ^ T 2 := by omega
    subst this
    unfold f_X2_fewestCoins_K23
    simp (disch := omega) only [pw_g, pw_some, n32_in, n32_cl]
    refine ⟨by omega, ?_, e2, e6⟩
    have : w = 0 ∨ w = 1 := by omega
    rcases this with rfl | rfl
    · rw [if_pos rfl]; exact e4
    · rw [if_neg (by omega)]; exact e5
  · have hk : k < 2 ^ T 2 := by omega
    have es : pyA T cd S i j (k + 1) = if pyB T S k = true ∧ lessO (pyA T cd S i j k) (cstN T S k (T 2)) = true ∧ cst T (bbA T cd S k (T 2)) i j < 1024 then some (cstN T S k (T 2), k) else pyA T cd S i j k := rfl
    have bf : bs (fun w => S (22 + w) == 1) 8 < 256 := bs_lt _ 8
    have skip : ∀ m3, pyA T cd S i j (k + 1) = pyA T cd S i j k → cT m3 c T cd → WP m3 T cd S → m3.1 27 0 0 = o1 (pyA T cd S i j k) → m3.1 27 0 1 = o2 (pyA T cd S i j k) → kp (fun k i _ => pXc c k i) mem m3 → wo (f_X2_fewestCoins_J125 (n32 k) m3) (lr (fun s' => k < 2 ^ T 2 ∧ s'.1 = n32 (k + 1) ∧ cT s'.2 c T cd ∧ WP s'.2 T cd S ∧ s'.2.1 27 0 0 = o1 (pyA T cd S i j (k + 1)) ∧ s'.2.1 27 0 1 = o2 (pyA T cd S i j (k + 1)) ∧ kp (fun k i _ => pXc c k i) mem s'.2) (fun e => wo (f_X2_fewestCoins_K23 (n32 w) e) (fun r => r.1 = (if w = 0 then o1 (pyA T cd S i j (2 ^ T 2)) else o2 (pyA T cd S i j (2 ^ T 2))) ∧ cT r.2 c T cd ∧ kp (fun k i _ => pXc c k i) mem r.2))) := by
      intro m3 he t3 w3 z0 z1 k3
      unfold f_X2_fewestCoins_J125
      rw [pw_some, lr_l, he]
      exact ⟨hk, by rw [n32_al], t3, w3, z0, z1, k3⟩
    rw [S1.1.2.2.1, and_0 k (by omega) _ bf, pc_forg hs hT hk]
    refine ⟨fun hf => ?_, fun hf => skip m1 ?_ e2 e3 e4 e5 e6⟩
    · rw [pw_b]
      refine pw_mono (pc_afford (s := k) e2 S1 hs e3 hf) ?_
      rintro ⟨v, m2⟩ ⟨b1, b3⟩
      simp only at b1 b3
      have t2 : cT m2 c T cd := e2.mv b3 (fun k j p a b => by unfold cTk at b; omega)
      have w2 : WP m2 T cd S := e3.mv b3 (fun k i p a => by omega)
      have S2 : cSt m2 0 S := S1.mv b3 (fun k j p a b d => by omega)
      have z0 : m2.1 27 0 0 = o1 (pyA T cd S i j k) := by rw [b3.1 27 0 0 (by omega)]; exact e4
      have z1 : m2.1 27 0 1 = o2 (pyA T cd S i j k) := by rw [b3.1 27 0 1 (by omega)]; exact e5
      have k2 : kp (fun k i _ => pXc c k i) mem m2 := e6.tr (b3.mo (fun k i p a => by omega))
      by_cases hb : pyB T S k = true
      · rw [if_pos hb] at b1
        subst b1
        rw [if_neg (show ¬ (1 : Int32) = 0 by decide), pc_coinsFor (s := k) t2 w2, pe_bo]
        have lc := cstN_le (T := T) (s := k) hs h82
        have j88 : lessO (pyA T cd S i j k) (cstN T S k (T 2)) = true → wo (f_X2_fewestCoins_J88 c 0 (n32 i) (n32 j) (n32 k) m2 (n32 (cstN T S k (T 2)))) (lr (fun s' => k < 2 ^ T 2 ∧ s'.1 = n32 (k + 1) ∧ cT s'.2 c T cd ∧ WP s'.2 T cd S ∧ s'.2.1 27 0 0 = o1 (pyA T cd S i j (k + 1)) ∧ s'.2.1 27 0 1 = o2 (pyA T cd S i j (k + 1)) ∧ kp (fun k i _ => pXc c k i) mem s'.2) (fun e => wo (f_X2_fewestCoins_K23 (n32 w) e) (fun r => r.1 = (if w = 0 then o1 (pyA T cd S i j (2 ^ T 2)) else o2 (pyA T cd S i j (2 ^ T 2))) ∧ cT r.2 c T cd ∧ kp (fun k i _ => pXc c k i) mem r.2))) := by
          intro hm
          unfold f_X2_fewestCoins_J88
          rw [pc_burningBy (s := k) t2 S2 w2, pe_bo, pw_b]
          refine pw_mono (pc_isLit t2 (bbA_lt hT (T 2) (Nat.le_refl _)) hi hj) ?_
          rintro ⟨v, m3⟩ ⟨d1, d2, d3⟩
          simp only at d1 d2 d3
          by_cases hl : cst T (bbA T cd S k (T 2)) i j < 1024
          · rw [if_pos hl] at d1
            subst d1
            rw [if_neg (show ¬ (1 : Int32) = 0 by decide)]
            simp (disch := omega) only [pw_g, pw_let, n32_lin, n32_lcl]
            refine ⟨by omega, by omega, ?_⟩
            unfold f_X2_fewestCoins_J125
            rw [pw_some, lr_l, es, if_pos ⟨hb, hm, hl⟩]
            have kq : kp (fun k i _ => k = 27) m3 (mi_wI (mi_wI m3 27 0 0 (n32 (cstN T S k (T 2)))) 27 0 1 (n32 k)) := (kp.rf.wI rfl).wI rfl
            exact ⟨hk, by rw [n32_al], d2.mv kq (fun k j p a b => by unfold cTk at b; omega), (w2.mv d3 (fun k i p a => by omega)).mv kq (fun k i p a => by omega), by rw [rI_ne (by omega), rI_eq]; rfl, by rw [rI_eq]; rfl, (k2.tr (d3.mo (fun k i p a => Or.inl a))).tr (kq.mo (fun k i p a => by omega))⟩
          · rw [if_neg hl] at d1
            subst d1
            rw [if_pos (show (0 : Int32) = 0 from rfl)]
            refine skip m3 ?_ d2 (w2.mv d3 (fun k i p a => by omega)) ?_ ?_ (k2.tr (d3.mo (fun k i p a => Or.inl a)))
            · rw [es, if_neg (fun x => hl x.2.2)]
            · rw [d3.1 27 0 0 (by omega)]; exact z0
            · rw [d3.1 27 0 1 (by omega)]; exact z1
        simp (disch := omega) only [pw_g, pw_if, n32_lin, n32_lcl, z0]
        refine ⟨by omega, fun x => j88 ?_, fun x => ⟨by omega, fun z => skip m2 ?_ t2 w2 z0 z1 k2, fun z => j88 ?_⟩⟩
        · cases hp : pyA T cd S i j k with
          | none => rfl
          | some v =>
            rw [hp] at x
            have := (pyA_lt (cd := cd) hT hs k v hp).1
            exact absurd x (n32_eqN (by omega)).mp
        · cases hp : pyA T cd S i j k with
          | none => rw [hp] at x; exact absurd rfl x
          | some v =>
            rw [hp] at z
            have lv := (pyA_lt (cd := cd) hT hs k v hp).1
            have z : n32 v.1 ≤ n32 (cstN T S k (T 2)) := z
            rw [n32_le (by omega) (by omega)] at z
            rw [es, hp, if_neg]
            rintro ⟨-, y, -⟩
            have y : cstN T S k (T 2) < v.1 := of_decide_eq_true y
            omega
        · cases hp : pyA T cd S i j k with
          | none => rfl
          | some v =>
            rw [hp] at z
            have lv := (pyA_lt (cd := cd) hT hs k v hp).1
            have z : ¬ n32 v.1 ≤ n32 (cstN T S k (T 2)) := z
            rw [n32_le (by omega) (by omega)] at z
            exact decide_eq_true (show cstN T S k (T 2) < v.1 by omega)
      · rw [if_neg hb] at b1
        subst b1
        rw [if_pos (show (0 : Int32) = 0 from rfl)]
        refine skip m2 ?_ t2 w2 z0 z1 k2
        rw [es, if_neg (fun x => hb x.1)]
    · rw [es, if_neg]
      rintro ⟨x, -⟩
      exact hf ((py_iff hT).mp x).1
