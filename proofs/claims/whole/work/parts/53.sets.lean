/-! ===== sets, look: the developers' side ===== -/
theorem part_g {s b : Nat} (hs : s < 256) : (n32 s &&& (n32 b ^^^ (-1 : Int32))) = 0 ↔ ∀ w, s.testBit w = true → b.testBit w = true := by
  have hx : ∀ i, (n32 s &&& (n32 b ^^^ (-1 : Int32))).toBitVec.getLsbD i = (decide (i < 32) && (s.testBit i && !b.testBit i)) := by
    intro i
    have e : (n32 s &&& (n32 b ^^^ (-1 : Int32))).toBitVec = (n32 s).toBitVec &&& ((n32 b).toBitVec ^^^ BitVec.allOnes 32) := rfl
    rw [e, BitVec.getLsbD_and, BitVec.getLsbD_xor, n32_bv, n32_bv, BitVec.getLsbD_allOnes]
    cases decide (i < 32) <;> simp
  refine ⟨fun h w hw => ?_, fun h => ?_⟩
  · have h2 := hx w
    rw [h] at h2
    have hw32 : w < 32 := by
      by_cases q : w < 32
      · exact q
      · have := Nat.testBit_lt_two_pow (Nat.lt_of_lt_of_le (show s < 2 ^ 8 from hs) (Nat.pow_le_pow_right (show 0 < 2 by omega) (show 8 ≤ w by omega)))
        rw [this] at hw; cases hw
    have z : (0 : Int32).toBitVec.getLsbD w = false := by
      show (0#32).getLsbD w = false
      simp
    rw [z, hw] at h2
    simp [hw32] at h2
    exact h2
  · apply Int32.toBitVec_inj.mp
    apply BitVec.eq_of_getLsbD_eq
    intro i hi
    rw [hx i]
    have z : (0 : Int32).toBitVec.getLsbD i = false := by
      show (0#32).getLsbD i = false
      simp
    rw [z]
    cases hsb : s.testBit i
    · simp
    · rw [h i hsb]; simp
def rpB (T : Nat → Nat) (S : Nat → Int32) (w : Nat) : Bool := decide (S (22 + w) = 0 ∧ S (14 + w) ≤ n32 (barA T w))
def rpS (T : Nat → Nat) (S : Nat → Int32) : Nat := bs (rpB T S) (T 2)
theorem pc_ripeWrongs {m : mi_M} {T : Nat → Nat} {cd : Nat → List Int32} {c : Nat} {S : Nat → Int32} (h : cT m c T cd) (hS : cSt m 0 S) (hs : sOK T S) : f_X2_ripeWrongs c 0 m = some (n32 (rpS T S)) := by
  have hT := h.1.2.1
  have h82 := hT.1.2.1
  unfold f_X2_ripeWrongs
  apply pw_eq
  rw [pw_bo]
  refine pl_for (fun k s' => s' = (n32 (bs (rpB T S) k), n32 k)) (T 2) (by omega) rfl ?_
  rintro k s' hk rfl
  unfold f_X2_ripeWrongs_B4 f_X2_ripeWrongs_J27
  simp (disch := omega) only [pw_if, pw_some, pw_let, pw_bo, h.1.1.1.2.1, n32_le, lr_r, lr_l, n32_al]
  refine ⟨fun hx => ?_, fun hx => ?_⟩
  · have : k = T 2 := by omega
    subst this
    unfold f_X2_ripeWrongs_K4
    rw [pw_some]
    rfl
  · rw [pc_isRipe h.1.1 hT hS hs (show k < T 2 by omega), pw_some]
    by_cases hr : S (22 + k) = 0 ∧ S (14 + k) ≤ n32 (barA T k)
    · rw [if_pos hr]
      refine ⟨fun x => absurd x (by decide), fun _ => ⟨by omega, ?_⟩⟩
      rw [bs_or (P := rpB T S) (by omega) (decide_eq_true hr)]
    · rw [if_neg hr]
      refine ⟨fun _ => ⟨by omega, ?_⟩, fun x => absurd (by trivial) x⟩
      rw [bs_no (P := rpB T S) (decide_eq_false hr)]
/-- the lamps by a set -/
def lmA (T : Nat → Nat) (cd : Nat → List Int32) (S : Nat → Int32) (s : Nat) : Nat → Nat → Int32
  | 0 => fun p => S (2 + p)
  | n + 1 => if s.testBit n = true then fu (lmA T cd S s n) (toA T n) (clA 0 99 (lmA T cd S s n (toA T n) + loW T cd S n)) else lmA T cd S s n
theorem lmA_n {T : Nat → Nat} {cd : Nat → List Int32} {S : Nat → Int32} {s : Nat} (hs : sOK T S) : ∀ n p, p < 6 → ∃ k, k ≤ 99 ∧ lmA T cd S s n p = n32 k
  | 0, p, hp => hs.1 p hp
  | n + 1, p, hp => by
    unfold lmA
    split
    · by_cases e : p = toA T n
      · subst e
        rw [fu_eq]
        exact clA_n (n := 99) (by omega) _
      · rw [fu_ne e]
        exact lmA_n hs n p hp
    · exact lmA_n hs n p hp
theorem lmA_z {T : Nat → Nat} {cd : Nat → List Int32} {S : Nat → Int32} {s : Nat} (hT : tOK T) (hs : sOK T S) : ∀ n p, n ≤ T 2 → p < 6 → T 0 ≤ p → lmA T cd S s n p = 0
  | 0, p, _, hp, hp2 => (hs.2.1 p hp hp2).1
  | n + 1, p, hn, hp, hp2 => by
    have ht := (hT.2.2.1 n (by omega)).2.1
    unfold lmA
    split
    · rw [fu_ne (by omega)]
      exact lmA_z hT hs n p (by omega) hp hp2
    · exact lmA_z hT hs n p (by omega) hp hp2
theorem pc_lightBy {m : mi_M} {T : Nat → Nat} {cd : Nat → List Int32} {c s : Nat} {S : Nat → Int32} (h : cT m c T cd) (hS : cSt m 0 S) (hs : sOK T S) (hw : WP m T cd S) : wo (f_X2_lightBy c 0 (n32 s) m) (fun m' => (∀ p, p < 6 → m'.1 23 0 p = lmA T cd S s (T 2) p) ∧ kp (fun k _ _ => k = 23) m m') := by
  have hT := h.1.2.1
  have h82 := hT.1.2.1
  have h60 := hT.1.1
  unfold f_X2_lightBy
  rw [pw_let, pw_bo]
  refine pl_for (fun k s' => s'.1 = n32 k ∧ (∀ p, p < 6 → s'.2.1 23 0 p = lmA T cd S s k p) ∧ kp (fun k _ _ => k = 23) m s'.2) (T 2) (by omega) ⟨rfl, fun p hp => ?_, ⟨fun k i p hn => ?_, fun _ _ _ _ => rfl, rfl⟩⟩ ?_
  · show (mi_cp m 35 0 23 0 6).1 23 0 p = _
    unfold mi_cp
    simp only
    rw [if_pos ⟨by trivial, by trivial, hp⟩]
    exact hS.2.1 p hp
  · show (mi_cp m 35 0 23 0 6).1 k i p = _
    unfold mi_cp
    simp only
    rw [if_neg (fun x => hn x.1)]
  rintro k ⟨l3, m1⟩ hk ⟨e1, e2, e3⟩
  simp only at e1 e2 e3
  subst e1
  have c1 : cT m1 c T cd := h.mv e3 (fun k j p a b => by unfold cTk at b; omega)
  have w1 : WP m1 T cd S := hw.mv e3 (fun k i p a => by omega)
  have es : lmA T cd S s (k + 1) = if s.testBit k = true then fu (lmA T cd S s k) (toA T k) (clA 0 99 (lmA T cd S s k (toA T k) + loW T cd S k)) else lmA T cd S s k := rfl
  unfold f_X2_lightBy_B18 f_X2_lightBy_J72
  simp (disch := omega) only [pw_if, pw_some, pw_g, pw_let, pw_bo, pc_holds, c1.1.1.1.2.1, n32_le, lr_r, lr_l, n32_in, n32_cl, n32_al]
  refine ⟨fun hx => ?_, fun hx => ?_⟩
  · have : k = T 2 := by omega
    subst this
    unfold f_X2_lightBy_K18
    rw [pw_some]
    exact ⟨e2, e3⟩
  · have hk : k < T 2 := by omega
    obtain ⟨b1, b2, b3, b4, b5⟩ := hT.2.2.1 k hk
    cases ht : s.testBit k with
    | false =>
      refine ⟨fun _ => ⟨hk, by trivial, fun p hp => ?_, e3⟩, fun x => absurd (by simp) x⟩
      rw [e2 p hp, es, ht]
      simp
    | true =>
      refine ⟨fun x => absurd x (by simp), fun _ => ?_⟩
      rw [(c1.1.1.2.2.1 k hk).2.1]
      obtain ⟨ln, hln, eln⟩ := lmA_n (T := T) (cd := cd) (s := s) hs k (toA T k) (by omega)
      obtain ⟨bn, hbn, ebn⟩ := burnA_n (T := T) (cd := cd) (w := k) (sore := n32 (min (sN S k) (barA T k))) (night := S 0)
      have ebn : loW T cd S k = n32 bn := ebn
      simp (disch := omega) only [n32_in, n32_cl, e2 (toA T k) (show toA T k < 6 by omega), (w1 k hk).2, eln, ebn, min99]
      refine ⟨by omega, by omega, by omega, by omega, hk, by trivial, fun p hp => ?_, e3.wI rfl⟩
      rw [rI, es, if_pos ht]
      by_cases ep : p = toA T k
      · subst ep
        rw [if_pos ⟨rfl, rfl, rfl⟩, fu_eq, eln, ebn]
      · rw [if_neg (fun x => ep x.2.2), fu_ne ep]
        exact e2 p hp
/-- what was seen is so -/
def agP (V : Nat → Nat × Nat × Nat) (lm : Nat → Int32) (k : Nat) : Bool := decide (n32 (V k).2.1 < lm (V k).1) == decide ((V k).2.2 = 1)
theorem pc_agree {m : mi_M} {T : Nat → Nat} {n : Nat} {V : Nat → Nat × Nat × Nat} {lm : Nat → Int32} (hn : n ≤ 8) (hT : tOK T) (hV : ∀ k, k < n → (V k).1 < T 0 ∧ (V k).2.1 ≤ 9 ∧ (V k).2.2 ≤ 1) (h : cSi m 0 n V) (hl : ∀ p, p < 6 → m.1 23 0 p = lm p) : f_X4_agreeWith 0 m = some (if alB (agP V lm) n then 1 else 0) := by
  have h60 := hT.1.1
  unfold f_X4_agreeWith
  apply pw_eq
  rw [pw_bo]
  refine pl_for (fun k s' => s' = n32 k ∧ alB (agP V lm) k = true) n (by omega) ⟨rfl, rfl⟩ ?_
  rintro k s' hk ⟨rfl, e2⟩
  unfold f_X4_agreeWith_B2 f_X4_agreeWith_J32
  simp (disch := omega) only [pw_if, pw_some, pw_g, h.1, n32_le, lr_r, lr_l, n32_in, n32_cl, n32_al]
  refine ⟨fun hx => ?_, fun hx => ⟨by omega, ?_⟩⟩
  · have : k = n := by omega
    subst this
    unfold f_X4_agreeWith_K2
    simp only [pw_g, pw_some]
    refine ⟨by decide, ?_⟩
    rw [e2]; rfl
  · have hk : k < n := by omega
    obtain ⟨v1, v2, v3⟩ := hV k hk
    obtain ⟨z1, z2, z3⟩ := h.2 k hk
    rw [z1, z2, z3]
    simp (disch := omega) only [n32_in, n32_cl, hl (V k).1 (show (V k).1 < 6 by omega)]
    have ea : alB (agP V lm) (k + 1) = agP V lm k := by
      show (alB (agP V lm) k && agP V lm k) = _
      rw [e2, Bool.true_and]
    have nxt : agP V lm k = true → k < n ∧ True ∧ alB (agP V lm) (k + 1) = true := fun x => ⟨hk, trivial, by rw [ea]; exact x⟩
    have out : agP V lm k = false → wo (f_X4_agreeWith_K2 (.inl ())) (fun b => b = if alB (agP V lm) n then 1 else 0) := by
      intro x
      unfold f_X4_agreeWith_K2
      simp only [pw_g, pw_some]
      refine ⟨by decide, ?_⟩
      rw [alB_f x hk]; rfl
    have hu : (V k).2.2 = 0 ∨ (V k).2.2 = 1 := by omega
    refine ⟨by omega, by omega, fun x => ⟨by omega, fun y => nxt ?_, fun y => out ?_⟩, fun x => ⟨by omega, fun y => nxt ?_, fun y => out ?_⟩⟩
    · rw [show (0 : Int32) = n32 0 from rfl, n32_eq (by omega) (by omega)] at y
      unfold agP
      rw [decide_eq_false (i32_nlt.mpr x), ← y]; rfl
    · rw [show (0 : Int32) = n32 0 from rfl, n32_eq (by omega) (by omega)] at y
      unfold agP
      rw [decide_eq_false (i32_nlt.mpr x), show (V k).2.2 = 1 by omega]; rfl
    · rw [show (1 : Int32) = n32 1 from rfl, n32_eq (by omega) (by omega)] at y
      unfold agP
      rw [decide_eq_true (i32_nle.mp x), ← y]; rfl
    · rw [show (1 : Int32) = n32 1 from rfl, n32_eq (by omega) (by omega)] at y
      unfold agP
      rw [decide_eq_true (i32_nle.mp x), show (V k).2.2 = 0 by omega]; rfl
theorem pc_countB {m : mi_M} {lm : Nat → Int32} (hl : ∀ p, p < 6 → m.1 23 0 p = lm p) (hn : ∀ p, p < 6 → ∃ k, k ≤ 99 ∧ lm p = n32 k) : wo (f_X2_countBurning m) (fun m' => (∀ q, q < 60 → m'.1 26 0 q = m.1 26 0 q + (if n32 (q % 10) < lm (q / 10) then 1 else 0)) ∧ kp (fun k _ _ => k = 26) m m') := by
  unfold f_X2_countBurning
  rw [pw_bo]
  refine pl_for (fun k s => s.1 = n32 k ∧ (∀ q, q < 60 → s.2.1 26 0 q = m.1 26 0 q + (if q < 10 * k ∧ n32 (q % 10) < lm (q / 10) then 1 else 0)) ∧ kp (fun k _ _ => k = 26) m s.2) 6 (by omega) ⟨rfl, fun q hq => by rw [if_neg (by omega), Int32.add_zero], kp.rf⟩ ?_
  rintro k ⟨l2, m1⟩ hk ⟨e1, e2, e3⟩
  simp only at e1 e2 e3
  subst e1
  unfold f_X2_countBurning_B2
  simp (disch := omega) only [pw_if, pw_some, pw_bo, n32_Lle, lr_r]
  refine ⟨fun hz => ?_, fun hz => ?_⟩
  · have : k = 6 := by omega
    subst this
    unfold f_X2_countBurning_K2
    rw [pw_some]
    refine ⟨fun q hq => ?_, e3⟩
    rw [e2 q hq]
    by_cases ez : n32 (q % 10) < lm (q / 10)
    · rw [if_pos ⟨by omega, ez⟩, if_pos ez]
    · rw [if_neg (fun x => ez x.2), if_neg ez]
  · have hk : k < 6 := by omega
    obtain ⟨L, hL, eL⟩ := hn k hk
    have fin : ∀ m2 t, t ≤ 10 → (L ≤ t ∨ t = 10) → (∀ q, q < 60 → m2.1 26 0 q = m.1 26 0 q + (if (q < 10 * k ∧ n32 (q % 10) < lm (q / 10)) ∨ (q / 10 = k ∧ q % 10 < t ∧ q % 10 < L) then 1 else 0)) → kp (fun k _ _ => k = 26) m m2 → wo (f_X2_countBurning_K10 (n32 k) m2) (lr (fun s' => k < 6 ∧ s'.1 = n32 (k + 1) ∧ (∀ q, q < 60 → s'.2.1 26 0 q = m.1 26 0 q + (if q < 10 * (k + 1) ∧ n32 (q % 10) < lm (q / 10) then 1 else 0)) ∧ kp (fun k _ _ => k = 26) m s'.2) (fun e => wo (f_X2_countBurning_K2 e) (fun m' => (∀ q, q < 60 → m'.1 26 0 q = m.1 26 0 q + (if n32 (q % 10) < lm (q / 10) then 1 else 0)) ∧ kp (fun k _ _ => k = 26) m m'))) := by
      intro m2 t ht hLt hq2 k2
      unfold f_X2_countBurning_K10
      rw [pw_some, lr_l]
      refine ⟨hk, by rw [n32_al], fun q hq => ?_, k2⟩
      show m2.1 26 0 q = _
      rw [hq2 q hq]
      congr 1
      by_cases eq : q / 10 = k
      · have el : n32 (q % 10) < lm (q / 10) ↔ q % 10 < L := by rw [eq, eL, n32_lt (by omega) (by omega)]
        by_cases z : q % 10 < L
        · rw [if_pos (Or.inr ⟨eq, by omega, z⟩), if_pos ⟨by omega, el.mpr z⟩]
        · rw [if_neg (fun x => x.elim (fun x => z (el.mp x.2)) (fun x => z x.2.2)), if_neg (fun x => z (el.mp x.2))]
      · by_cases z : q < 10 * k ∧ n32 (q % 10) < lm (q / 10)
        · rw [if_pos (Or.inl z), if_pos ⟨by omega, z.2⟩]
        · rw [if_neg (fun x => x.elim z (fun x => eq x.1)), if_neg (fun x => z ⟨by omega, x.2⟩)]
    refine pl_for (fun t s => s.1 = n32 t ∧ (∀ q, q < 60 → s.2.1 26 0 q = m.1 26 0 q + (if (q < 10 * k ∧ n32 (q % 10) < lm (q / 10)) ∨ (q / 10 = k ∧ q % 10 < t ∧ q % 10 < L) then 1 else 0)) ∧ t ≤ L ∧ kp (fun k _ _ => k = 26) m s.2) 10 (by omega) ⟨rfl, fun q hq => ?_, by omega, e3⟩ ?_
    · show m1.1 26 0 q = _
      rw [e2 q hq]
      congr 1
      by_cases z : q < 10 * k ∧ n32 (q % 10) < lm (q / 10)
      · rw [if_pos z, if_pos (Or.inl z)]
      · rw [if_neg z, if_neg (fun x => x.elim z (fun x => by omega))]
    clear e2 e3 m1
    rintro t ⟨l5, m1⟩ ht ⟨e1, e2, e4, e3⟩
    simp only at e1 e2 e3
    subst e1
    unfold f_X2_countBurning_B10
    have r23 : m1.1 23 0 k = n32 L := by rw [e3.1 23 0 k (by omega), hl k hk, eL]
    simp (disch := omega) only [pw_if, pw_some, pw_g, pw_let, n32_Lle, lr_r, lr_l, n32_in, n32_cl, n32_al, n32_ml, n32_add, r23, n32_le]
    refine ⟨fun hy => fin m1 t (by omega) (by omega) e2 e3, fun hy => ⟨by omega, fun hx => fin m1 t (by omega) (by omega) e2 e3, fun hx => ⟨by omega, by omega, by omega, by trivial, fun q hq => ?_, by omega, e3.wI rfl⟩⟩⟩
    rw [rI, e2 q hq]
    by_cases eq : q = k * 10 + t
    · subst eq
      rw [if_pos ⟨rfl, rfl, rfl⟩, e2 _ hq, if_neg (by omega), if_pos (Or.inr ⟨by omega, by omega, by omega⟩), Int32.add_zero]
    · rw [if_neg (fun x => eq x.2.2)]
      congr 1
      by_cases z : (q < 10 * k ∧ n32 (q % 10) < lm (q / 10)) ∨ (q / 10 = k ∧ q % 10 < t ∧ q % 10 < L)
      · rw [if_pos z, if_pos (z.elim Or.inl (fun x => Or.inr ⟨x.1, by omega, x.2.2⟩))]
      · rw [if_neg z, if_neg (fun x => z (x.elim Or.inl (fun x => Or.inr ⟨x.1, by omega, x.2.2⟩)))]
