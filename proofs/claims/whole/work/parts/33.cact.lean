/-! ===== the developers' state: what it says, what is done to it ===== -/
theorem i32_nlt {a b : Int32} : ¬ a < b ↔ b ≤ a := by rw [i32_lt, i32_le]; omega
theorem i32_nle {a b : Int32} : ¬ a ≤ b ↔ b < a := by rw [i32_lt, i32_le]; omega
theorem pc_holds {s w : Nat} {m : mi_M} (hw : w < 32) : f_X11_holds (n32 s) (n32 w) m = some (if s.testBit w then 1 else 0) := by
  unfold f_X11_holds f_X11_holds_J13
  simp only [tb_0 hw]
  rw [pe_g (by decide), pe_g (by decide)]
  cases s.testBit w <;> rfl
theorem pc_isForgiven {m : mi_M} {i w : Nat} {S : Nat → Int32} {T : Nat → Nat} (h : cSt m i S) (hs : sOK T S) (hw : w < 8) : f_X5_isForgiven i (n32 w) m = some (S (22 + w)) := by
  unfold f_X5_isForgiven
  rw [h.1.2.2.1, pc_holds (by omega), pe_bo, pe_g01, bs_tb]
  rcases (hs.2.2.2.2.1 w hw).1 with e | e <;> simp [e, hw]
theorem pc_isSaid {m : mi_M} {i w : Nat} {S : Nat → Int32} {T : Nat → Nat} (h : cSt m i S) (hs : sOK T S) (hw : w < 8) : f_X5_isSaid i (n32 w) m = some (S (30 + w)) := by
  unfold f_X5_isSaid
  rw [h.1.2.2.2, pc_holds (by omega), pe_bo, pe_g01, bs_tb]
  rcases (hs.2.2.2.2.1 w hw).2 with e | e <;> simp [e, hw]
theorem pc_barOf {m : mi_M} {c w : Nat} {T : Nat → Nat} (h : cTw m c T) (hT : tOK T) (hw : w < T 2) : f_X8_barOf c (n32 w) m = some (n32 (barA T w)) := by
  have h8 := hT.1.2.1
  have h6 := hT.1.1
  obtain ⟨q1, q2, q3, q4, q5⟩ := hT.2.2.1 w hw
  have hk := (hT.2.1 _ q2).1
  unfold f_X8_barOf f_X8_barOf_J28
  rw [pe_g ((n32_in (by omega)).mpr (by omega)), n32_cl (by omega), (h.2.2.1 w hw).2.1, pe_g ((n32_in (by omega)).mpr (by omega)), n32_cl (by omega), (h.2.1 _ q2).1, h.1.2.2.1 (by omega)]
  simp (disch := omega) only [n32_eqL, n32_al]
  unfold barA
  split <;> rfl
theorem pc_isRipe {m : mi_M} {c i w : Nat} {T : Nat → Nat} {S : Nat → Int32} (h : cTw m c T) (hT : tOK T) (hS : cSt m i S) (hs : sOK T S) (hw : w < T 2) : f_X5_isRipe i c (n32 w) m = some (if S (22 + w) = 0 ∧ S (14 + w) ≤ n32 (barA T w) then 1 else 0) := by
  have h8 := hT.1.2.1
  unfold f_X5_isRipe f_X5_isRipe_J26 f_X5_isRipe_J27
  rw [pc_isForgiven hS hs (by omega), pe_bo, pe_g ((n32_in (by omega)).mpr (by omega)), pc_barOf h hT hw, pe_bo, n32_cl (by omega), hS.2.2.2 w (by omega), pe_g (by decide), pe_g (by decide)]
  by_cases a : S (22 + w) = 0
  · by_cases b : S (14 + w) ≤ n32 (barA T w)
    · rw [if_pos a, if_neg (i32_nlt.mpr b), if_pos ⟨a, b⟩]
    · rw [if_pos a, if_pos (i32_nle.mp b), if_neg (fun x => b x.2)]
  · rw [if_neg a, if_neg (fun x => a x.1)]
/-- lamps that burn behind so many nights -/
def lsA (S : Nat → Int32) (n : Nat) : Nat := bs (fun p => decide (n32 n < S (2 + p))) 6
theorem lsA_lt (S : Nat → Int32) (n : Nat) : lsA S n < 64 := bs_lt _ 6
theorem pc_burning {m : mi_M} {i n : Nat} {S : Nat → Int32} (h : cSt m i S) : f_X5_burningBehind i (n32 n) m = some (n32 (lsA S n)) := by
  unfold f_X5_burningBehind
  apply pw_eq
  rw [pw_bo]
  refine pl_for (fun k s => s = (n32 (bs (fun p => decide (n32 n < S (2 + p))) k), n32 k)) 6 (by omega) rfl ?_
  rintro k s hk rfl
  unfold f_X5_burningBehind_B4 f_X5_burningBehind_J26
  simp (disch := omega) only [pw_if, pw_some, pw_g, pw_let, n32_Lle, lr_r, lr_l, n32_in, n32_cl, n32_al]
  refine ⟨fun hx => ?_, fun hx => ⟨by omega, fun hy => ⟨by omega, ?_⟩, fun hy => ⟨by omega, ?_⟩⟩⟩
  · have : k = 6 := by omega
    subst this
    unfold f_X5_burningBehind_K4
    rw [pw_some]
    rfl
  · rw [h.2.1 k (by omega)] at hy
    rw [bs_no (by simpa using hy)]
  · rw [h.2.1 k (by omega)] at hy
    rw [bs_or (by omega) (by simpa using i32_nle.mp hy)]
/-! the laws at work -/
theorem pc_law {m : mi_M} {c l w : Nat} {T : Nat → Nat} {cd : Nat → List Int32} {sore night : Int32} (h : cT m c T cd) (hl : l < 3) (hw : w < T 2) : wo (f_X1_worth c (n32 l) (m.1 43 c w) sore night m) (fun r => r.1 = lwA T cd l w sore night ∧ cT r.2 c T cd ∧ kp (fun k i _ => k = 19 ∧ i = c) m r.2) := by
  rw [(h.1.1.2.2.1 w hw).2.2]
  refine pw_mono (pc_worth hl (h.2.2 l hl (by omega)) (h.1.2.2 l hl)) ?_
  rintro r ⟨h1, h2⟩
  exact ⟨h1, h.st h2, h2⟩
theorem pc_words {m : mi_M} {c w s : Nat} {T : Nat → Nat} {cd : Nat → List Int32} {night : Int32} (h : cT m c T cd) (hw : w < T 2) (hs : s ≤ 99) : wo (f_X8_soreBehindWords c (n32 w) (n32 s) night m) (fun r => r.1 = wordsA T cd w (n32 s) night ∧ cT r.2 c T cd ∧ kp (fun k i _ => k = 19 ∧ i = c) m r.2) := by
  have h8 := h.1.2.1.1.2.1
  unfold f_X8_soreBehindWords
  simp (disch := omega) only [pw_g, n32_in, n32_cl, pw_b, pw_bo, pw_let, pw_some]
  refine ⟨by omega, pw_mono (pc_law (l := 0) h (by omega) hw) ?_⟩
  rintro ⟨v, m1⟩ ⟨h1, h2, h3⟩
  simp only at h1 h2 h3
  simp only [pc_clamp (show (0 : Int32) ≤ 99 by decide), pw_some]
  refine ⟨?_, h2, h3⟩
  rw [h1]
  have hc := clA_in (lo := 0) (hi := 99) (v := lwA T cd 0 w (n32 s) night) (by decide)
  rw [max0 hs hc.1 hc.2]
  rfl
theorem pc_heal {m : mi_M} {c w s : Nat} {T : Nat → Nat} {cd : Nat → List Int32} {night : Int32} (h : cT m c T cd) (hw : w < T 2) : wo (f_X8_soreBehindNight c (n32 w) (n32 s) night m) (fun r => r.1 = healA T cd w (n32 s) night ∧ cT r.2 c T cd ∧ kp (fun k i _ => k = 19 ∧ i = c) m r.2) := by
  have h8 := h.1.2.1.1.2.1
  unfold f_X8_soreBehindNight
  simp (disch := omega) only [pw_g, n32_in, n32_cl, pw_b, pw_bo, pw_let, pw_some]
  refine ⟨by omega, pw_mono (pc_law (l := 1) h (by omega) hw) ?_⟩
  rintro ⟨v, m1⟩ ⟨h1, h2, h3⟩
  simp only at h1 h2 h3
  simp only [pc_clamp (show (-9 : Int32) ≤ 9 by decide), pc_clamp (show (0 : Int32) ≤ 99 by decide), pw_some]
  exact ⟨by rw [h1]; rfl, h2, h3⟩
theorem pc_burns {m : mi_M} {c w : Nat} {T : Nat → Nat} {cd : Nat → List Int32} {sore night : Int32} (h : cT m c T cd) (hw : w < T 2) : wo (f_X8_burnsLonger c (n32 w) sore night m) (fun r => r.1 = burnA T cd w sore night ∧ cT r.2 c T cd ∧ kp (fun k i _ => k = 19 ∧ i = c) m r.2) := by
  have hT := h.1.2.1
  have h8 := hT.1.2.1
  have h6 := hT.1.1
  obtain ⟨q1, q2, q3, q4, q5⟩ := hT.2.2.1 w hw
  have hk := (hT.2.1 _ q2).1
  unfold f_X8_burnsLonger f_X8_burnsLonger_J48
  simp (disch := omega) only [pw_g, n32_in, n32_cl, pw_b, pw_bo, pw_let, pw_some, pw_if]
  refine ⟨by omega, pw_mono (pc_law (l := 2) h (by omega) hw) ?_⟩
  rintro ⟨v, m1⟩ ⟨h1, h2, h3⟩
  simp only at h1 h2 h3
  simp (disch := omega) only [pc_clamp (show (0 : Int32) ≤ 30 by decide), pw_some, (h2.1.1.2.2.1 w hw).2.1, n32_in, n32_cl, (h2.1.1.2.1 _ q2).1, n32_eqL]
  refine ⟨by omega, by omega, fun e => ⟨?_, h2, h3⟩, fun e => ⟨?_, h2, h3⟩⟩
  · rw [h1]; unfold burnA; rw [if_pos e]
  · rw [h1]; unfold burnA; rw [if_neg e]
theorem pc_refusal {m : mi_M} {c w s : Nat} {T : Nat → Nat} (h : cTw m c T) (hT : tOK T) (hw : w < T 2) (hs : s ≤ 99) : f_X8_soreBehindRefusal c (n32 w) (n32 s) m = some (clA 0 99 (n32 s + (if kdA T (toA T w) = 1 then 2 else 1))) := by
  have h8 := hT.1.2.1
  have h6 := hT.1.1
  obtain ⟨q1, q2, q3, q4, q5⟩ := hT.2.2.1 w hw
  have hk := (hT.2.1 _ q2).1
  unfold f_X8_soreBehindRefusal f_X8_soreBehindRefusal_J20
  rw [pe_g ((n32_in (by omega)).mpr (by omega)), n32_cl (by omega), (h.2.2.1 w hw).2.1, pe_g ((n32_in (by omega)).mpr (by omega)), n32_cl (by omega), (h.2.1 _ q2).1]
  simp (disch := omega) only [n32_eqL, pe_let]
  by_cases e : kdA T (toA T w) = 1
  · rw [if_pos e, if_pos e]
    exact congrArg some (min99 (a := s) (b := 2) (by omega) (by omega))
  · rw [if_neg e, if_neg e]
    exact congrArg some (min99 (a := s) (b := 1) (by omega) (by omega))
/-! harm -/
def sumN (f : Nat → Nat) : Nat → Nat
  | 0 => 0
  | n + 1 => sumN f n + f n
theorem sumN_le {f : Nat → Nat} {K : Nat} : ∀ {n : Nat}, (∀ k, k < n → f k ≤ K) → sumN f n ≤ n * K
  | 0, _ => by simp [sumN]
  | n + 1, h => by
    have h1 := sumN_le (fun k hk => h k (by omega)) (n := n)
    have h2 := h n (by omega)
    show sumN f n + f n ≤ _
    rw [Nat.succ_mul]
    omega
def dh (x : Nat) : Nat := if x < XX then x / 1024 else 100
def hmN (T : Nat → Nat) (b : Nat) : Nat := sumN (fun k => dh (cst T b (T (81 + 2 * k)) (T (82 + 2 * k)))) (T 3)
theorem dh_le {T : Nat → Nat} (hT : lanOK T) {b i j : Nat} (hi : i < 6) (hj : j < 6) : dh (cst T b i j) ≤ 150 := by
  unfold dh
  by_cases e : cst T b i j < XX
  · obtain ⟨d, f, h1, h2, h3, -⟩ := cst_df hT hi hj e
    rw [if_pos e]
    omega
  · rw [if_neg e]
    omega
theorem hmN_le {T : Nat → Nat} (hT : tOK T) (b : Nat) : hmN T b ≤ 600 := by
  have h4 := hT.1.2.2.1
  have h6 := hT.1.1
  have := sumN_le (f := fun k => dh (cst T b (T (81 + 2 * k)) (T (82 + 2 * k)))) (K := 150) (n := T 3) (fun k hk => by
    obtain ⟨a1, a2⟩ := hT.2.2.2.1 k hk
    exact dh_le hT.2.2.2.2 (by omega) (by omega))
  have h5 : T 3 * 150 ≤ 4 * 150 := Nat.mul_le_mul_right _ h4
  unfold hmN
  omega
theorem pc_dh {m : mi_M} {x : Nat} (hx : x ≤ XX) : f_X9_darkOrHarm (n32 x) m = some (n32 (dh x)) := by
  have hX : XX = 1048576 := rfl
  unfold f_X9_darkOrHarm f_X9_darkOrHarm_J16 dh
  simp (disch := omega) only [n32_Lle, n32_dl]
  by_cases e : x < XX
  · rw [if_pos e, if_neg (by omega)]
  · rw [if_neg e, if_pos (by omega)]
    rfl
theorem pc_cost {c b i j : Nat} {m : mi_M} {T : Nat → Nat} {cd : Nat → List Int32} (h : cT m c T cd) (hb : b < 64) (hi : i < 6) (hj : j < 6) : wo (f_X9_costOf c (n32 b) (n32 i) (n32 j) m) (fun r => r.1 = n32 (cst T b i j) ∧ cT r.2 c T cd ∧ kp (fun k i _ => pcE c k i) m r.2) := by
  refine pw_mono (pc_costOf h.1.2.1.2.2.2.2 hb hi hj h.2.1) ?_
  rintro r ⟨h1, h2, h3⟩
  exact ⟨h1, h.wy h2 h3, h3.mo (by intro k i p hh; omega)⟩
theorem pc_harmBy {c b : Nat} {m : mi_M} {T : Nat → Nat} {cd : Nat → List Int32} (h : cT m c T cd) (hb : b < 64) : wo (f_X9_harmBy c (n32 b) m) (fun r => r.1 = n32 (hmN T b) ∧ cT r.2 c T cd ∧ kp (fun k i _ => pcE c k i) m r.2) := by
  have hT := h.1.2.1
  have h4 := hT.1.2.2.1
  have h6 := hT.1.1
  unfold f_X9_harmBy
  rw [pw_bo]
  refine pl_for (fun k s => s.1 = n32 (sumN (fun k => dh (cst T b (T (81 + 2 * k)) (T (82 + 2 * k)))) k) ∧ s.2.1 = n32 k ∧ cT s.2.2 c T cd ∧ kp (fun k i _ => pcE c k i) m s.2.2) (T 3) (by omega) ⟨rfl, rfl, h, kp.rf⟩ ?_
  rintro k ⟨l3, l4, m1⟩ hk ⟨h1, h2, h3, hkp⟩
  simp only at h1 h2 h3 hkp
  subst h1 h2
  unfold f_X9_harmBy_B4
  simp (disch := omega) only [pw_if, pw_some, pw_g, pw_let, pw_b, pw_bo, h3.1.1.1.2.2.2.2.2, n32_le, lr_r, lr_l, n32_in, n32_cl, n32_al]
  refine ⟨fun hx => ?_, fun hx => ⟨by omega, by omega, ?_⟩⟩
  · have : k = T 3 := by omega
    subst this
    unfold f_X9_harmBy_K4
    rw [pw_some]
    exact ⟨rfl, h3, hkp⟩
  · have hk : k < T 3 := by omega
    obtain ⟨a1, a2⟩ := hT.2.2.2.1 k hk
    rw [(h3.1.1.2.2.2 k hk).1, (h3.1.1.2.2.2 k hk).2]
    refine pw_mono (pc_cost h3 hb (by omega) (by omega)) ?_
    rintro ⟨v, m2⟩ ⟨g1, g2, g3⟩
    simp only at g1 g2 g3
    subst g1
    simp only [pc_dh (cst_le hT.2.2.2.2 b _ _), pw_some, n32_add]
    exact ⟨hk, by trivial, by trivial, g2, hkp.tr g3⟩
/-! what is done -/
abbrev pcS (i k j : Nat) : Prop := (k = 5 ∨ k = 34 ∨ k = 35 ∨ k = 36) ∧ j = i
def aSleep (T : Nat → Nat) (cd : Nat → List Int32) (S : Nat → Int32) : Nat → Int32 := fun q => if q = 0 then S 0 + 1 else if q = 1 then S 1 + n32 (hmN T (lsA S 0)) else if q < 8 then (if 0 < S q then S q - 1 else 0) else if q < 14 then S q else if q < 22 then (if q - 14 < T 2 ∧ S (q + 8) = 0 then healA T cd (q - 14) (S q) (S 0) else S q) else if q < 30 then S q else 0
def aSay (T : Nat → Nat) (cd : Nat → List Int32) (S : Nat → Int32) (w : Nat) : Nat → Int32 := fu (fu S (14 + w) (wordsA T cd w (S (14 + w)) (S 0))) (30 + w) 1
def aGive (T : Nat → Nat) (S : Nat → Int32) (w : Nat) (g : Int32) : Nat → Int32 := fu (fu (fu S (8 + byA T w) (S (8 + byA T w) - g)) (8 + toA T w) (S (8 + toA T w) + g)) (14 + w) (clA 0 99 (S (14 + w) - g))
def aAsk (T : Nat → Nat) (cd : Nat → List Int32) (S : Nat → Int32) (w : Nat) (more : Int32) : Nat → Int32 := if S (14 + w) ≤ n32 (barA T w) then fu (fu S (22 + w) 1) (2 + toA T w) (clA 0 99 (S (2 + toA T w) + burnA T cd w (S (14 + w)) (S 0) + more)) else fu S (14 + w) (clA 0 99 (S (14 + w) + (if kdA T (toA T w) = 1 then 2 else 1)))
theorem lampDec {n : Nat} (hn : n ≤ 99) : (if 0 < n32 n - 1 then n32 n - 1 else (0 : Int32)) = (if 0 < n32 n then n32 n - 1 else 0) ∧ ∃ k, k ≤ 99 ∧ (if 0 < n32 n then n32 n - 1 else (0 : Int32)) = n32 k := by
  have : ∀ n, n ≤ 99 → ((if 0 < n32 n - 1 then n32 n - 1 else (0 : Int32)) = (if 0 < n32 n then n32 n - 1 else 0) ∧ (if 0 < n32 n then n32 n - 1 else (0 : Int32)) = n32 (n - 1)) := by decide +kernel
  obtain ⟨a, b⟩ := this n hn
  exact ⟨a, n - 1, by omega, b⟩
theorem aS_lamp {T : Nat → Nat} {cd : Nat → List Int32} {S : Nat → Int32} {p : Nat} (hp : p < 6) : aSleep T cd S (2 + p) = if 0 < S (2 + p) then S (2 + p) - 1 else 0 := by
  unfold aSleep
  rw [if_neg (show ¬ 2 + p = 0 by omega), if_neg (show ¬ 2 + p = 1 by omega), if_pos (show 2 + p < 8 by omega)]
theorem aSleep_ok {T : Nat → Nat} {cd : Nat → List Int32} {S : Nat → Int32} (hT : tOK T) (h : sOK T S) : sOK T (aSleep T cd S) := by
  obtain ⟨h1, h2, ⟨C, hC1, hC2⟩, h4, h5, h6⟩ := h
  refine ⟨fun p hp => ?_, fun p hp hp2 => ?_, ⟨C, hC1, fun p hp => ?_⟩, fun w hw => ?_, fun w hw => ?_, fun w hw hw2 => ?_⟩
  · obtain ⟨n, hn, e⟩ := h1 p hp
    unfold aSleep
    rw [if_neg (by omega), if_neg (by omega), if_pos (by omega), e]
    exact (lampDec hn).2
  · obtain ⟨e1, e2⟩ := h2 p hp hp2
    constructor
    · unfold aSleep
      rw [if_neg (by omega), if_neg (by omega), if_pos (by omega), e1]
      rfl
    · unfold aSleep
      rw [if_neg (by omega), if_neg (by omega), if_neg (by omega), if_pos (by omega), e2]
  · unfold aSleep
    rw [if_neg (by omega), if_neg (by omega), if_neg (by omega), if_pos (by omega)]
    exact hC2 p hp
  · unfold aSleep
    rw [if_neg (by omega), if_neg (by omega), if_neg (by omega), if_neg (by omega), if_pos (by omega)]
    split
    · unfold healA
      exact clA_n (n := 99) (by omega) _
    · exact h4 w hw
  · unfold aSleep
    rw [if_neg (by omega), if_neg (by omega), if_neg (by omega), if_neg (by omega), if_neg (by omega), if_pos (by omega), if_neg (by omega), if_neg (by omega), if_neg (by omega), if_neg (by omega), if_neg (by omega), if_neg (by omega)]
    exact ⟨(h5 w hw).1, Or.inl rfl⟩
  · unfold aSleep
    rw [if_neg (by omega), if_neg (by omega), if_neg (by omega), if_neg (by omega), if_neg (by omega), if_pos (by omega), if_neg (by omega), if_neg (by omega), if_neg (by omega), if_neg (by omega), if_neg (by omega), if_neg (by omega)]
    exact ⟨(h6 w hw hw2).1, rfl⟩
theorem pc_sleep {c i : Nat} {m : mi_M} {T : Nat → Nat} {cd : Nat → List Int32} {S : Nat → Int32} (h : cT m c T cd) (hS : cSt m i S) (hs : sOK T S) : wo (f_X5_sleep i c m) (fun m' => cSt m' i (aSleep T cd S) ∧ cT m' c T cd ∧ kp (fun k j _ => pcE c k j ∨ pcS i k j) m m') := by
  have hT := h.1.2.1
  have h8 := hT.1.2.1
  unfold f_X5_sleep
  simp only [pw_bo, pw_b, pw_let]
  rw [show (0 : Int32) = n32 0 from rfl, pc_burning hS, pw_some]
  refine pw_mono (pc_harmBy h (lsA_lt S 0)) ?_
  rintro ⟨v, m1⟩ ⟨g1, g2, g3⟩
  simp only at g1 g2 g3
  subst g1
  have hS1 : cSt m1 i S := hS.mv g3 (fun k j p a b d => by omega)
  have k2 : kp (fun k j _ => pcE c k j ∨ pcS i k j) m (mi_wI m1 5 i 1 (m.1 5 i 1 + n32 (hmN T (lsA S 0)))) := (g3.mo (fun k j p a => Or.inl a)).wI (Or.inr ⟨Or.inl rfl, rfl⟩)
  have c2 : cT (mi_wI m1 5 i 1 (m.1 5 i 1 + n32 (hmN T (lsA S 0)))) c T cd := g2.mv (kp.rf.wI (P := fun k j p => k = 5 ∧ j = i ∧ p = 1) ⟨rfl, rfl, rfl⟩) (fun k j p a b => by unfold cTk at b; omega)
  obtain ⟨m2, hm2⟩ : ∃ m2, m2 = mi_wI m1 5 i 1 (m.1 5 i 1 + n32 (hmN T (lsA S 0))) := ⟨_, rfl⟩
  have r1 : m2.1 5 i 1 = S 1 + n32 (hmN T (lsA S 0)) := by rw [hm2, rI_eq, hS.1.2.1]
  have r0 : m2.1 5 i 0 = S 0 := by rw [hm2, rI_ne (by omega), hS1.1.1]
  have rf : m2.1 5 i 2 = n32 (bs (fun w => S (22 + w) == 1) 8) := by rw [hm2, rI_ne (by omega), hS1.1.2.2.1]
  have r35 : ∀ p, p < 6 → m2.1 35 i p = S (2 + p) := fun p hp => by rw [hm2, rI_ne (by omega), hS1.2.1 p hp]
  have r36 : ∀ p, p < 6 → m2.1 36 i p = S (8 + p) := fun p hp => by rw [hm2, rI_ne (by omega), hS1.2.2.1 p hp]
  have r34 : ∀ p, p < 8 → m2.1 34 i p = S (14 + p) := fun p hp => by rw [hm2, rI_ne (by omega), hS1.2.2.2 p hp]
  rw [← hm2] at k2 c2
  rw [show mi_wI (n32 (hmN T (lsA S 0)), m1).2 5 i 1 (m.1 5 i 1 + (n32 (hmN T (lsA S 0)), m1).1) = m2 from hm2.symm]
  refine pl_for (fun k s => s.1 = n32 k ∧ kp (fun k j _ => k = 35 ∧ j = i) m2 s.2 ∧ ∀ p, p < 6 → s.2.1 35 i p = if p < k then aSleep T cd S (2 + p) else S (2 + p)) 6 (by omega) ⟨rfl, kp.rf, fun p hp => r35 p hp⟩ ?_
  rintro k ⟨l20, m3⟩ hk ⟨e1, hkp, hc⟩
  simp only at e1 hkp hc
  subst e1
  unfold f_X5_sleep_B23
  simp (disch := omega) only [pw_if, pw_some, pw_g, pw_let, n32_Lle, lr_r, lr_l, n32_in, n32_cl, n32_al]
  refine ⟨fun hx => ?_, fun hx => ⟨by omega, by omega, by omega, by trivial, hkp.wI ⟨rfl, rfl⟩, fun p hp => ?_⟩⟩
  · have : k = 6 := by omega
    subst this
    clear hx
    have k3 : kp (fun k j _ => pcE c k j ∨ pcS i k j) m m3 := k2.tr (hkp.mo (fun k j p a => by omega))
    have c3 : cT m3 c T cd := c2.mv hkp (fun k j p a b => by unfold cTk at b; omega)
    have q35 : ∀ p, p < 6 → m3.1 35 i p = aSleep T cd S (2 + p) := fun p hp => by rw [hc p hp, if_pos hp]
    have q36 : ∀ p, p < 6 → m3.1 36 i p = S (8 + p) := fun p hp => by rw [hkp.1 36 i p (by omega), r36 p hp]
    have q34 : ∀ p, p < 8 → m3.1 34 i p = S (14 + p) := fun p hp => by rw [hkp.1 34 i p (by omega), r34 p hp]
    have q0 : m3.1 5 i 0 = S 0 := by rw [hkp.1 5 i 0 (by omega), r0]
    have q1 : m3.1 5 i 1 = S 1 + n32 (hmN T (lsA S 0)) := by rw [hkp.1 5 i 1 (by omega), r1]
    have qf : m3.1 5 i 2 = n32 (bs (fun w => S (22 + w) == 1) 8) := by rw [hkp.1 5 i 2 (by omega), rf]
    unfold f_X5_sleep_K23
    rw [pw_bo]
    refine pl_for (fun k s => s.1 = n32 k ∧ cT s.2 c T cd ∧ kp (fun k j _ => (k = 34 ∧ j = i) ∨ (k = 19 ∧ j = c)) m3 s.2 ∧ ∀ w, w < 8 → s.2.1 34 i w = if w < k then aSleep T cd S (14 + w) else S (14 + w)) (T 2) (by omega) ⟨rfl, c3, kp.rf, fun w hw => q34 w hw⟩ ?_
    clear hkp hc
    rintro k ⟨l9, m4⟩ hk ⟨e1, c4, hkp, hc⟩
    simp only at e1 c4 hkp hc
    subst e1
    unfold f_X5_sleep_B55 f_X5_sleep_J92
    simp (disch := omega) only [pw_if, pw_some, pw_g, pw_let, pw_bo, pw_b, c4.1.1.1.2.1, n32_le, lr_r, lr_l, n32_in, n32_cl, n32_al]
    refine ⟨fun hx => ?_, fun hx => ?_⟩
    · have : k = T 2 := by omega
      subst this
      unfold f_X5_sleep_K55
      simp only [pw_let, pw_some]
      have k4 : kp (fun k j _ => pcE c k j ∨ pcS i k j) m m4 := k3.tr (hkp.mo (fun k j p a => by omega))
      refine ⟨⟨⟨?_, ?_, ?_, ?_⟩, fun p hp => ?_, fun p hp => ?_, fun w hw => ?_⟩, ?_, ?_⟩
      · rw [rI_eq, rI_ne (by omega), hkp.1 5 i 0 (by omega), q0]; rfl
      · rw [rI_ne (by omega), rI_ne (by omega), hkp.1 5 i 1 (by omega), q1]; rfl
      · rw [rI_ne (by omega), rI_ne (by omega), hkp.1 5 i 2 (by omega), qf]
        refine congrArg n32 (bs_congr (fun w hw => ?_))
        unfold aSleep
        rw [if_neg (by omega), if_neg (by omega), if_neg (by omega), if_neg (by omega), if_neg (by omega), if_pos (by omega)]
      · rw [rI_ne (by omega), rI_eq]
        rw [bs_ext (n := 0) (m := 8) (by omega) (fun w _ hw => ?_)]
        · rfl
        · unfold aSleep
          rw [if_neg (by omega), if_neg (by omega), if_neg (by omega), if_neg (by omega), if_neg (by omega), if_neg (by omega)]
          rfl
      · rw [rI_ne (by omega), rI_ne (by omega), hkp.1 35 i p (by omega), q35 p hp]
      · rw [rI_ne (by omega), rI_ne (by omega), hkp.1 36 i p (by omega), q36 p hp]
        unfold aSleep
        rw [if_neg (by omega), if_neg (by omega), if_neg (by omega), if_pos (by omega)]
      · rw [rI_ne (by omega), rI_ne (by omega), hc w hw]
        by_cases e : w < T 2
        · rw [if_pos e]
        · rw [if_neg e]
          unfold aSleep
          rw [if_neg (by omega), if_neg (by omega), if_neg (by omega), if_neg (by omega), if_pos (by omega), if_neg (by omega)]
      · exact c4.mv ((kp.rf (P := fun k j p => k = 5 ∧ j = i)).wI ⟨rfl, rfl⟩ |>.wI ⟨rfl, rfl⟩) (fun k j p a b => by unfold cTk at b; omega)
      · exact (k4.wI (Or.inr ⟨Or.inl rfl, rfl⟩)).wI (Or.inr ⟨Or.inl rfl, rfl⟩)
    · have hk : k < T 2 := by omega
      have f4 : f_X5_isForgiven i (n32 k) m4 = some (S (22 + k)) := by
        unfold f_X5_isForgiven
        rw [hkp.1 5 i 2 (by omega), qf, pc_holds (by omega), pe_bo, pe_g01, bs_tb]
        rcases (hs.2.2.2.2.1 k (by omega)).1 with e | e <;> simp [e, show k < 8 by omega]
      rw [f4, pw_some]
      have ck : m4.1 34 i k = S (14 + k) := by rw [hc k (by omega), if_neg (by omega)]
      have c0 : m4.1 5 i 0 = S 0 := by rw [hkp.1 5 i 0 (by omega), q0]
      obtain ⟨n, hn, en⟩ := hs.2.2.2.1 k (by omega)
      refine ⟨fun hz => ⟨by omega, ?_⟩, fun hz => ⟨hk, by trivial, c4, hkp, fun w hw => ?_⟩⟩
      · rw [ck, c0, en]
        refine pw_mono (pc_heal (s := n) c4 hk) ?_
        rintro ⟨v, m5⟩ ⟨a1, a2, a3⟩
        simp only at a1 a2 a3
        refine ⟨by omega, hk, by trivial, a2.mv ((kp.rf (P := fun k j p => k = 34 ∧ j = i)).wI ⟨rfl, rfl⟩) (fun k j p a b => by unfold cTk at b; omega), (hkp.tr (a3.mo (fun k j p a => Or.inr a))).wI (Or.inl ⟨rfl, rfl⟩), fun w hw => ?_⟩
        rw [rI]
        by_cases e : w = k
        · subst e
          rw [if_pos ⟨rfl, rfl, rfl⟩, if_pos (by omega), a1, ← en]
          unfold aSleep
          rw [if_neg (by omega), if_neg (by omega), if_neg (by omega), if_neg (by omega), if_pos (by omega), if_pos ⟨by omega, by rw [show 14 + w + 8 = 22 + w by omega]; exact hz⟩, show 14 + w - 14 = w by omega]
        · rw [if_neg (fun x => e x.2.2), a3.1 34 i w (by omega), hc w hw]
          by_cases e2 : w < k
          · rw [if_pos e2, if_pos (by omega)]
          · rw [if_neg e2, if_neg (by omega)]
      · rw [hc w hw]
        by_cases e2 : w < k
        · rw [if_pos e2, if_pos (by omega)]
        · by_cases e : w = k
          · subst e
            rw [if_neg (by omega), if_pos (by omega)]
            unfold aSleep
            rw [if_neg (by omega), if_neg (by omega), if_neg (by omega), if_neg (by omega), if_pos (by omega), if_neg (fun x => hz (by rw [show 14 + w + 8 = 22 + w by omega] at x; exact x.2))]
          · rw [if_neg e2, if_neg (by omega)]
  · rw [rI]
    by_cases e : p = k
    · subst e
      obtain ⟨n, hn, en⟩ := hs.1 p hp
      rw [if_pos ⟨rfl, rfl, rfl⟩, hc p hp, if_neg (show ¬ p < p by omega), if_pos (show p < p + 1 by omega), en, (lampDec hn).1, ← en, aS_lamp hp]
    · rw [if_neg (fun x => e x.2.2), hc p hp]
      by_cases e2 : p < k
      · rw [if_pos e2, if_pos (by omega)]
      · rw [if_neg e2, if_neg (by omega)]
