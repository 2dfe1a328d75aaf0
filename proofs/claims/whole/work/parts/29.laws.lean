/-! ===== the laws: a row of steps on a stack, as both hold it ===== -/
theorem nn_lt {k : Nat} (hk : k < 2147483648) {x : Int32} (hx : x < 0) : ¬ n32 k < x := by
  intro h
  have h1 := Int32.lt_iff_toInt_lt.mp h
  have h2 := Int32.lt_iff_toInt_lt.mp hx
  have e : (0 : Int32).toInt = 0 := by decide
  rw [n32_int hk] at h1
  omega
theorem nn_ne {k : Nat} (hk : k < 2147483648) {x : Int32} (hx : x < 0) : n32 k ≠ x := by
  intro h
  have h2 := Int32.lt_iff_toInt_lt.mp hx
  have e : (0 : Int32).toInt = 0 := by decide
  rw [← h, n32_int hk] at h2
  omega
def fu (g : Nat → Int32) (h : Nat) (v : Int32) : Nat → Int32 := fun x => if x = h then v else g x
def jn (s a b : Int32) : Int32 := if s = -10 then a - b else if s = -9 then a + b else if s = -8 then (if a = b then 1 else 0) else if s = -7 then (if b ≤ a then 0 else 1) else if s = -6 then (if a = 0 then (if b = 0 then 0 else 1) else 1) else if s = -5 then (if a = 0 then 0 else if b = 0 then 0 else 1) else a * b
def fct (e : Int32 × Int32 × Int32) (s : Int32) : Int32 := if s = -3 then e.2.2 else if s = -2 then e.2.1 else if s = -1 then e.1 else s
def evl (e : Int32 × Int32 × Int32) : List Int32 → Nat → (Nat → Int32) → Int32
  | [], _, g => g 0
  | s :: r, h, g => if s < -3 then (if s = -4 then evl e r h (fu g (h - 1) (if g (h - 1) = 0 then 1 else 0)) else evl e r (h - 1) (fu g (h - 2) (jn s (g (h - 2)) (g (h - 1))))) else evl e r (h + 1) (fu g h (fct e s))
theorem evl_cons {e : Int32 × Int32 × Int32} {s : Int32} {r : List Int32} {h : Nat} {g : Nat → Int32} : evl e (s :: r) h g = if s < -3 then (if s = -4 then evl e r h (fu g (h - 1) (if g (h - 1) = 0 then 1 else 0)) else evl e r (h - 1) (fu g (h - 2) (jn s (g (h - 2)) (g (h - 1))))) else evl e r (h + 1) (fu g h (fct e s)) := rfl
/-- steps: numbers, facts, and what joins -/
def stp (s : Int32) : Prop := (∃ k, k < 10000 ∧ s = n32 k) ∨ s = -1 ∨ s = -2 ∨ s = -3 ∨ s = -4 ∨ s = -5 ∨ s = -6 ∨ s = -7 ∨ s = -8 ∨ s = -9 ∨ s = -10 ∨ s = -11
/-- a row of steps that goes from one height to another, never above K -/
def okc (K : Nat) : List Int32 → Nat → Nat → Prop
  | [], h, h' => h = h'
  | s :: r, h, h' => stp s ∧ (if s < -3 then (if s = -4 then 1 ≤ h ∧ okc K r h h' else 2 ≤ h ∧ okc K r (h - 1) h') else h < K ∧ okc K r (h + 1) h')
theorem okc_app {K : Nat} {b : List Int32} {h'' : Nat} : ∀ {a : List Int32} {h h' : Nat}, okc K a h h' → okc K b h' h'' → okc K (a ++ b) h h''
  | [], h, h', e, hb => by
    have e : h = h' := e
    rw [e]
    exact hb
  | s :: r, h, h', ⟨hs, ha⟩, hb => by
    refine ⟨hs, ?_⟩
    by_cases h1 : s < -3
    · rw [if_pos h1] at ha ⊢
      by_cases h2 : s = -4
      · rw [if_pos h2] at ha ⊢
        exact ⟨ha.1, okc_app ha.2 hb⟩
      · rw [if_neg h2] at ha ⊢
        exact ⟨ha.1, okc_app ha.2 hb⟩
    · rw [if_neg h1] at ha ⊢
      exact ⟨ha.1, okc_app ha.2 hb⟩
theorem okc_up {K n : Nat} : ∀ {a : List Int32} {h h' : Nat}, okc K a h h' → okc (K + n) a (h + n) (h' + n)
  | [], h, h', e => by
    have e : h = h' := e
    show h + n = h' + n
    rw [e]
  | s :: r, h, h', ⟨hs, ha⟩ => by
    refine ⟨hs, ?_⟩
    by_cases h1 : s < -3
    · rw [if_pos h1] at ha ⊢
      by_cases h2 : s = -4
      · rw [if_pos h2] at ha ⊢
        exact ⟨by omega, okc_up ha.2⟩
      · rw [if_neg h2] at ha ⊢
        have := okc_up (n := n) ha.2
        rw [show h - 1 + n = h + n - 1 by omega] at this
        exact ⟨by omega, this⟩
    · rw [if_neg h1] at ha ⊢
      have := okc_up (n := n) ha.2
      rw [show h + 1 + n = h + n + 1 by omega] at this
      exact ⟨by omega, this⟩
theorem okc_mo {K K' : Nat} (hK : K ≤ K') : ∀ {a : List Int32} {h h' : Nat}, okc K a h h' → okc K' a h h'
  | [], h, h', e => e
  | s :: r, h, h', ⟨hs, ha⟩ => by
    refine ⟨hs, ?_⟩
    by_cases h1 : s < -3
    · rw [if_pos h1] at ha ⊢
      by_cases h2 : s = -4
      · rw [if_pos h2] at ha ⊢
        exact ⟨ha.1, okc_mo hK ha.2⟩
      · rw [if_neg h2] at ha ⊢
        exact ⟨ha.1, okc_mo hK ha.2⟩
    · rw [if_neg h1] at ha ⊢
      exact ⟨by omega, okc_mo hK ha.2⟩
theorem pc_truth {x : Int32} {m : mi_M} : f_X1_truth x m = some (if x = 0 then 0 else 1) := by
  unfold f_X1_truth f_X1_truth_J9
  split <;> rfl
theorem pc_fact {s a b d : Int32} {m : mi_M} : f_X1_fact s a b d m = some (fct (a, b, d) s) := by
  unfold f_X1_fact fct
  repeat' split
  all_goals first | rfl | simp_all
theorem pc_joined {s a b : Int32} {m : mi_M} : f_X1_joined s a b m = some (jn s a b) := by
  unfold f_X1_joined f_X1_joined_J65 f_X1_joined_J52 f_X1_joined_J98 f_X1_joined_J84 f_X1_joined_J70 f_X1_joined_J53
  simp only [pc_truth, pe_bo]
  unfold jn
  repeat' split
  all_goals first | rfl | simp_all
/-- the laws as the town holds them -/
def claw (m : mi_M) (c l : Nat) (code : List Int32) : Prop := ∃ f, m.1 17 c l = n32 f ∧ m.1 18 c l = n32 (f + code.length) ∧ f + code.length ≤ 1003 ∧ ∀ k (h : k < code.length), m.1 16 c (f + k) = code[k]
theorem pc_worth {c l : Nat} {code : List Int32} {a b d : Int32} {m : mi_M} (hl : l < 3) (hc : claw m c l code) (hok : okc 40 code 0 1) :
    wo (f_X1_worth c (n32 l) a b d m) (fun r => r.1 = evl (a, b, d) code 0 (fun _ => 0) ∧ kp (fun k i _ => k = 19 ∧ i = c) m r.2) := by
  obtain ⟨f, hf, hb, hle, hs⟩ := hc
  unfold f_X1_worth
  simp (disch := omega) only [pw_g, pw_let, pw_bo, n32_in, n32_cl, hf]
  refine ⟨hl, ?_⟩
  refine pl_for (fun k s => ∃ h g, s.1 = n32 h ∧ h ≤ 40 ∧ s.2.1 = n32 (f + k) ∧ (∀ j, j < h → s.2.2.1 19 c j = g j) ∧ okc 40 (code.drop k) h 1 ∧ evl (a, b, d) (code.drop k) h g = evl (a, b, d) code 0 (fun _ => 0) ∧ kp (fun k i _ => k = 19 ∧ i = c) m s.2.2) code.length (by omega) ⟨0, fun _ => 0, rfl, by omega, rfl, fun _ h => absurd h (by omega), hok, rfl, kp.rf⟩ ?_
  rintro k ⟨l8, l9, m1⟩ hk ⟨h, g, h1, hh, h2, hg, ho, hv, hkp⟩
  simp only at h1 h2 hg hkp
  subst h1 h2
  have r18 : m1.1 18 c l = n32 (f + code.length) := by rw [hkp.1 18 c l (by omega), hb]
  unfold f_X1_worth_B11
  simp (disch := omega) only [pw_g, pw_let, pw_if, pw_some, n32_in, n32_cl, r18, n32_le]
  refine ⟨hl, fun hx => ?_, fun hx => ?_⟩
  · have hkl : k = code.length := by omega
    subst hkl
    rw [List.drop_length] at ho hv
    have ho : h = 1 := ho
    subst ho
    rw [lr_r]
    unfold f_X1_worth_K11 f_X1_worth_J175
    simp (disch := omega) only [pw_if, pw_g, pw_some, n32_lin, n32_lcl]
    have : ¬ n32 1 ≤ 0 := by decide
    refine ⟨fun q => absurd q this, fun _ => ⟨by omega, ?_, hkp⟩⟩
    rw [hg 0 (by omega)]
    exact hv
  · have hkl : k < code.length := by omega
    have r16 : m1.1 16 c (f + k) = code[k] := by rw [hkp.1 16 c (f + k) (by omega), hs k hkl]
    rw [List.drop_eq_getElem_cons hkl] at ho hv
    simp only [r16]
    generalize code[k] = s at ho hv ⊢
    obtain ⟨hs, ho⟩ := ho
    rw [evl_cons] at hv
    refine ⟨by omega, fun c1 => ?_, fun c1 => ?_⟩
    · rw [if_pos c1] at ho hv
      refine ⟨fun c2 => ?_, fun c2 => ?_⟩
      · rw [if_pos c2] at ho hv
        refine ⟨fun q => ?_, fun _ => ?_⟩
        · exact absurd q (by rw [show (1 : Int32) = n32 1 from rfl, n32_lt (by omega) (by omega)]; omega)
        · simp (disch := omega) only [n32_sl, n32_in, n32_cl]
          have fin : ∀ v, v = (if g (h - 1) = 0 then (1 : Int32) else 0) → wo (f_X1_worth_J154 (n32 (f + k)) (n32 h) (mi_wI m1 19 c (h - 1) v)) (lr (fun s' => k < code.length ∧ ∃ h g, s'.1 = n32 h ∧ h ≤ 40 ∧ s'.2.1 = n32 (f + (k + 1)) ∧ (∀ j, j < h → s'.2.2.1 19 c j = g j) ∧ okc 40 (code.drop (k + 1)) h 1 ∧ evl (a, b, d) (code.drop (k + 1)) h g = evl (a, b, d) code 0 (fun _ => 0) ∧ kp (fun k i _ => k = 19 ∧ i = c) m s'.2.2) (fun e => wo (f_X1_worth_K11 c e) (fun r => r.1 = evl (a, b, d) code 0 (fun _ => 0) ∧ kp (fun k i _ => k = 19 ∧ i = c) m r.2))) := by
            intro v hv2
            unfold f_X1_worth_J154
            rw [pw_some, lr_l]
            refine ⟨hkl, h, _, rfl, hh, by rw [n32_al]; rfl, ?_, ho.2, hv, hkp.wI ⟨rfl, rfl⟩⟩
            intro j hj
            rw [rI]
            unfold fu
            by_cases e : j = h - 1
            · simp [e, hv2]
            · simp [e, hg j hj]
          refine ⟨by omega, fun q => ?_, fun q => ?_⟩
          · unfold f_X1_worth_J108
            simp (disch := omega) only [pw_bo, pc_truth, pw_some, pw_g, pw_let, n32_sl, n32_in, n32_cl]
            rw [hg (h - 1) (by omega)] at q
            exact ⟨by omega, fin _ (by rw [if_pos q]; decide)⟩
          · unfold f_X1_worth_J108
            simp (disch := omega) only [pw_bo, pc_truth, pw_some, pw_g, pw_let, n32_sl, n32_in, n32_cl]
            rw [hg (h - 1) (by omega)] at q
            exact ⟨by omega, fin _ (by rw [if_neg q]; decide)⟩
      · rw [if_neg c2] at ho hv
        refine ⟨fun q => ?_, fun _ => ?_⟩
        · exact absurd q (by rw [show (2 : Int32) = n32 2 from rfl, n32_lt (by omega) (by omega)]; omega)
        · unfold f_X1_worth_J154
          simp (disch := omega) only [n32_m1, n32_sl, n32_in, n32_cl, pw_bo, pc_joined, pw_some, pw_g, pw_let, lr_l, n32_al]
          refine ⟨by omega, by omega, by omega, hkl, h - 1, _, rfl, by omega, rfl, ?_, ho.2, hv, hkp.wI ⟨rfl, rfl⟩⟩
          intro j hj
          rw [rI]
          unfold fu
          by_cases e : j = h - 2
          · rw [if_pos ⟨rfl, rfl, by omega⟩, if_pos e, show h - 1 - 1 = h - 2 by omega, hg (h - 2) (by omega), hg (h - 1) (by omega)]
          · rw [if_neg (fun x => e (by omega)), if_neg e, hg j (by omega)]
    · rw [if_neg c1] at ho hv
      refine ⟨fun q => ?_, fun _ => ?_⟩
      · exact absurd q (by rw [show (40 : Int32) = n32 40 from rfl, n32_le (by omega) (by omega)]; omega)
      · unfold f_X1_worth_J154
        simp (disch := omega) only [pw_bo, pc_fact, pw_some, pw_g, pw_let, n32_in, n32_cl, lr_l, n32_al]
        refine ⟨by omega, hkl, h + 1, _, rfl, by omega, rfl, ?_, ho.2, hv, hkp.wI ⟨rfl, rfl⟩⟩
        intro j hj
        rw [rI]
        unfold fu
        by_cases e : j = h
        · rw [if_pos ⟨rfl, rfl, e⟩, if_pos e]
        · rw [if_neg (fun x => e x.2.2), if_neg e, hg j (by omega)]
/-! the reference's -/
def opc (s : Int32) : Int32 × Int32 := if s = -1 then (2, 0) else if s = -2 then (2, 1) else if s = -3 then (2, 2) else if s = -4 then (3, 0) else if s = -5 then (9, 0) else if s = -6 then (10, 0) else if s = -7 then (7, 0) else if s = -8 then (8, 0) else if s = -9 then (4, 0) else if s = -10 then (5, 0) else if s = -11 then (6, 0) else (1, s)
theorem opc_n {k : Nat} (hk : k < 10000) : opc (n32 k) = (1, n32 k) := by
  unfold opc
  rw [if_neg (nn_ne (by omega) (by decide)), if_neg (nn_ne (by omega) (by decide)), if_neg (nn_ne (by omega) (by decide)), if_neg (nn_ne (by omega) (by decide)), if_neg (nn_ne (by omega) (by decide)), if_neg (nn_ne (by omega) (by decide)), if_neg (nn_ne (by omega) (by decide)), if_neg (nn_ne (by omega) (by decide)), if_neg (nn_ne (by omega) (by decide)), if_neg (nn_ne (by omega) (by decide)), if_neg (nn_ne (by omega) (by decide))]
theorem opc_ne {s : Int32} (h : stp s) : (opc s).1 ≠ 0 := by
  rcases h with ⟨k, hk, rfl⟩ | rfl | rfl | rfl | rfl | rfl | rfl | rfl | rfl | rfl | rfl | rfl
  · rw [opc_n hk]
    show (1 : Int32) ≠ 0
    decide
  all_goals decide
theorem pm_both {s a b : Int32} {m : mi_M} (h : stp s) (h1 : s < -3) (h2 : s ≠ -4) : f_X12_both (opc s).1 a b m = some (jn s a b) := by
  unfold f_X12_both f_X12_both_J96 f_X12_both_J86 f_X12_both_J62 f_X12_both_J73 f_X12_both_J87 f_X12_both_J101
  rcases h with ⟨k, hk, rfl⟩ | rfl | rfl | rfl | rfl | rfl | rfl | rfl | rfl | rfl | rfl | rfl
  · exact absurd h1 (nn_lt (by omega) (by decide))
  · exact absurd h1 (by decide)
  · exact absurd h1 (by decide)
  · exact absurd h1 (by decide)
  · exact absurd rfl h2
  all_goals simp [opc, jn]
  all_goals (repeat' split)
  all_goals first | rfl | simp_all
def mlaw (m : mi_M) (q : Nat) (code : List Int32) : Prop := q + code.length < 1100 ∧ (∀ k (h : k < code.length), m.1 57 0 (q + k) = (opc code[k]).1 ∧ m.1 58 0 (q + k) = (opc code[k]).2) ∧ m.1 57 0 (q + code.length) = 0
theorem pm_worth {q : Nat} {code : List Int32} {a b d : Int32} {m : mi_M} (hc : mlaw m q code) (hok : okc 40 code 0 1) (fa : m.1 62 0 0 = a) (fb : m.1 62 0 1 = b) (fd : m.1 62 0 2 = d) :
    wo (f_X12_worthAt (n32 q) m) (fun r => r.1 = evl (a, b, d) code 0 (fun _ => 0) ∧ kp (fun k i _ => k = 63 ∧ i = 0) m r.2) := by
  obtain ⟨hle, hs, he⟩ := hc
  unfold f_X12_worthAt
  simp only [pw_bo]
  refine pl_for (fun k s => ∃ h g, s.1 = n32 h ∧ h ≤ 40 ∧ s.2.1 = n32 (q + k) ∧ (∀ j, j < h → s.2.2.1 63 0 j = g j) ∧ okc 40 (code.drop k) h 1 ∧ evl (a, b, d) (code.drop k) h g = evl (a, b, d) code 0 (fun _ => 0) ∧ kp (fun k i _ => k = 63 ∧ i = 0) m s.2.2) code.length (by omega) ⟨0, fun _ => 0, rfl, by omega, rfl, fun _ h => absurd h (by omega), hok, rfl, kp.rf⟩ ?_
  rintro k ⟨l8, l9, m1⟩ hk ⟨h, g, h1, hh, h2, hg, ho, hv, hkp⟩
  simp only at h1 h2 hg hkp
  subst h1 h2
  unfold f_X12_worthAt_B4
  simp (disch := omega) only [pw_g, pw_let, pw_if, pw_some, n32_in, n32_cl]
  refine ⟨by omega, fun hx => ?_, fun hx => ?_⟩
  · by_cases hkl : k < code.length
    · rw [hkp.1 57 0 (q + k) (by omega), (hs k hkl).1] at hx
      rw [List.drop_eq_getElem_cons hkl] at ho
      exact absurd hx (opc_ne ho.1)
    · have hkl : k = code.length := by omega
      subst hkl
      rw [List.drop_length] at ho hv
      have ho : h = 1 := ho
      subst ho
      rw [lr_r]
      unfold f_X12_worthAt_K4
      simp (disch := omega) only [pw_g, pw_some, n32_lin, n32_lcl]
      refine ⟨by omega, ?_, hkp⟩
      rw [hg 0 (by omega)]
      exact hv
  · have hkl : k < code.length := by
      by_cases hkl : k < code.length
      · exact hkl
      · have hkl : k = code.length := by omega
        subst hkl
        exact absurd ((hkp.1 57 0 (q + code.length) (by omega)).trans he) hx
    have r57 : m1.1 57 0 (q + k) = (opc code[k]).1 := by rw [hkp.1 57 0 (q + k) (by omega), (hs k hkl).1]
    have r58 : m1.1 58 0 (q + k) = (opc code[k]).2 := by rw [hkp.1 58 0 (q + k) (by omega), (hs k hkl).2]
    rw [List.drop_eq_getElem_cons hkl] at ho hv
    simp only [r57]
    generalize code[k] = s at ho hv r58 r57 ⊢
    obtain ⟨hs, ho⟩ := ho
    rw [evl_cons] at hv
    have push : ∀ v, s < -3 → False ∨ v = fct (a, b, d) s → True := fun _ _ _ => trivial
    have fin : ¬ s < -3 → wo (f_X12_worthAt_J64 (n32 h) (n32 (q + k)) m1 (fct (a, b, d) s)) (lr (fun s' => k < code.length ∧ ∃ h g, s'.1 = n32 h ∧ h ≤ 40 ∧ s'.2.1 = n32 (q + (k + 1)) ∧ (∀ j, j < h → s'.2.2.1 63 0 j = g j) ∧ okc 40 (code.drop (k + 1)) h 1 ∧ evl (a, b, d) (code.drop (k + 1)) h g = evl (a, b, d) code 0 (fun _ => 0) ∧ kp (fun k i _ => k = 63 ∧ i = 0) m s'.2.2) (fun e => wo (f_X12_worthAt_K4 e) (fun r => r.1 = evl (a, b, d) code 0 (fun _ => 0) ∧ kp (fun k i _ => k = 63 ∧ i = 0) m r.2))) := by
      intro c1
      rw [if_neg c1] at ho hv
      unfold f_X12_worthAt_J64 f_X12_worthAt_J134
      simp (disch := omega) only [pw_some, pw_g, pw_let, n32_in, n32_cl, lr_l, n32_al]
      refine ⟨by omega, hkl, h + 1, _, rfl, by omega, rfl, ?_, ho.2, hv, hkp.wI ⟨rfl, rfl⟩⟩
      intro j hj
      rw [rI]
      unfold fu
      by_cases e : j = h
      · rw [if_pos ⟨rfl, rfl, e⟩, if_pos e]
      · rw [if_neg (fun x => e x.2.2), if_neg e, hg j (by omega)]
    have f0 : m1.1 62 0 0 = a := by rw [hkp.1 62 0 0 (by omega), fa]
    have f1 : m1.1 62 0 1 = b := by rw [hkp.1 62 0 1 (by omega), fb]
    have f2 : m1.1 62 0 2 = d := by rw [hkp.1 62 0 2 (by omega), fd]
    have hbin : s < -3 → s ≠ -4 → wo (f_X12_both (opc s).1 (m1.1 63 0 (h - 1 - 1)) (m1.1 63 0 (h - 1)) m1) (fun v20 => vp_in (n32 (h - 1 - 1)) 1100 ∧ wo (f_X12_worthAt_J134 (n32 (q + k)) (n32 (h - 1)) (mi_wI m1 63 0 (h - 1 - 1) v20)) (lr (fun s' => k < code.length ∧ ∃ h g, s'.1 = n32 h ∧ h ≤ 40 ∧ s'.2.1 = n32 (q + (k + 1)) ∧ (∀ j, j < h → s'.2.2.1 63 0 j = g j) ∧ okc 40 (code.drop (k + 1)) h 1 ∧ evl (a, b, d) (code.drop (k + 1)) h g = evl (a, b, d) code 0 (fun _ => 0) ∧ kp (fun k i _ => k = 63 ∧ i = 0) m s'.2.2) (fun e => wo (f_X12_worthAt_K4 e) (fun r => r.1 = evl (a, b, d) code 0 (fun _ => 0) ∧ kp (fun k i _ => k = 63 ∧ i = 0) m r.2)))) := by
      intro c1 c2
      rw [if_pos c1, if_neg c2] at ho hv
      rw [pm_both hs c1 c2, pw_some]
      unfold f_X12_worthAt_J134
      rw [pw_some, lr_l]
      refine ⟨(n32_in (by omega)).mpr (by omega), hkl, h - 1, _, rfl, by omega, by rw [n32_al]; rfl, ?_, ho.2, hv, hkp.wI ⟨rfl, rfl⟩⟩
      intro j hj
      rw [rI]
      unfold fu
      by_cases e : j = h - 2
      · rw [if_pos ⟨rfl, rfl, by omega⟩, if_pos e, show h - 1 - 1 = h - 2 by omega, hg (h - 2) (by omega), hg (h - 1) (by omega)]
      · rw [if_neg (fun x => e (by omega)), if_neg e, hg j (by omega)]
    refine ⟨by omega, ?_⟩
    rcases hs with ⟨z, hz, rfl⟩ | rfl | rfl | rfl | rfl | rfl | rfl | rfl | rfl | rfl | rfl | rfl
    · have c1 : ¬ n32 z < -3 := nn_lt (by omega) (by decide)
      have fin := fin c1
      have e0 : fct (a, b, d) (n32 z) = n32 z := by
        unfold fct
        rw [if_neg (nn_ne (by omega) (by decide)), if_neg (nn_ne (by omega) (by decide)), if_neg (nn_ne (by omega) (by decide))]
      rw [opc_n hz] at r58 ⊢
      rw [e0] at fin
      refine ⟨fun _ => ?_, fun n => absurd rfl n⟩
      unfold f_X12_worthAt_J33
      simp (disch := omega) only [pw_if, pw_g, n32_in, n32_cl, r58]
      exact ⟨fun _ => ⟨by omega, fin⟩, fun n => absurd trivial n⟩
    · have fin := fin (by decide)
      refine ⟨fun n => absurd n (by decide), fun _ => ⟨fun _ => ?_, fun n => absurd rfl n⟩⟩
      unfold f_X12_worthAt_J33
      simp (disch := omega) only [pw_if, pw_g, n32_in, n32_cl, r58]
      exact ⟨fun n => absurd n (by decide), fun _ => ⟨by omega, (n32_in (k := 0) (by omega)).mpr (by omega), by rw [show (opc (-1)).2.toNatClampNeg = 0 by decide, f0]; exact fin⟩⟩
    · have fin := fin (by decide)
      refine ⟨fun n => absurd n (by decide), fun _ => ⟨fun _ => ?_, fun n => absurd rfl n⟩⟩
      unfold f_X12_worthAt_J33
      simp (disch := omega) only [pw_if, pw_g, n32_in, n32_cl, r58]
      exact ⟨fun n => absurd n (by decide), fun _ => ⟨by omega, (n32_in (k := 1) (by omega)).mpr (by omega), by rw [show (opc (-2)).2.toNatClampNeg = 1 by decide, f1]; exact fin⟩⟩
    · have fin := fin (by decide)
      refine ⟨fun n => absurd n (by decide), fun _ => ⟨fun _ => ?_, fun n => absurd rfl n⟩⟩
      unfold f_X12_worthAt_J33
      simp (disch := omega) only [pw_if, pw_g, n32_in, n32_cl, r58]
      exact ⟨fun n => absurd n (by decide), fun _ => ⟨by omega, (n32_in (k := 2) (by omega)).mpr (by omega), by rw [show (opc (-3)).2.toNatClampNeg = 2 by decide, f2]; exact fin⟩⟩
    · refine ⟨fun n => absurd n (by decide), fun _ => ⟨fun n => absurd n (by decide), fun _ => ⟨fun _ => ?_, fun n => absurd rfl n⟩⟩⟩
      rw [if_pos (by decide), if_pos rfl] at ho hv
      simp (disch := omega) only [n32_sl, n32_in, n32_cl]
      have fin : ∀ v, v = (if g (h - 1) = 0 then (1 : Int32) else 0) → wo (f_X12_worthAt_J100 (n32 h) (n32 (q + k)) m1 v) (lr (fun s' => k < code.length ∧ ∃ h g, s'.1 = n32 h ∧ h ≤ 40 ∧ s'.2.1 = n32 (q + (k + 1)) ∧ (∀ j, j < h → s'.2.2.1 63 0 j = g j) ∧ okc 40 (code.drop (k + 1)) h 1 ∧ evl (a, b, d) (code.drop (k + 1)) h g = evl (a, b, d) code 0 (fun _ => 0) ∧ kp (fun k i _ => k = 63 ∧ i = 0) m s'.2.2) (fun e => wo (f_X12_worthAt_K4 e) (fun r => r.1 = evl (a, b, d) code 0 (fun _ => 0) ∧ kp (fun k i _ => k = 63 ∧ i = 0) m r.2))) := by
        intro v hv2
        unfold f_X12_worthAt_J100 f_X12_worthAt_J134
        simp (disch := omega) only [pw_some, pw_g, pw_let, n32_sl, n32_in, n32_cl, lr_l, n32_al]
        refine ⟨by omega, hkl, h, _, rfl, hh, rfl, ?_, ho.2, hv, hkp.wI ⟨rfl, rfl⟩⟩
        intro j hj
        rw [rI]
        unfold fu
        by_cases e : j = h - 1
        · simp [e, hv2]
        · simp [e, hg j hj]
      refine ⟨by omega, fun y => ?_, fun y => ?_⟩
      · rw [hg (h - 1) (by omega)] at y
        exact fin _ (by rw [if_pos y])
      · rw [hg (h - 1) (by omega)] at y
        exact fin _ (by rw [if_neg y])
    all_goals
      refine ⟨fun n => absurd n (by decide), fun _ => ⟨fun n => absurd n (by decide), fun _ => ⟨fun n => absurd n (by decide), fun _ => ?_⟩⟩⟩
      have hbin := hbin (by decide) (by decide)
      have h2 : 2 ≤ h := by
        rw [if_pos (by decide), if_neg (by decide)] at ho
        exact ho.1
      simp (disch := omega) only [n32_m1, n32_sl, n32_in, n32_cl, pw_bo, pw_g, pw_let]
      simp (disch := omega) only [n32_in] at hbin
      exact ⟨by omega, by omega, hbin⟩
