theorem pm_wordHere {m : mi_M} {L : List Nat} {c n v f k : Nat} (h : rS m L c n v) (hL : tkN L c) (hf : f + k ≤ 26) : f_X12_wordHere (n32 f) (n32 k) m = some (if v = 0 ∧ f ≤ wX L n ∧ wX L n < f + k then n32 (wX L n - f) else -1) := by
  apply pw_eq
  unfold f_X12_wordHere
  rw [pw_bo]
  refine pl_for (fun j z => z.2 = n32 j ∧ z.1 = if v = 0 ∧ f ≤ wX L n ∧ wX L n < f + j then n32 (wX L n - f) else -1) k (by omega) ⟨rfl, by rw [if_neg (by omega)]⟩ ?_
  rintro j ⟨z, l⟩ hj ⟨a1, a2⟩
  simp only at a1 a2
  subst a1
  unfold f_X12_wordHere_B5
  dsimp only
  rw [pw_if, n32_le (by omega) (by omega), pw_some, lr_r]
  refine ⟨fun hx => ?_, fun hx => ?_⟩
  · have : j = k := by omega
    subst this
    exact pw_some.mpr a2
  · rw [n32_add, pm_isWord h hL (by omega), pe_bo]
    unfold f_X12_wordHere_J28
    by_cases q : v = 0 ∧ wX L n = f + j
    · rw [if_pos q, if_neg (by decide), pw_some, lr_l]
      refine ⟨by omega, n32_al _ _, ?_⟩
      show n32 j = _
      rw [if_pos (by omega), show wX L n - f = j by omega]
    · rw [if_neg q, if_pos rfl, pw_some, lr_l]
      refine ⟨by omega, n32_al _ _, ?_⟩
      show z = _
      rw [a2]
      by_cases y : v = 0 ∧ f ≤ wX L n ∧ wX L n < f + j
      · rw [if_pos y, if_pos (by omega)]
      · rw [if_neg y, if_neg (by omega)]
def eK (L : List Nat) (n : Nat) : Nat := if 16 ≤ wX L n ∧ wX L n < 20 then 0 else 1
theorem pm_takeOne {m : mi_M} {L : List Nat} {c n v : Nat} (h : rS m L c n v) (hL : tkN L c) : wo (f_X12_takeOne (16 : Int32) (4 : Int32) m) (fun r => rP L c m (sx L (eK L) (n, v)) r.2 ∧ r.1 = n32 (if (sx L (eK L) (n, v)).2 = 0 then wX L n - 16 else 0)) := by
  have nc := h.2.2.1
  unfold f_X12_takeOne f_X12_takeOne_J17
  by_cases hv : v = 0
  · subst hv
    rw [if_pos (h.f0.2.mpr rfl), show f_X12_wordHere 16 4 m = _ from pm_wordHere (f := 16) (k := 4) h hL (by omega), pe_bo, if_pos (h.f0.1.mpr rfl)]
    by_cases q : 16 ≤ wX L n ∧ wX L n < 20
    · have e0 : eK L n = 0 := if_pos q
      have q1 := wX_k (L := L) (n := n) (by omega)
      have q2 := hL.k nc (by omega)
      have r1 := rp_at h (show n + 1 ≤ c by omega)
      rw [if_pos (show (0 : Nat) = 0 ∧ 16 ≤ wX L n ∧ wX L n < 16 + 4 by omega), if_pos (n32_ge0 (by omega)), sx_y e0]
      unfold f_X12_takeOne_J34 f_X12_takeOne_J51 f_X12_takeOne_J67
      rw [if_pos (h.f0.2.mpr rfl), pw_let, if_pos (r1.1.f0.2.mpr rfl), pw_some]
      exact ⟨r1, by rw [if_pos rfl]⟩
    · have e1 : eK L n = 1 := if_neg q
      rw [if_neg (show ¬ ((0 : Nat) = 0 ∧ 16 ≤ wX L n ∧ wX L n < 16 + 4) by omega), if_neg (show ¬ (0 : Int32) ≤ -1 by decide), pw_bo, sx_n (by omega), e1]
      refine pw_mono (pm_wrong (e := 1) h hL (by omega)) ?_
      intro m1 hr
      have r1 := rp_a0 hr.1
      unfold f_X12_takeOne_J34 f_X12_takeOne_J51 f_X12_takeOne_J67
      rw [if_neg (fun x => absurd (hr.1.f0.2.mp x) (by show 1 + 16 * plT L n ≠ 0; omega)), pw_let, if_neg (fun x => absurd (r1.1.f0.2.mp x) (by show 1 + 16 * plT L n ≠ 0; omega)), pw_some]
      exact ⟨hr.tr r1, by rw [if_neg (by show 1 + 16 * plT L n ≠ 0; omega)]; rfl⟩
  · have r1 := rp_a0 h
    rw [if_neg (fun x => hv (h.f0.2.mp x)), if_neg (fun x => hv (h.f0.1.mp x)), sx_f hv]
    unfold f_X12_takeOne_J34 f_X12_takeOne_J51 f_X12_takeOne_J67
    rw [if_neg (fun x => hv (h.f0.2.mp x)), pw_let, if_neg (fun x => hv (r1.1.f0.2.mp x)), pw_some]
    exact ⟨r1, by rw [if_neg hv]; rfl⟩
theorem pm_isName {m : mi_M} {L : List Nat} {c n v : Nat} (h : rS m L c n v) (hL : tkN L c) : f_X12_isName m = some (if v = 0 ∧ kD L n = 2 ∧ 23 ≤ wX L n then 1 else 0) := by
  obtain ⟨i1, i2⟩ := h.ix hL
  have ms := mS_k _ (kD_lt L n)
  unfold f_X12_isName f_X12_isName_J34 f_X12_isName_J35
  rw [pg1, pg0, pe_g i1, i2, h.s, show f_X12_wordHere 0 23 m = _ from pm_wordHere (f := 0) (k := 23) h hL (by omega), pe_bo]
  by_cases hv : v = 0
  · rw [if_pos (h.f0.1.mpr hv)]
    by_cases hk : kD L n = 2
    · rw [if_pos (ms.1.mpr hk)]
      have := wX_le L n
      by_cases q : 23 ≤ wX L n
      · rw [if_neg (show ¬ (v = 0 ∧ 0 ≤ wX L n ∧ wX L n < 0 + 23) by omega), if_neg (by decide), if_pos ⟨hv, hk, q⟩]
      · rw [if_pos (show v = 0 ∧ 0 ≤ wX L n ∧ wX L n < 0 + 23 by omega), if_pos (n32_ge0 (by omega)), if_neg (fun x => q x.2.2)]
    · rw [if_neg (fun x => hk (ms.1.mp x)), if_neg (fun x => hk x.2.1)]
  · rw [if_neg (fun x => hv (h.f0.1.mp x)), if_neg (fun x => hv x.1)]
/-- the names told so far, as the reference holds them -/
def namM (m : mi_M) (L : List Nat) (nm : Nat → Nat) (k : Nat) : Prop := k ≤ 6 ∧ m.1 12 0 16 = n32 k ∧ (∀ j, j < k → m.2.1 60 0 j = n64 (nM L (nm j)) ∧ kD L (nm j) = 2) ∧ ∀ i j, i < k → j < k → nM L (nm i) = nM L (nm j) → i = j
theorem namM.mv {m m' : mi_M} {L : List Nat} {nm : Nat → Nat} {k : Nat} {P : Nat → Nat → Nat → Prop} (h : namM m L nm k) (hk : kp P m m') (h1 : ¬ P 12 0 16) (h2 : ∀ p, ¬ P 160 0 p) : namM m' L nm k :=
  ⟨h.1, by rw [hk.1 12 0 16 h1]; exact h.2.1, fun j hj => by rw [hk.2.1 60 0 j (h2 j)]; exact h.2.2.1 j hj, h.2.2.2⟩
theorem fnd_m {L : List Nat} {nm : Nat → Nat} {k n j : Nat} (hj : j < k) (hd : ∀ i j, i < k → j < k → nM L (nm i) = nM L (nm j) → i = j) : nM L (nm j) = nM L n ↔ j = fdN L nm k n := by
  obtain ⟨a1, a2, a3, a4⟩ := fq_sp (P := fun j => decide (nM L (nm j) = nM L n)) k 0
  have e : fdN L nm k n = fq (fun j => decide (nM L (nm j) = nM L n)) k 0 := rfl
  rw [← e] at a1 a2 a3 a4
  constructor
  · intro h
    have l1 : ¬ j < fdN L nm k n := fun x => absurd (a3 j (by omega) x) (by rw [decide_eq_true h]; decide)
    have q := of_decide_eq_true (a4 (by omega))
    exact hd j _ hj (by omega) (h.trans q.symm)
  · intro h
    have q := of_decide_eq_true (a4 (by omega))
    rw [h]
    exact q
theorem pm_find {m : mi_M} {L : List Nat} {c n v k : Nat} {nm : Nat → Nat} (h : rS m L c n v) (hL : tkN L c) (hN : namM m L nm k) (hk : kD L n = 2) : f_X12_find m = some (if fdN L nm k n < k then n32 (fdN L nm k n) else -1) := by
  obtain ⟨i1, i2⟩ := h.ix hL
  obtain ⟨h1, h2, h3, h4⟩ := hN
  have e54 : m.2.1 54 0 n = n64 (nM L n) := (h.1.2.2.2 n h.2.2.1).2.2.1 hk
  apply pw_eq
  unfold f_X12_find
  rw [pw_bo]
  refine pl_for (fun j z => z.2 = n32 j ∧ z.1 = if fdN L nm k n < j then n32 (fdN L nm k n) else -1) k (by omega) ⟨rfl, by rw [if_neg (by omega)]⟩ ?_
  rintro j ⟨z, l⟩ hj ⟨a1, a2⟩
  simp only at a1 a2
  subst a1
  unfold f_X12_find_B4
  dsimp only
  rw [h2, pw_if, n32_le (by omega) (by omega), pw_some, lr_r]
  refine ⟨fun hx => ?_, fun hx => ?_⟩
  · have : j = k := by omega
    subst this
    exact pw_some.mpr a2
  · have hj : j < k := by omega
    obtain ⟨g1, g2⟩ := h3 j hj
    obtain ⟨d1, d2⟩ := wd_tok g2
    obtain ⟨o1, o2⟩ := wd_tok hk
    have em : lg_cmp (n64 (nM L (nm j))) (n64 (nM L n)) = 0 ↔ j = fdN L nm k n := by
      rw [lg_cmp0, ← fnd_m hj h4]
      exact n64_eq (wN_l8 (by omega) (by omega) d1 d2) (wN_l8 (by omega) (by omega) o1 o2)
    rw [pw_g, pw_g, i2, n32_in (by omega), n32_cl (by omega), g1, e54]
    unfold f_X12_find_J36
    refine ⟨by omega, i1, ?_⟩
    by_cases q : j = fdN L nm k n
    · rw [if_pos (em.mpr q), pw_some, lr_l]
      refine ⟨by omega, n32_al _ _, ?_⟩
      show n32 j = _
      rw [if_pos (by omega), ← q]
    · rw [if_neg (fun x => q (em.mp x)), pw_some, lr_l]
      refine ⟨by omega, n32_al _ _, ?_⟩
      show z = _
      rw [a2]
      by_cases y : fdN L nm k n < j
      · rw [if_pos y, if_pos (by omega)]
      · rw [if_neg y, if_neg (by omega)]
/-- as sx, but the token stays -/
def sy (L : List Nat) (e : Nat → Nat) (s : Nat × Nat) : Nat × Nat := if s.2 = 0 then (if e s.1 = 0 then s else (s.1, e s.1 + 16 * plT L s.1)) else s
theorem sy_f {L : List Nat} {e : Nat → Nat} {n v : Nat} (h : v ≠ 0) : sy L e (n, v) = (n, v) := if_neg h
theorem sy_y {L : List Nat} {e : Nat → Nat} {n : Nat} (h : e n = 0) : sy L e (n, 0) = (n, 0) := by
  unfold sy
  rw [if_pos rfl]
  exact if_pos h
theorem sy_n {L : List Nat} {e : Nat → Nat} {n : Nat} (h : e n ≠ 0) : sy L e (n, 0) = (n, e n + 16 * plT L n) := by
  unfold sy
  rw [if_pos rfl]
  exact if_neg h
theorem fnd99 {L : List Nat} {nm : Nat → Nat} {k n : Nat} (hk : k ≤ 6) : fdN L nm k n ≠ 99 := by
  have := fnd_le (L := L) (nm := nm) (k := k) (n := n)
  omega
theorem pm_toldHere {m : mi_M} {L : List Nat} {c n v k : Nat} {nm : Nat → Nat} (h : rS m L c n v) (hL : tkN L c) (hN : namM m L nm k) : wo (f_X12_toldHere m) (fun r => rP L c m (sy L (eO L nm k 99) (n, v)) r.2 ∧ r.1 = n32 (if (sy L (eO L nm k 99) (n, v)).2 = 0 then fdN L nm k n else 0)) := by
  have h6 := hN.1
  unfold f_X12_toldHere
  by_cases hv : v = 0
  · subst hv
    have bad : ∀ e m1 (x : Int32), e ≠ 0 → eO L nm k 99 n = e → rP L c m (n, e + 16 * plT L n) m1 → wo (f_X12_toldHere_J51 x m1) (fun r => rP L c m (sy L (eO L nm k 99) (n, 0)) r.2 ∧ r.1 = n32 (if (sy L (eO L nm k 99) (n, 0)).2 = 0 then fdN L nm k n else 0)) := by
      intro e m1 x he ee hr
      unfold f_X12_toldHere_J51 f_X12_toldHere_J63
      rw [if_neg (fun x => absurd (hr.1.f0.2.mp x) (by show e + 16 * plT L n ≠ 0; omega)), pw_some, sy_n (by omega), ee]
      exact ⟨hr, by rw [if_neg (by show e + 16 * plT L n ≠ 0; omega)]; rfl⟩
    rw [if_pos (h.f0.1.mpr rfl), pm_isName h hL, pe_bo, if01]
    by_cases q : kD L n = 2 ∧ 23 ≤ wX L n
    · rw [if_pos (show (0 : Nat) = 0 ∧ kD L n = 2 ∧ 23 ≤ wX L n from ⟨rfl, q⟩)]
      unfold f_X12_toldHere_J19 f_X12_toldHere_J34
      rw [if_pos (h.f0.2.mpr rfl), pm_find h hL hN q.1, pe_bo, if_pos (h.f0.1.mpr rfl)]
      by_cases f : fdN L nm k n < k
      · have e0 : eO L nm k 99 n = 0 := by unfold eO; rw [if_pos q, if_pos f, if_neg (fnd99 h6)]
        rw [if_pos f, if_pos (n32_ge0 (by omega))]
        unfold f_X12_toldHere_J51 f_X12_toldHere_J63
        rw [if_pos (h.f0.2.mpr rfl), pw_some, sy_y e0]
        exact ⟨rp_id h, by rw [if_pos rfl]⟩
      · rw [if_neg f, if_neg (by decide), pw_bo]
        refine pw_mono (pm_wrong (e := 2) h hL (by omega)) ?_
        exact fun a ha => bad 2 a _ (by decide) (by unfold eO; rw [if_pos q, if_neg f]) ha
    · rw [if_neg (show ¬ ((0 : Nat) = 0 ∧ kD L n = 2 ∧ 23 ≤ wX L n) from fun x => q x.2), pw_bo]
      refine pw_mono (pm_wrong (e := 1) h hL (by omega)) ?_
      intro m1 hr
      unfold f_X12_toldHere_J19 f_X12_toldHere_J34
      rw [if_neg (fun x => absurd (hr.1.f0.2.mp x) (by show 1 + 16 * plT L n ≠ 0; omega)), if_neg (fun x => absurd (hr.1.f0.1.mp x) (by show 1 + 16 * plT L n ≠ 0; omega))]
      exact bad 1 m1 _ (by decide) (by unfold eO; rw [if_neg q]) hr
  · rw [if_neg (fun x => hv (h.f0.1.mp x)), sy_f hv]
    unfold f_X12_toldHere_J19 f_X12_toldHere_J34 f_X12_toldHere_J51 f_X12_toldHere_J63
    rw [if_neg (fun x => hv (h.f0.2.mp x)), if_neg (fun x => hv (h.f0.1.mp x)), if_neg (fun x => hv (h.f0.2.mp x)), pw_some]
    exact ⟨rp_id h, by rw [if_neg hv]; rfl⟩
theorem eO_k {L : List Nat} {nm : Nat → Nat} {k a n : Nat} (h : eO L nm k a n = 0) : kD L n = 2 ∧ 23 ≤ wX L n ∧ fdN L nm k n < k ∧ fdN L nm k n ≠ a := by
  unfold eO at h
  by_cases q : kD L n = 2 ∧ 23 ≤ wX L n
  · rw [if_pos q] at h
    by_cases f : fdN L nm k n < k
    · rw [if_pos f] at h
      by_cases g : fdN L nm k n = a
      · rw [if_pos g] at h; omega
      · exact ⟨q.1, q.2, f, g⟩
    · rw [if_neg f] at h; omega
  · rw [if_neg q] at h; omega
theorem pm_takeTold {m : mi_M} {L : List Nat} {c n v k : Nat} {nm : Nat → Nat} (h : rS m L c n v) (hL : tkN L c) (hN : namM m L nm k) : wo (f_X12_takeTold m) (fun r => rP L c m (sx L (eO L nm k 99) (n, v)) r.2 ∧ r.1 = n32 (if (sx L (eO L nm k 99) (n, v)).2 = 0 then fdN L nm k n else 0)) := by
  unfold f_X12_takeTold f_X12_takeTold_J22
  rw [pw_b]
  refine pw_mono (pm_toldHere h hL hN) ?_
  rintro ⟨r, m1⟩ ⟨a1, a2⟩
  simp only at a1 a2
  dsimp only
  by_cases hv : v = 0
  · subst hv
    by_cases e0 : eO L nm k 99 n = 0
    · rw [sy_y e0] at a1 a2
      have q := hL.k h.2.2.1 (by rw [(eO_k e0).1]; decide)
      have r1 := rp_at a1.1 (show n + 1 ≤ c by omega)
      rw [if_pos (a1.1.f0.2.mpr rfl), pw_let, pw_some, sx_y e0]
      exact ⟨a1.tr r1, a2⟩
    · rw [sy_n e0] at a1 a2
      have r1 := rp_a0 a1.1
      rw [if_neg (fun x => absurd (a1.1.f0.2.mp x) (by show eO L nm k 99 n + 16 * plT L n ≠ 0; omega)), pw_let, pw_some, sx_n e0]
      exact ⟨a1.tr r1, a2⟩
  · rw [sy_f hv] at a1 a2
    have r1 := rp_a0 a1.1
    rw [if_neg (fun x => hv (a1.1.f0.2.mp x)), pw_let, pw_some, sx_f hv]
    exact ⟨a1.tr r1, a2⟩
/-- another door than a, and no lane told of both -/
def eQ (L : List Nat) (nm T : Nat → Nat) (k a n : Nat) : Nat := if eO L nm k 99 n = 0 then (if fdN L nm k n = a ∨ 0 < T (21 + 6 * a + fdN L nm k n) then 3 else 0) else eO L nm k 99 n
theorem eO_2 {L : List Nat} {nm : Nat → Nat} {k a n : Nat} (hk : k ≤ 6) : eO L nm k a n = if eO L nm k 99 n = 0 then (if fdN L nm k n = a then 3 else 0) else eO L nm k 99 n := by
  unfold eO
  by_cases q : kD L n = 2 ∧ 23 ≤ wX L n
  · rw [if_pos q, if_pos q]
    by_cases f : fdN L nm k n < k
    · rw [if_pos f, if_pos f, if_neg (fnd99 hk), if_pos rfl]
    · rw [if_neg f, if_neg f, if_neg (by decide)]
  · rw [if_neg q, if_neg q, if_neg (by decide)]
theorem pm_takeOther {m : mi_M} {L : List Nat} {c n v k a fl : Nat} {nm T : Nat → Nat} {e : Nat → Nat} (h : rS m L c n v) (hL : tkN L c) (hN : namM m L nm k) (ha : a < 6) (hf : fl = 0 ∨ fl = 1) (hT : fl = 1 → ∀ b, b < 6 → m.1 56 0 (121 + 6 * a + b) = n32 (T (21 + 6 * a + b)) ∧ T (21 + 6 * a + b) < 100000) (he : e n = if fl = 1 then eQ L nm T k a n else eO L nm k a n) : wo (f_X12_takeOther (n32 a) (n32 fl) m) (fun r => rP L c m (sx L e (n, v)) r.2 ∧ r.1 = n32 (if v = 0 ∧ eO L nm k 99 n = 0 then fdN L nm k n else 0)) := by
  have h6 := hN.1
  have fl6 := fnd_le (L := L) (nm := nm) (k := k) (n := n)
  unfold f_X12_takeOther f_X12_takeOther_J38
  rw [pw_b]
  refine pw_mono (pm_toldHere h hL hN) ?_
  rintro ⟨r, m1⟩ ⟨a1, a2⟩
  simp only at a1 a2
  dsimp only
  by_cases hv : v = 0
  · subst hv
    by_cases e0 : eO L nm k 99 n = 0
    · have f := (eO_k e0).2.2.1
      rw [sy_y e0] at a1 a2
      rw [if_pos rfl] at a2
      rw [if_pos (a1.1.f0.1.mpr rfl), a2]
      have q := hL.k h.2.2.1 (by rw [(eO_k e0).1]; decide)
      have ev : n32 (fdN L nm k n) = n32 (if (0 : Nat) = 0 ∧ eO L nm k 99 n = 0 then fdN L nm k n else 0) := by rw [if_pos ⟨rfl, e0⟩]
      have good : e n = 0 → wo (f_X12_takeOther_J43 (n32 (fdN L nm k n)) m1) (fun r => rP L c m (sx L e (n, 0)) r.2 ∧ r.1 = n32 (if (0 : Nat) = 0 ∧ eO L nm k 99 n = 0 then fdN L nm k n else 0)) := by
        intro z
        have r1 := rp_at a1.1 (show n + 1 ≤ c by omega)
        unfold f_X12_takeOther_J43 f_X12_takeOther_J60
        rw [if_pos (a1.1.f0.2.mpr rfl), pw_let, pw_some, sx_y z]
        exact ⟨a1.tr r1, ev⟩
      have bad : e n = 3 → wo (mi_bo (f_X12_wrong (3 : Int32) m1) fun m7 => f_X12_takeOther_J43 (n32 (fdN L nm k n)) m7) (fun r => rP L c m (sx L e (n, 0)) r.2 ∧ r.1 = n32 (if (0 : Nat) = 0 ∧ eO L nm k 99 n = 0 then fdN L nm k n else 0)) := by
        intro z
        rw [pw_bo]
        refine pw_mono (pm_wrong (e := 3) a1.1 hL (by omega)) ?_
        intro m2 hr
        have r1 := rp_a0 hr.1
        unfold f_X12_takeOther_J43 f_X12_takeOther_J60
        rw [if_neg (fun x => absurd (hr.1.f0.2.mp x) (by show 3 + 16 * plT L n ≠ 0; omega)), pw_let, pw_some, sx_n (by omega), z]
        exact ⟨(a1.tr hr).tr r1, ev⟩
      rw [pw_if, n32_eq (by omega) (by omega), pw_if]
      rw [eO_2 h6, if_pos e0] at he
      unfold eQ at he
      rw [if_pos e0] at he
      refine ⟨fun z => bad ?_, fun z => ⟨fun y => good ?_, fun y => ?_⟩⟩
      · by_cases hfl : fl = 1
        · rw [he, if_pos hfl, if_pos (Or.inl z)]
        · rw [he, if_neg hfl, if_pos z]
      · have : fl = 0 := by
          rcases hf with x | x
          · exact x
          · rw [x] at y; exact absurd y (by decide)
        rw [he, if_neg (by omega), if_neg z]
      · have f1 : fl = 1 := by
          rcases hf with x | x
          · rw [x] at y; exact absurd (by rfl) y
          · exact x
        obtain ⟨g1, g2⟩ := hT f1 (fdN L nm k n) (by omega)
        rw [if_pos f1] at he
        rw [n32_lm, n32_la, n32_add, pw_g, n32_in (by omega), n32_cl (by omega), a1.2.1 56 0 _ (by omega), g1, pw_if]
        refine ⟨by omega, fun y => good ?_, fun y => bad ?_⟩
        · have y := (n32_le (b := 0) (by omega) (by omega)).mp y
          rw [he, if_neg (by omega)]
        · have y : ¬ T (21 + 6 * a + fdN L nm k n) ≤ 0 := fun q => y ((n32_le (b := 0) (by omega) (by omega)).mpr q)
          rw [he, if_pos (by omega)]
    · rw [sy_n e0] at a1 a2
      have en : e n = eO L nm k 99 n := by
        rw [he, eO_2 h6, if_neg e0]
        unfold eQ
        rw [if_neg e0]
        split <;> rfl
      have r1 := rp_a0 a1.1
      rw [if_neg (fun x => absurd (a1.1.f0.1.mp x) (by show eO L nm k 99 n + 16 * plT L n ≠ 0; omega))]
      unfold f_X12_takeOther_J43 f_X12_takeOther_J60
      rw [if_neg (fun x => absurd (a1.1.f0.2.mp x) (by show eO L nm k 99 n + 16 * plT L n ≠ 0; omega)), pw_let, pw_some, sx_n (by omega), en]
      refine ⟨a1.tr r1, ?_⟩
      rw [a2, if_neg (by show eO L nm k 99 n + 16 * plT L n ≠ 0; omega), if_neg (fun x => e0 x.2)]
  · rw [sy_f hv] at a1 a2
    have r1 := rp_a0 a1.1
    rw [if_neg (fun x => hv (a1.1.f0.1.mp x)), sx_f hv]
    unfold f_X12_takeOther_J43 f_X12_takeOther_J60
    rw [if_neg (fun x => hv (a1.1.f0.2.mp x)), pw_let, pw_some]
    refine ⟨a1.tr r1, ?_⟩
    rw [a2, if_neg hv, if_neg (fun x => hv x.1)]
