/-! ===== circle: the reference ===== -/
theorem cn_s {P : Nat → Bool} {k : Nat} : cn P (k + 1) = cn P k + (if P k = true then 1 else 0) := rfl
theorem la_s {P : Nat → Bool} {k : Nat} : la P (k + 1) = if P k = true then k else la P k := rfl
def dn (n k : Nat) : Int32 := if k < n then n32 (n - 1 - k) else -1
theorem dn_s {n k : Nat} (h : k < n) : dn n k + (-1 : Int32) = dn n (k + 1) ∧ dn n k = n32 (n - 1 - k) := by
  have e : dn n k = n32 (n - 1 - k) := if_pos h
  refine ⟨?_, e⟩
  rw [e]
  by_cases g : k + 1 < n
  · rw [n32_m1 (by omega), show dn n (k + 1) = _ from if_pos g]
    congr 1
  · rw [show dn n (k + 1) = -1 from if_neg g, show n - 1 - k = 0 by omega]
    decide
theorem pm_first {s n : Nat} (hn : n ≤ 8) : mi_lp (f_X12_isCircle_B9 (n32 s)) mi_fu ((-1 : Int32), dn n 0) = some (if fW n s < n then n32 (fW n s) else -1) := by
  apply pw_eq
  refine pl_for (fun k z => z = (if fq (fun w => s.testBit w) k (n - k) < n then n32 (fq (fun w => s.testBit w) k (n - k)) else -1, dn n k)) n (by omega) ?_ ?_
  · show _ = ((if n < n then _ else _), _)
    rw [if_neg (Nat.lt_irrefl _)]
  · rintro k z hk rfl
    unfold f_X12_isCircle_B9 f_X12_isCircle_J27
    dsimp only
    by_cases e : k = n
    · subst e
      rw [show dn k k = -1 from if_neg (Nat.lt_irrefl _), if_pos (show (-1 : Int32) < 0 by decide), pw_some, lr_r, Nat.sub_self]
      rfl
    · have hk : k < n := by omega
      obtain ⟨d1, d2⟩ := dn_s hk
      rw [d1, d2, if_neg (n32_nn (by omega)).mp]
      simp (disch := omega) only [pw_if, tb_1, pw_some, lr_l]
      have es : fq (fun w => s.testBit w) (k + 1) (n - (k + 1)) = if s.testBit (n - 1 - k) = true then n - 1 - k else fq (fun w => s.testBit w) k (n - k) := by
        rw [show n - (k + 1) = n - 1 - k by omega]
        show (if s.testBit (n - 1 - k) = true then n - 1 - k else fq (fun w => s.testBit w) k (n - 1 - k + 1)) = _
        rw [show n - 1 - k + 1 = n - k by omega]
      rw [es]
      refine ⟨fun x => ⟨hk, ?_⟩, fun x => ⟨hk, ?_⟩⟩
      · rw [if_pos x, if_pos (by omega)]
      · rw [if_neg x]
theorem pm_count {s v : Nat} {m : mi_M} {T : Nat → Nat} (h : mTw m T) (hT : tOK T) (hv : v < 6) : mi_lp (f_X12_isCircle_B95 (n32 s) m (n32 v)) mi_fu ((-1 : Int32), (0 : Int32), (0 : Int32)) = some (if cn (fun w => s.testBit w && decide (byA T w = v)) (T 2) = 0 then -1 else n32 (la (fun w => s.testBit w && decide (byA T w = v)) (T 2)), n32 (cn (fun w => s.testBit w && decide (byA T w = v)) (T 2))) := by
  have h8 := hT.1.2.1
  have h6 := hT.1.1
  apply pw_eq
  refine pl_for (fun k z => z = (if cn (fun w => s.testBit w && decide (byA T w = v)) k = 0 then -1 else n32 (la (fun w => s.testBit w && decide (byA T w = v)) k), n32 (cn (fun w => s.testBit w && decide (byA T w = v)) k), n32 k)) (T 2) (by omega) rfl ?_
  rintro k z hk rfl
  unfold f_X12_isCircle_B95
  rw [pm_wrongs h, pw_bo, pw_some]
  simp (disch := omega) only [pw_if, n32_le, pw_some, lr_r]
  refine ⟨fun hz => ?_, fun hz => ?_⟩
  · have : k = T 2 := by omega
    subst this
    rfl
  · have hk : k < T 2 := by omega
    have tb := (hT.2.2.1 k hk).1
    have n0 : (s.testBit k && decide (byA T k = v)) = false → wo (f_X12_isCircle_J130 (if cn (fun w => s.testBit w && decide (byA T w = v)) k = 0 then -1 else n32 (la (fun w => s.testBit w && decide (byA T w = v)) k)) (n32 (cn (fun w => s.testBit w && decide (byA T w = v)) k)) (n32 k)) (lr (fun s' => k < T 2 ∧ s' = (if cn (fun w => s.testBit w && decide (byA T w = v)) (k + 1) = 0 then -1 else n32 (la (fun w => s.testBit w && decide (byA T w = v)) (k + 1)), n32 (cn (fun w => s.testBit w && decide (byA T w = v)) (k + 1)), n32 (k + 1))) (fun r => r = (if cn (fun w => s.testBit w && decide (byA T w = v)) (T 2) = 0 then -1 else n32 (la (fun w => s.testBit w && decide (byA T w = v)) (T 2)), n32 (cn (fun w => s.testBit w && decide (byA T w = v)) (T 2))))) := by
      intro q
      unfold f_X12_isCircle_J130 f_X12_isCircle_J131 f_X12_isCircle_J144 f_X12_isCircle_J157
      rw [if_pos rfl, if_pos rfl, pw_let, pw_some, lr_l]
      refine ⟨hk, ?_⟩
      rw [cn_s, la_s]
      simp only [q, Bool.false_eq_true, if_false, Nat.add_zero]
      rw [show n32 (cn (fun w => s.testBit w && decide (byA T w = v)) k) + 0 = n32 (cn (fun w => s.testBit w && decide (byA T w = v)) k) from Int32.add_zero _, n32_al]
    refine ⟨fun x => ?_, fun x => n0 ?_⟩
    · rw [tb_1 (by omega)] at x
      rw [pm_by h (by omega), pw_bo, pw_some, pw_if, n32_eq (by omega) (by omega)]
      refine ⟨fun y => ?_, fun y => n0 (by rw [decide_eq_false y, Bool.and_false])⟩
      unfold f_X12_isCircle_J131 f_X12_isCircle_J144 f_X12_isCircle_J157
      rw [if_neg (by decide), if_neg (by decide), pw_let, pw_some, lr_l, n32_al, n32_al]
      refine ⟨hk, ?_⟩
      have q : (s.testBit k && decide (byA T k = v)) = true := by rw [x, decide_eq_true y]; rfl
      rw [cn_s, la_s, if_pos q, if_pos q, if_neg (by omega)]
    · rw [tb_1 (by omega)] at x
      rw [show s.testBit k = false by simpa using x]
      rfl
theorem cn_le {P : Nat → Bool} : ∀ n, cn P n ≤ n
  | 0 => Nat.le_refl _
  | n + 1 => by
    unfold cn
    have := cn_le (P := P) n
    split <;> omega
theorem pm_isCircle {s : Nat} {m : mi_M} {T : Nat → Nat} (h : mTw m T) (hT : tOK T) (hs : s < 2 ^ T 2) (h0 : s ≠ 0) : wo (f_X12_isCircle (n32 s) m) (fun r => (cP (T 2) (byA T) (toA T) s → r = 1) ∧ (¬ cP (T 2) (byA T) (toA T) s → r = 0)) := by
  have h8 := hT.1.2.1
  have h6 := hT.1.1
  have hs8 : s < 256 := Nat.lt_of_lt_of_le hs (Nat.pow_le_pow_right (n := 2) (i := T 2) (j := 8) (by decide) h8)
  obtain ⟨f1, f2⟩ := fW_in hs h0
  have fb := (hT.2.2.1 _ f1)
  have ed : n32 (T 2) - (1 : Int32) = dn (T 2) 0 := by
    rw [show dn (T 2) 0 = n32 (T 2 - 1 - 0) from if_pos (by omega), show (1 : Int32) = n32 1 from rfl, n32_sub (by omega)]
    rfl
  unfold f_X12_isCircle
  rw [pm_wrongs h, pw_bo, pw_some, pw_let, ed, pw_bo, pm_first h8, pw_some, if_pos f1]
  unfold f_X12_isCircle_K9
  rw [if_pos (by rw [i32_le, n32_int (by omega)]; exact Int.natCast_nonneg _), pm_by h (by omega), pw_bo, pw_some]
  unfold f_X12_isCircle_J48
  rw [pw_bo]
  refine pl_for (fun k z => ∃ w sn, z = (n32 w, n32 k, n32 sn) ∧ w < T 2 ∧ sn < 256 ∧ pcN sn = k ∧ iR (T 2) (byA T) (toA T) s (fW (T 2) s) (9 - k) w sn k = iR (T 2) (byA T) (toA T) s (fW (T 2) s) 9 (fW (T 2) s) 0 0) 8 (by omega) ⟨fW (T 2) s, 0, rfl, f1, by omega, by decide, rfl⟩ ?_
  rintro k z hk ⟨w, sn, rfl, w1, sn1, sn2, ii⟩
  have wb := (hT.2.2.1 _ w1)
  obtain ⟨j, hj⟩ : ∃ j, 9 - k = j + 1 := ⟨9 - k - 1, by omega⟩
  rw [hj, iR_s (k := j) (w := w) (sn := sn) (j := k)] at ii
  unfold f_X12_isCircle_B55
  dsimp only
  rw [if_neg (n32_nn (by omega)).mp]
  simp (disch := omega) only [pw_if, tb_0]
  refine ⟨fun x => ?_, fun x => ?_⟩
  · rw [if_neg (by rw [x]; decide)] at ii
    obtain ⟨s1, s2⟩ := stS_n sn sn1 w (by omega)
    rw [pw_let, pm_to h (by omega), pw_bo, pw_some, pw_bo, pm_count h hT (by omega), pw_some, s1]
    unfold f_X12_isCircle_K95
    have c8 : cn (fun v => s.testBit v && decide (byA T v = toA T w)) (T 2) ≤ T 2 := cn_le _
    by_cases e1 : cn (fun v => s.testBit v && decide (byA T v = toA T w)) (T 2) = 1
    · rw [if_pos e1] at ii
      obtain ⟨c1, c2, c3⟩ := cn_1 _ e1
      simp only [e1]
      rw [if_pos (show n32 1 = 1 from rfl), if_neg (show ¬ (1 : Nat) = 0 by decide)]
      rw [pw_if, n32_eq (by omega) (by omega)]
      refine ⟨fun y => ?_, fun y => ?_⟩
      · rw [if_pos y] at ii
        rw [pw_some, lr_r]
        unfold f_X12_isCircle_K55
        have p8 := pcN_8 s
        show wo (mi_bo (f_X12_bits (n32 s) m) fun v7 => if n32 k + 1 = v7 then f_X12_isCircle_J194 1 else f_X12_isCircle_J194 0) _
        rw [pm_bits hs8, pe_bo, n32_al]
        unfold f_X12_isCircle_J194 cP
        rw [← ii]
        simp (disch := omega) only [pw_if, pw_g, pw_some, n32_eq]
        exact ⟨fun q => ⟨by decide, fun _ => (by trivial), fun q2 => absurd (by rw [q]) q2⟩, fun q => ⟨by decide, fun q2 => absurd (Option.some.inj q2) q, fun _ => (by trivial)⟩⟩
      · rw [if_neg y] at ii
        rw [pw_some, lr_l, n32_al]
        have p8 := pcN_8 (stS sn w)
        have s3 := s2 x
        exact ⟨by omega, _, _, rfl, c1, bs_lt _ 8, by omega, by rw [show 9 - (k + 1) = j by omega]; exact ii⟩
    · rw [if_neg e1] at ii
      show wo (if n32 (cn (fun v => s.testBit v && decide (byA T v = toA T w)) (T 2)) = 1 then _ else _) _
      rw [if_neg (by rw [n32_eqL (by omega) (by decide)]; exact e1), pw_some, lr_r]
      unfold f_X12_isCircle_K55 cP
      rw [← ii]
      show wo (mi_g ((0 : Int32) = 0 ∨ (0 : Int32) = 1) (some (0 : Int32))) _
      rw [pw_g, pw_some]
      exact ⟨by decide, fun q => absurd q (by simp), fun _ => (by trivial)⟩
  · rw [if_pos (by simpa using x)] at ii
    rw [pw_some, lr_r]
    unfold f_X12_isCircle_K55 cP
    rw [← ii]
    show wo (mi_g ((0 : Int32) = 0 ∨ (0 : Int32) = 1) (some (0 : Int32))) _
    rw [pw_g, pw_some]
    exact ⟨by decide, fun q => absurd q (by simp), fun _ => (by trivial)⟩
theorem pm_open {s : Nat} {m : mi_M} {T : Nat → Nat} {S : Nat → Int32} (h : mTw m T) (hT : tOK T) (hS : mSt m 0 S) (hs : sOK T S) (hl : s < 2 ^ T 2) : wo (mi_lp (f_X12_circle_B24 m (n32 s)) mi_fu ((1 : Int32), (0 : Int32))) (fun r => (opS S s → r = 1) ∧ (¬ opS S s → r = 0)) := by
  have h8 := hT.1.2.1
  refine pl_for (fun k z => z.2 = n32 k ∧ ((∀ w, w < k → s.testBit w = true → S (22 + w) = 0) ∧ z.1 = 1 ∨ (∃ w, s.testBit w = true ∧ S (22 + w) ≠ 0) ∧ z.1 = 0)) (T 2) (by omega) ⟨rfl, Or.inl ⟨fun w hw => absurd hw (by omega), rfl⟩⟩ ?_
  rintro k ⟨u, l⟩ hk ⟨a1, a2⟩
  simp only at a1 a2
  subst a1
  unfold f_X12_circle_B24 f_X12_circle_J60 f_X12_circle_J56 f_X12_circle_J61
  rw [pm_wrongs h, pw_bo, pw_some]
  simp (disch := omega) only [pw_if, n32_le, pw_some, lr_r, lr_l, n32_al, tb_0]
  refine ⟨fun hz => ?_, fun hz => ?_⟩
  · rcases a2 with ⟨b1, b2⟩ | ⟨⟨w, b1, b3⟩, b2⟩
    · exact ⟨fun _ => b2, fun x => absurd (fun w hw => b1 w (by have := tn hl hw; omega) hw) x⟩
    · exact ⟨fun x => absurd (x w b1) b3, fun _ => b2⟩
  · have hk : k < T 2 := by omega
    rcases a2 with ⟨b1, b2⟩ | ⟨b1, b2⟩
    · subst b2
      refine ⟨fun x => absurd x (by decide), fun _ => ⟨fun x => ⟨hk, by trivial, Or.inl ⟨fun w hw hb => ?_, by trivial⟩⟩, fun x => ?_⟩⟩
      · by_cases e : w = k
        · subst e; rw [x] at hb; cases hb
        · exact b1 w (by omega) hb
      · have x : s.testBit k = true := by simpa using x
        rw [show f_X12_isOpen (0 : Int32) (n32 k) m = _ from pm_isOpen (b := 0) h hT hS (by omega) hk, pw_bo, pw_some]
        by_cases e : S (22 + k) = 0
        · rw [if_pos e, if_neg (by decide), pw_some, lr_l]
          refine ⟨hk, by trivial, Or.inl ⟨fun w hw hb => ?_, by trivial⟩⟩
          by_cases e2 : w = k
          · subst e2; exact e
          · exact b1 w (by omega) hb
        · rw [if_neg e, if_pos rfl, pw_some, lr_l]
          exact ⟨hk, by trivial, Or.inr ⟨⟨k, x, e⟩, by trivial⟩⟩
    · subst b2
      exact ⟨fun _ => ⟨hk, by trivial, Or.inr ⟨b1, by trivial⟩⟩, fun x => absurd (by trivial) x⟩
