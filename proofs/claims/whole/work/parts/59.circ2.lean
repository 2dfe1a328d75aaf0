/-! ===== circle: both sides ===== -/
theorem fq_cg {P P' : Nat → Bool} : ∀ k w, (∀ j, w ≤ j → j < w + k → P j = P' j) → fq P k w = fq P' k w
  | 0, w, _ => rfl
  | k + 1, w, h => by
    unfold fq
    rw [h w (Nat.le_refl _) (by omega), fq_cg k (w + 1) (fun j a b => h j (by omega) (by omega))]
theorem gR_s {n : Nat} {b t : Nat → Nat} {k s a : Nat} : gR n b t (k + 1) s a = if s = 0 then some a else if fq (fun w => s.testBit w && decide (b w = a)) n 0 < n then gR n b t k (clr s (fq (fun w => s.testBit w && decide (b w = a)) n 0)) (t (fq (fun w => s.testBit w && decide (b w = a)) n 0)) else none := rfl
theorem iR_s {n : Nat} {b t : Nat → Nat} {s f k w sn j : Nat} : iR n b t s f (k + 1) w sn j = if sn.testBit w = true then none else if cn (fun v => s.testBit v && decide (b v = t w)) n = 1 then (if t w = b f then some (j + 1) else iR n b t s f k (la (fun v => s.testBit v && decide (b v = t w)) n) (stS sn w) (j + 1)) else none := rfl
theorem clr_n : ∀ s, s < 256 → ∀ w, w < 8 → n32 s &&& (((1 : Int32) <<< (n32 w &&& 31)) ^^^ (-1 : Int32)) = n32 (clr s w) := by decide +kernel
theorem stS_n : ∀ s, s < 256 → ∀ w, w < 8 → (n32 s ||| ((1 : Int32) <<< (n32 w &&& 31)) = n32 (stS s w) ∧ (s.testBit w = false → pcN (stS s w) = pcN s + 1)) := by decide +kernel
theorem pc_firstBy {c s : Nat} {p : Int32} {m : mi_M} {T : Nat → Nat} (h : cTw m c T) (hT : tOK T) : f_X2_firstBy c (n32 s) p m = some (if fq (fun w => s.testBit w && decide (p = -1 ∨ n32 (byA T w) = p)) (T 2) 0 < T 2 then n32 (fq (fun w => s.testBit w && decide (p = -1 ∨ n32 (byA T w) = p)) (T 2) 0) else -1) := by
  have h8 := hT.1.2.1
  apply pw_eq
  unfold f_X2_firstBy
  rw [pw_bo]
  refine pl_for (fun k l => l = n32 k ∧ ∀ j, j < k → (s.testBit j && decide (p = -1 ∨ n32 (byA T j) = p)) = false) (T 2) (by omega) ⟨rfl, fun j hj => absurd hj (by omega)⟩ ?_
  rintro k l hk ⟨rfl, a2⟩
  unfold f_X2_firstBy_B2
  rw [h.1.2.1]
  simp (disch := omega) only [pw_if, pw_some, n32_le, lr_r, pw_bo, pc_holds]
  refine ⟨fun hz => ?_, fun hz => ?_⟩
  · have : k = T 2 := by omega
    subst this
    unfold f_X2_firstBy_K2
    rw [pw_some, fq_no a2, if_neg (Nat.lt_irrefl _)]
  · have hk : k < T 2 := by omega
    have skip : (s.testBit k && decide (p = -1 ∨ n32 (byA T k) = p)) = false → wo (f_X2_firstBy_J35 (n32 k)) (lr (fun s' => k < T 2 ∧ s' = n32 (k + 1) ∧ ∀ j, j < k + 1 → (s.testBit j && decide (p = -1 ∨ n32 (byA T j) = p)) = false) (fun e => wo (f_X2_firstBy_K2 e) (fun r => r = if fq (fun w => s.testBit w && decide (p = -1 ∨ n32 (byA T w) = p)) (T 2) 0 < T 2 then n32 (fq (fun w => s.testBit w && decide (p = -1 ∨ n32 (byA T w) = p)) (T 2) 0) else -1))) := by
      intro q
      unfold f_X2_firstBy_J35
      rw [pw_some, lr_l, n32_al]
      refine ⟨hk, rfl, fun j hj => ?_⟩
      by_cases e : j = k
      · subst e; exact q
      · exact a2 j (by omega)
    have take : (s.testBit k && decide (p = -1 ∨ n32 (byA T k) = p)) = true → wo (f_X2_firstBy_K2 (.inl (n32 k))) (fun r => r = if fq (fun w => s.testBit w && decide (p = -1 ∨ n32 (byA T w) = p)) (T 2) 0 < T 2 then n32 (fq (fun w => s.testBit w && decide (p = -1 ∨ n32 (byA T w) = p)) (T 2) 0) else -1) := by
      intro q
      unfold f_X2_firstBy_K2
      rw [pw_some, fq_eq (P := fun w => s.testBit w && decide (p = -1 ∨ n32 (byA T w) = p)) hk q a2, if_pos hk]
    cases e : s.testBit k with
    | false => exact ⟨fun _ => skip (by rw [e]; rfl), fun x => absurd rfl x⟩
    | true =>
      refine ⟨fun x => absurd x (by decide), fun _ => ⟨fun x => take (by rw [e, decide_eq_true (Or.inl x)]; rfl), fun x => ?_⟩⟩
      rw [pw_g, n32_in (by omega), n32_cl (by omega), (h.2.2.1 k hk).1]
      refine ⟨by omega, ?_⟩
      rw [pw_if]
      refine ⟨fun y => ?_, fun y => skip (by rw [decide_eq_false (fun z => z.elim x y), Bool.and_false])⟩
      rw [pw_some, lr_r]
      exact take (by rw [e, decide_eq_true (Or.inr y)]; rfl)
theorem pc_goes {c s : Nat} {m : mi_M} {T : Nat → Nat} (h : cTw m c T) (hT : tOK T) (hs : s < 2 ^ T 2) (h0 : s ≠ 0) : wo (f_X2_goesRound c (n32 s) m) (fun r => (cQ (T 2) (byA T) (toA T) s → r = 1) ∧ (¬ cQ (T 2) (byA T) (toA T) s → r = 0)) := by
  have h8 := hT.1.2.1
  have h6 := hT.1.1
  have hs8 : s < 256 := Nat.lt_of_lt_of_le hs (Nat.pow_le_pow_right (n := 2) (i := T 2) (j := 8) (by decide) h8)
  obtain ⟨f1, f2⟩ := fW_in hs h0
  have fb := (hT.2.2.1 _ f1)
  unfold f_X2_goesRound
  rw [pw_bo]
  refine pl_for (fun k z => (k = 0 ∧ z = (-1, -1, n32 s, 0)) ∨ (1 ≤ k ∧ ∃ l a, z = (n32 (byA T (fW (T 2) s)), n32 a, n32 l, n32 k) ∧ l < 256 ∧ a ≤ 5 ∧ gR (T 2) (byA T) (toA T) (8 - k) l a = gR (T 2) (byA T) (toA T) 7 (clr s (fW (T 2) s)) (toA T (fW (T 2) s)))) 8 (by omega) (Or.inl ⟨rfl, rfl⟩) ?_
  rintro k z hk (⟨rfl, rfl⟩ | ⟨k1, l, a, rfl, l8, a5, gg⟩)
  · unfold f_X2_goesRound_B10
    simp only [pw_if]
    refine ⟨fun x => absurd x (by decide), fun _ => ⟨fun x => absurd ((n32_eqL (b := 0) (by omega) (by decide)).mp x) h0, fun _ => ?_⟩⟩
    rw [pc_firstBy h hT, pw_bo, pw_some]
    have e : fq (fun w => s.testBit w && decide ((-1 : Int32) = -1 ∨ n32 (byA T w) = -1)) (T 2) 0 = fW (T 2) s := fq_cg _ _ (fun j _ _ => by simp)
    rw [e, if_pos f1, if_neg (by rw [n32_eqN (by omega)]; exact id), if_pos (by trivial)]
    unfold f_X2_goesRound_J52
    simp (disch := omega) only [pw_g, pw_let, pw_some, n32_in, n32_cl, lr_l]
    rw [(h.2.2.1 _ f1).1, (h.2.2.1 _ f1).2.1, clr_n s hs8 _ (by omega)]
    exact ⟨by omega, by omega, by omega, Or.inr ⟨by omega, _, _, rfl, clr_lt _ _, by omega, rfl⟩⟩
  · have fin : ∀ r, gR (T 2) (byA T) (toA T) 7 (clr s (fW (T 2) s)) (toA T (fW (T 2) s)) = r → (r = some a ∧ l = 0 ∨ r = none ∧ l ≠ 0) → wo (f_X2_goesRound_K10 (.inr (n32 (byA T (fW (T 2) s)), n32 a, n32 l))) (fun r => (cQ (T 2) (byA T) (toA T) s → r = 1) ∧ (¬ cQ (T 2) (byA T) (toA T) s → r = 0)) := by
      intro r hr h2
      unfold f_X2_goesRound_K10 f_X2_goesRound_J91 f_X2_goesRound_J92
      unfold cQ
      rw [hr]
      simp (disch := omega) only [pw_if, pw_g, pw_some, n32_eqL, n32_eq]
      rcases h2 with ⟨rfl, rfl⟩ | ⟨rfl, h2⟩
      · refine ⟨fun _ => ⟨fun x => ⟨by decide, fun _ => by trivial, fun y => absurd (by rw [x]) y⟩, fun x => ⟨by decide, fun y => absurd (Option.some.inj y) x, fun _ => by trivial⟩⟩, fun x => absurd (by trivial) x⟩
      · exact ⟨fun x => absurd x h2, fun _ => ⟨by decide, fun y => absurd y (by simp), fun _ => (by trivial)⟩⟩
    unfold f_X2_goesRound_B10
    simp (disch := omega) only [pw_if, n32_Lle, n32_eqL, pw_some, lr_r]
    refine ⟨fun x => ?_, fun x => ⟨fun y => ?_, fun y => ?_⟩⟩
    · have : k = 8 := by omega
      subst this
      refine fin _ gg.symm ?_
      show (if l = 0 then some a else none) = some a ∧ _ ∨ (if l = 0 then some a else none) = none ∧ _
      by_cases e : l = 0
      · exact Or.inl ⟨if_pos e, e⟩
      · exact Or.inr ⟨if_neg e, e⟩
    · refine fin _ gg.symm (Or.inl ⟨?_, y⟩)
      obtain ⟨j, hj⟩ : ∃ j, 8 - k = j + 1 := ⟨8 - k - 1, by omega⟩
      rw [hj]
      unfold gR
      rw [if_pos y]
    · obtain ⟨j, hj⟩ : ∃ j, 8 - k = j + 1 := ⟨8 - k - 1, by omega⟩
      rw [hj, gR_s (k := j) (s := l) (a := a)] at gg
      rw [if_neg y] at gg
      rw [pc_firstBy h hT, pw_bo, pw_some]
      have e : fq (fun w => l.testBit w && decide (n32 a = -1 ∨ n32 (byA T w) = n32 a)) (T 2) 0 = fq (fun w => l.testBit w && decide (byA T w = a)) (T 2) 0 := fq_cg _ _ (fun v _ hv => by
        have := (hT.2.2.1 v (by omega)).1
        congr 1
        rw [decide_eq_decide, n32_eqN (by omega), n32_eq (by omega) (by omega)]
        simp)
      rw [e]
      by_cases g : fq (fun w => l.testBit w && decide (byA T w = a)) (T 2) 0 < T 2
      · rw [if_pos g] at gg ⊢
        have vb := (hT.2.2.1 _ g)
        rw [if_neg (by rw [n32_eqN (by omega)]; exact id), if_neg (by rw [n32_eqN (by omega)]; exact id)]
        unfold f_X2_goesRound_J52
        simp (disch := omega) only [pw_g, pw_let, pw_some, n32_in, n32_cl, lr_l, n32_al]
        rw [(h.2.2.1 _ g).2.1, clr_n l l8 _ (by omega)]
        refine ⟨by omega, by omega, Or.inr ⟨by omega, _, _, rfl, clr_lt _ _, by omega, ?_⟩⟩
        rw [show 8 - (k + 1) = j by omega]
        exact gg
      · rw [if_neg g] at gg ⊢
        rw [if_pos rfl, pw_some, lr_r]
        unfold f_X2_goesRound_K10
        rw [pw_g, pw_some]
        unfold cQ
        rw [← gg]
        exact ⟨by decide, fun x => absurd x (by simp), fun _ => (by trivial)⟩
def oN : Option Nat → Int32
  | none => -1
  | some v => n32 v
theorem lsC_b {R : Nat → Prop} : ∀ {k v}, lsC R k = some v → 0 < v ∧ v ≤ k
  | 0, v, h => by cases h
  | k + 1, v, h => by
    unfold lsC at h
    split at h
    · cases h; omega
    · have := lsC_b h; omega
theorem lsC_y {R : Nat → Prop} {k : Nat} (h : (∀ v, lsC R k = some v → pcN (k + 1) < pcN v) ∧ R (k + 1)) : lsC R (k + 1) = some (k + 1) := if_pos h
theorem lsC_n {R : Nat → Prop} {k : Nat} (h : ¬ ((∀ v, lsC R k = some v → pcN (k + 1) < pcN v) ∧ R (k + 1))) : lsC R (k + 1) = lsC R k := if_neg h
def opS (S : Nat → Int32) (s : Nat) : Prop := ∀ w, s.testBit w = true → S (22 + w) = 0
theorem opS_and {T : Nat → Nat} {S : Nat → Int32} {s : Nat} (hs : sOK T S) (h8 : s < 256) : s &&& bs (fun w => S (22 + w) == 1) 8 = 0 ↔ opS S s := by
  constructor
  · intro h w hw
    have : (s &&& bs (fun w => S (22 + w) == 1) 8).testBit w = false := by rw [h, Nat.zero_testBit]
    have w8 := t8 h8 hw
    rw [Nat.testBit_and, hw, bs_tb, decide_eq_true w8] at this
    rcases (hs.2.2.2.2.1 w w8).1 with e | e
    · exact e
    · rw [e] at this; cases this
  · intro h
    apply Nat.eq_of_testBit_eq
    intro w
    rw [Nat.testBit_and, Nat.zero_testBit, bs_tb]
    by_cases e : s.testBit w = true
    · rw [h w e]; simp
    · rw [show s.testBit w = false by simpa using e]; rfl
theorem pc_least {c : Nat} {m : mi_M} {T : Nat → Nat} {S : Nat → Int32} (h : cTw m c T) (hT : tOK T) (hS : cSt m 0 S) (hs : sOK T S) : f_X2_leastCircle c 0 m = some (oN (lsC (fun s => opS S s ∧ cQ (T 2) (byA T) (toA T) s) (2 ^ T 2 - 1))) := by
  have h8 := hT.1.2.1
  have hp : 0 < 2 ^ T 2 := Nat.two_pow_pos _
  have h256 : 2 ^ T 2 ≤ 256 := Nat.pow_le_pow_right (n := 2) (i := T 2) (j := 8) (by decide) h8
  apply pw_eq
  unfold f_X2_leastCircle
  rw [pw_bo]
  refine pl_for (fun k z => z = (oN (lsC (fun s => opS S s ∧ cQ (T 2) (byA T) (toA T) s) k), n32 (k + 1))) (2 ^ T 2 - 1) (by omega) rfl ?_
  rintro k z hk rfl
  unfold f_X2_leastCircle_B5
  rw [h.1.2.1, sh_1 (by omega), hS.1.2.2.1]
  simp (disch := omega) only [pw_if, pw_some, n32_le, lr_r]
  refine ⟨fun hz => ?_, fun hz => ?_⟩
  · have : k = 2 ^ T 2 - 1 := by omega
    rw [← this]
    unfold f_X2_leastCircle_K5
    rw [pw_some]
  · have st : ∀ v, v = oN (lsC (fun s => opS S s ∧ cQ (T 2) (byA T) (toA T) s) (k + 1)) → wo (f_X2_leastCircle_J55 (n32 (k + 1)) v) (lr (fun s' => k < 2 ^ T 2 - 1 ∧ s' = (oN (lsC (fun s => opS S s ∧ cQ (T 2) (byA T) (toA T) s) (k + 1)), n32 (k + 1 + 1))) (fun e => wo (f_X2_leastCircle_K5 e) (fun r => r = oN (lsC (fun s => opS S s ∧ cQ (T 2) (byA T) (toA T) s) (2 ^ T 2 - 1))))) := by
      rintro v rfl
      unfold f_X2_leastCircle_J55
      rw [pw_some, lr_l, n32_al]
      exact ⟨by omega, rfl⟩
    have j43 : opS S (k + 1) → (∀ v, lsC (fun s => opS S s ∧ cQ (T 2) (byA T) (toA T) s) k = some v → pcN (k + 1) < pcN v) → wo (f_X2_leastCircle_J43 c m (oN (lsC (fun s => opS S s ∧ cQ (T 2) (byA T) (toA T) s) k)) (n32 (k + 1))) (lr (fun s' => k < 2 ^ T 2 - 1 ∧ s' = (oN (lsC (fun s => opS S s ∧ cQ (T 2) (byA T) (toA T) s) (k + 1)), n32 (k + 1 + 1))) (fun e => wo (f_X2_leastCircle_K5 e) (fun r => r = oN (lsC (fun s => opS S s ∧ cQ (T 2) (byA T) (toA T) s) (2 ^ T 2 - 1))))) := by
      intro ho hl
      unfold f_X2_leastCircle_J43
      rw [pw_bo]
      refine pw_mono (pc_goes (s := k + 1) h hT (by omega) (by omega)) ?_
      rintro r ⟨r1, r2⟩
      by_cases q : cQ (T 2) (byA T) (toA T) (k + 1)
      · rw [r1 q, if_neg (by decide)]
        exact st _ (by rw [lsC_y ⟨hl, ho, q⟩]; rfl)
      · rw [r2 q, if_pos rfl]
        exact st _ (by rw [lsC_n (fun z => q z.2.2)])
    rw [and_0 _ (by omega) _ (bs_lt _ 8), opS_and hs (by omega)]
    refine ⟨fun ho => ?_, fun ho => st _ (by rw [lsC_n (fun z => ho z.2.1)])⟩
    cases el : lsC (fun s => opS S s ∧ cQ (T 2) (byA T) (toA T) s) k with
    | none =>
      refine ⟨fun _ => ?_, fun x => absurd rfl x⟩
      have := j43 ho (fun v hv => by rw [el] at hv; cases hv)
      rw [el] at this
      exact this
    | some u =>
      have ub := lsC_b el
      have p1 := pcN_8 u
      have p2 := pcN_8 (k + 1)
      show (n32 u = -1 → _) ∧ _
      refine ⟨fun x => absurd x (by rw [n32_eqN (by omega)]; exact id), fun _ => ?_⟩
      show wo (mi_bo (f_J6_bitCount_0f7a4 (n32 (k + 1)) m) fun v7 => mi_bo (f_J6_bitCount_0f7a4 (n32 u) m) fun v8 => _) _
      rw [pc_bits (by omega), pe_bo, pc_bits (by omega), pe_bo, pw_if, n32_le (by omega) (by omega)]
      refine ⟨fun x => st _ ?_, fun x => ?_⟩
      · rw [lsC_n (fun z => by have := z.1 u el; omega), el]
      · have := j43 ho (fun v hv => by rw [el] at hv; cases hv; omega)
        rw [el] at this
        exact this
