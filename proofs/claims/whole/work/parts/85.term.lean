/-! ===== terms: what both read ===== -/
def bn (o : Option ((Nat × Nat) ⊕ (Nat × List Int32))) (k : Nat → List Int32 → Option ((Nat × Nat) ⊕ (Nat × List Int32))) : Option ((Nat × Nat) ⊕ (Nat × List Int32)) :=
  match o with
  | none => none
  | some (.inl e) => some (.inl e)
  | some (.inr (n, c)) => k n c
theorem bn_inv {o : Option ((Nat × Nat) ⊕ (Nat × List Int32))} {k : Nat → List Int32 → Option ((Nat × Nat) ⊕ (Nat × List Int32))} {r : (Nat × Nat) ⊕ (Nat × List Int32)} (h : bn o k = some r) : (∃ e, o = some (.inl e) ∧ r = .inl e) ∨ (∃ n c, o = some (.inr (n, c)) ∧ k n c = some r) := by
  match o, h with
  | some (.inl e), h => exact Or.inl ⟨e, rfl, (Option.some.inj h).symm⟩
  | some (.inr (n, c)), h => exact Or.inr ⟨n, c, rfl, h⟩
/-- the step that joins there at a rank; 0: none -/
def jo (L : List Nat) (r n : Nat) : Int32 :=
  if r = 0 then (if wX L n = 21 then -5 else if wX L n = 22 then -6 else 0)
  else if r = 1 then (if kD L n = 4 ∧ vL L n = 60 then -7 else if kD L n = 4 ∧ vL L n = 61 then -8 else 0)
  else if r = 2 then (if kD L n = 4 ∧ vL L n = 43 then -9 else if kD L n = 4 ∧ vL L n = 45 then -10 else 0)
  else (if kD L n = 4 ∧ vL L n = 42 then -11 else 0)
/-- md: 0 to 3 a term of that rank, 4 a part, 5 to 8 what is joined at rank 0 to 3; d how deep -/
def pt (L : List Nat) : Nat → Nat → Nat → Nat → Option ((Nat × Nat) ⊕ (Nat × List Int32))
  | 0, _, _, _ => none
  | f + 1, md, d, n =>
    if md < 4 then bn (pt L f (md + 1) d n) fun n1 c1 => bn (pt L f (md + 5) d n1) fun n2 c2 => some (.inr (n2, c1 ++ c2))
    else if md = 4 then
      (if wX L n = 20 then (if d < 5 then bn (pt L f 4 (d + 1) (n + 1)) fun n1 c1 => some (.inr (n1, c1 ++ [-4])) else some (.inl (5, n)))
      else if kD L n = 4 ∧ vL L n = 40 then (if d < 5 then bn (pt L f 0 (d + 1) (n + 1)) fun n1 c1 => (if kD L n1 = 4 ∧ vL L n1 = 41 then some (.inr (n1 + 1, c1)) else some (.inl (1, n1))) else some (.inl (5, n)))
      else if 23 ≤ wX L n ∧ wX L n < 26 then (if d < 5 then some (.inr (n + 1, [-1 - n32 (wX L n - 23)])) else some (.inl (5, n)))
      else if kD L n = 3 then (if d < 5 then some (.inr (n + 1, [n32 (vL L n)])) else some (.inl (5, n)))
      else some (.inl (1, n)))
    else if jo L (md - 5) n = 0 then some (.inr (n, []))
    else bn (pt L f (md - 4) d (n + 1)) fun n1 c1 => (if md = 6 then some (.inr (n1, c1 ++ [jo L (md - 5) n])) else bn (pt L f md d n1) fun n2 c2 => some (.inr (n2, (c1 ++ [jo L (md - 5) n]) ++ c2)))
theorem pt_t {L : List Nat} {f md d n : Nat} (h : md < 4) : pt L (f + 1) md d n = bn (pt L f (md + 1) d n) fun n1 c1 => bn (pt L f (md + 5) d n1) fun n2 c2 => some (.inr (n2, c1 ++ c2)) := by
  rw [pt.eq_2, if_pos h]
theorem pt_p {L : List Nat} {f d n : Nat} : pt L (f + 1) 4 d n = (if wX L n = 20 then (if d < 5 then bn (pt L f 4 (d + 1) (n + 1)) fun n1 c1 => some (.inr (n1, c1 ++ [-4])) else some (.inl (5, n)))
      else if kD L n = 4 ∧ vL L n = 40 then (if d < 5 then bn (pt L f 0 (d + 1) (n + 1)) fun n1 c1 => (if kD L n1 = 4 ∧ vL L n1 = 41 then some (.inr (n1 + 1, c1)) else some (.inl (1, n1))) else some (.inl (5, n)))
      else if 23 ≤ wX L n ∧ wX L n < 26 then (if d < 5 then some (.inr (n + 1, [-1 - n32 (wX L n - 23)])) else some (.inl (5, n)))
      else if kD L n = 3 then (if d < 5 then some (.inr (n + 1, [n32 (vL L n)])) else some (.inl (5, n)))
      else some (.inl (1, n))) := by
  rw [pt.eq_2, if_neg (by omega), if_pos rfl]
theorem pt_l {L : List Nat} {f r d n : Nat} : pt L (f + 1) (r + 5) d n = if jo L r n = 0 then some (.inr (n, [])) else bn (pt L f (r + 1) d (n + 1)) fun n1 c1 => (if r = 1 then some (.inr (n1, c1 ++ [jo L r n])) else bn (pt L f (r + 5) d n1) fun n2 c2 => some (.inr (n2, (c1 ++ [jo L r n]) ++ c2))) := by
  rw [pt.eq_2, if_neg (by omega), if_neg (by omega), show r + 5 - 5 = r by omega, show r + 5 - 4 = r + 1 by omega]
  simp only [show (r + 5 = 6) = (r = 1) from propext (by omega)]
theorem jo_ok {L : List Nat} {r n : Nat} (h : jo L r n ≠ 0) : kD L n ≠ 0 ∧ stp (jo L r n) ∧ jo L r n < -3 ∧ jo L r n ≠ -4 := by
  have key : jo L r n = 0 ∨ (kD L n ≠ 0 ∧ (jo L r n = -5 ∨ jo L r n = -6 ∨ jo L r n = -7 ∨ jo L r n = -8 ∨ jo L r n = -9 ∨ jo L r n = -10 ∨ jo L r n = -11)) := by
    have kk : wX L n < 26 → kD L n = 2 := wX_k
    unfold jo
    repeat' split
    all_goals first
      | exact Or.inl rfl
      | exact Or.inr ⟨by omega, by decide⟩
  rcases key with x | ⟨k, x⟩
  · exact absurd x h
  · refine ⟨k, ?_⟩
    rcases x with x | x | x | x | x | x | x
    all_goals
      rw [x]
      exact ⟨by simp [stp], by decide, by decide⟩
def okR (c n K h : Nat) (r : (Nat × Nat) ⊕ (Nat × List Int32)) : Prop := (∀ k nf, r = .inl (k, nf) → n ≤ nf ∧ nf ≤ c ∧ 1 ≤ k ∧ k ≤ 5) ∧ ∀ n1 c1, r = .inr (n1, c1) → n ≤ n1 ∧ n1 ≤ c ∧ c1.length ≤ n1 - n ∧ okc K c1 h 1 ∧ (h = 0 → n < n1)
theorem okR_l {c n K h k nf : Nat} (h1 : n ≤ nf) (h2 : nf ≤ c) (h3 : 1 ≤ k) (h4 : k ≤ 5) : okR c n K h (.inl (k, nf)) := by
  refine ⟨fun k' nf' e => ?_, fun n1 c1 e => (by cases e)⟩
  have e := Sum.inl.inj e
  have e1 : k = k' := congrArg Prod.fst e
  have e2 : nf = nf' := congrArg Prod.snd e
  subst e1 e2
  exact ⟨h1, h2, h3, h4⟩
theorem okR_r {c n K h n1 : Nat} {c1 : List Int32} (h1 : n ≤ n1) (h2 : n1 ≤ c) (h3 : c1.length ≤ n1 - n) (h4 : okc K c1 h 1) (h5 : h = 0 → n < n1) : okR c n K h (.inr (n1, c1)) := by
  refine ⟨fun k' nf' e => (by cases e), fun n1' c1' e => ?_⟩
  have e := Sum.inr.inj e
  have e1 : n1 = n1' := congrArg Prod.fst e
  have e2 : c1 = c1' := congrArg Prod.snd e
  subst e1 e2
  exact ⟨h1, h2, h3, h4, h5⟩
theorem okc_1 {K : Nat} {s : Int32} (hK : 0 < K) (hs : stp s) (h3 : ¬ s < -3) : okc K [s] 0 1 := by
  refine ⟨hs, ?_⟩
  rw [if_neg h3]
  exact ⟨hK, rfl⟩
theorem okc_j {K : Nat} {s : Int32} (hs : stp s) (h3 : s < -3) (h4 : s ≠ -4) : okc K [s] 2 1 := by
  refine ⟨hs, ?_⟩
  rw [if_pos h3, if_neg h4]
  exact ⟨by omega, rfl⟩
theorem okc_n {K : Nat} : okc K [-4] 1 1 := by
  refine ⟨by simp [stp], ?_⟩
  rw [if_pos (by decide), if_pos rfl]
  exact ⟨by omega, rfl⟩
theorem fct_ok : ∀ x, x < 26 → 23 ≤ x → (-1 - n32 (x - 23) = -1 ∨ -1 - n32 (x - 23) = -2 ∨ -1 - n32 (x - 23) = -3) := by decide
theorem pt_b {L : List Nat} {c : Nat} (hL : tkN L c) : ∀ f, (∀ md d n r, md ≤ 4 → d ≤ 5 → n ≤ c → pt L f md d n = some r → okR c n (4 * (5 - d) + 5 - md) 0 r) ∧ (∀ q d n r, q < 4 → d ≤ 5 → n ≤ c → pt L f (q + 5) d n = some r → okR c n (4 * (5 - d) + 5 - q) 1 r)
  | 0 => ⟨fun md d n r _ _ _ h => (by cases h), fun md d n r _ _ _ h => (by cases h)⟩
  | f + 1 => by
    obtain ⟨i1, i2⟩ := pt_b hL f
    have wk : ∀ n, wX L n < 26 → kD L n = 2 := fun n => wX_k
    refine ⟨fun md d n r h1 h2 h3 h => ?_, fun q d n r h1 h2 h3 h => ?_⟩
    · by_cases hm : md < 4
      · rw [pt_t hm] at h
        rcases bn_inv h with ⟨⟨k, nf⟩, a1, a2⟩ | ⟨n1, c1, a1, a2⟩
        · obtain ⟨b1, b2, b3, b4⟩ := (i1 _ _ _ _ (by omega) h2 h3 a1).1 k nf rfl
          rw [a2]
          exact okR_l b1 b2 b3 b4
        · obtain ⟨b1, b2, b3, b4, b5⟩ := (i1 _ _ _ _ (by omega) h2 h3 a1).2 n1 c1 rfl
          have b5 := b5 rfl
          rcases bn_inv a2 with ⟨⟨k, nf⟩, d1, d2⟩ | ⟨n2, c2, d1, d2⟩
          · obtain ⟨e1, e2, e3, e4⟩ := (i2 _ _ _ _ hm h2 b2 d1).1 k nf rfl
            rw [d2]
            exact okR_l (by omega) e2 e3 e4
          · obtain ⟨e1, e2, e3, e4, -⟩ := (i2 _ _ _ _ hm h2 b2 d1).2 n2 c2 rfl
            rw [← Option.some.inj d2]
            refine okR_r (by omega) e2 (by rw [List.length_append]; omega) (okc_app (okc_mo (by omega) b4) e4) (by omega)
      · have : md = 4 := by omega
        subst this
        rw [pt_p] at h
        have h5 : ∀ r', some (Sum.inl (5, n) : (Nat × Nat) ⊕ (Nat × List Int32)) = some r' → okR c n (4 * (5 - d) + 5 - 4) 0 r' := fun r' e => by
          rw [← Option.some.inj e]
          exact okR_l (by omega) h3 (by omega) (by omega)
        by_cases q1 : wX L n = 20
        · have nc := hL.k h3 (by rw [wk n (by omega)]; omega)
          rw [if_pos q1] at h
          by_cases qd : d < 5
          · rw [if_pos qd] at h
            rcases bn_inv h with ⟨⟨k, nf⟩, a1, a2⟩ | ⟨n1, c1, a1, a2⟩
            · obtain ⟨b1, b2, b3, b4⟩ := (i1 _ _ _ _ (by omega) (by omega) (by omega) a1).1 k nf rfl
              rw [a2]
              exact okR_l (by omega) b2 b3 b4
            · obtain ⟨b1, b2, b3, b4, b5⟩ := (i1 _ _ _ _ (by omega) (by omega) (by omega) a1).2 n1 c1 rfl
              rw [← Option.some.inj a2]
              exact okR_r (by omega) b2 (by rw [List.length_append]; show c1.length + 1 ≤ _; omega) (okc_app (okc_mo (by omega) b4) okc_n) (by omega)
          · rw [if_neg qd] at h
            exact h5 r h
        · rw [if_neg q1] at h
          by_cases q2 : kD L n = 4 ∧ vL L n = 40
          · have nc := hL.k h3 (by omega)
            rw [if_pos q2] at h
            by_cases qd : d < 5
            · rw [if_pos qd] at h
              rcases bn_inv h with ⟨⟨k, nf⟩, a1, a2⟩ | ⟨n1, c1, a1, a2⟩
              · obtain ⟨b1, b2, b3, b4⟩ := (i1 _ _ _ _ (by omega) (by omega) (by omega) a1).1 k nf rfl
                rw [a2]
                exact okR_l (by omega) b2 b3 b4
              · obtain ⟨b1, b2, b3, b4, b5⟩ := (i1 _ _ _ _ (by omega) (by omega) (by omega) a1).2 n1 c1 rfl
                by_cases q3 : kD L n1 = 4 ∧ vL L n1 = 41
                · have nc1 := hL.k b2 (by omega)
                  rw [if_pos q3] at a2
                  rw [← Option.some.inj a2]
                  exact okR_r (by omega) (by omega) (by omega) (okc_mo (by omega) b4) (by omega)
                · rw [if_neg q3] at a2
                  rw [← Option.some.inj a2]
                  exact okR_l (by omega) b2 (by omega) (by omega)
            · rw [if_neg qd] at h
              exact h5 r h
          · rw [if_neg q2] at h
            by_cases q3 : 23 ≤ wX L n ∧ wX L n < 26
            · have nc := hL.k h3 (by rw [wk n (by omega)]; omega)
              rw [if_pos q3] at h
              by_cases qd : d < 5
              · rw [if_pos qd] at h
                rw [← Option.some.inj h]
                refine okR_r (by omega) (by omega) (by show 1 ≤ _; omega) ?_ (by omega)
                rcases fct_ok _ q3.2 q3.1 with x | x | x
                all_goals
                  rw [x]
                  exact okc_1 (by omega) (by simp [stp]) (by decide)
              · rw [if_neg qd] at h
                exact h5 r h
            · rw [if_neg q3] at h
              by_cases q4 : kD L n = 3
              · have nc := hL.k h3 (by omega)
                rw [if_pos q4] at h
                by_cases qd : d < 5
                · rw [if_pos qd] at h
                  rw [← Option.some.inj h]
                  have vl := vL_lt hL.1 n
                  exact okR_r (by omega) (by omega) (by show 1 ≤ _; omega) (okc_1 (by omega) (Or.inl ⟨_, vl, rfl⟩) (nn_lt (by omega) (by decide))) (by omega)
                · rw [if_neg qd] at h
                  exact h5 r h
              · rw [if_neg q4] at h
                rw [← Option.some.inj h]
                exact okR_l (by omega) h3 (by omega) (by omega)
    · rw [pt_l] at h
      by_cases j : jo L q n = 0
      · rw [if_pos j] at h
        rw [← Option.some.inj h]
        exact okR_r (by omega) h3 (Nat.zero_le _) rfl (by omega)
      · rw [if_neg j] at h
        obtain ⟨j1, j2, j3, j4⟩ := jo_ok j
        have nc := hL.k h3 j1
        rcases bn_inv h with ⟨⟨k, nf⟩, a1, a2⟩ | ⟨n1, c1, a1, a2⟩
        · obtain ⟨b1, b2, b3, b4⟩ := (i1 _ _ _ _ (by omega) h2 (by omega) a1).1 k nf rfl
          rw [a2]
          exact okR_l (by omega) b2 b3 b4
        · obtain ⟨b1, b2, b3, b4, b5⟩ := (i1 _ _ _ _ (by omega) h2 (by omega) a1).2 n1 c1 rfl
          have o1 : okc (4 * (5 - d) + 5 - q) (c1 ++ [jo L q n]) 1 1 := by
            refine okc_app (h' := 2) ?_ (okc_j j2 j3 j4)
            exact okc_mo (by omega) (okc_up (n := 1) b4)
          have l1 : (c1 ++ [jo L q n]).length = c1.length + 1 := by rw [List.length_append]; rfl
          by_cases q6 : q = 1
          · rw [if_pos q6] at a2
            rw [← Option.some.inj a2]
            exact okR_r (by omega) b2 (by rw [l1]; omega) o1 (by omega)
          · rw [if_neg q6] at a2
            rcases bn_inv a2 with ⟨⟨k, nf⟩, d1, d2⟩ | ⟨n2, c2, d1, d2⟩
            · obtain ⟨e1, e2, e3, e4⟩ := (i2 _ _ _ _ h1 h2 b2 d1).1 k nf rfl
              rw [d2]
              exact okR_l (by omega) e2 e3 e4
            · obtain ⟨e1, e2, e3, e4, -⟩ := (i2 _ _ _ _ h1 h2 b2 d1).2 n2 c2 rfl
              rw [← Option.some.inj d2]
              exact okR_r (by omega) e2 (by rw [List.length_append, l1]; omega) (okc_app o1 e4) (by omega)
theorem bn_some {o : Option ((Nat × Nat) ⊕ (Nat × List Int32))} {k : Nat → List Int32 → Option ((Nat × Nat) ⊕ (Nat × List Int32))} (h : ∃ r, o = some r) (hk : ∀ n c, o = some (.inr (n, c)) → ∃ r, k n c = some r) : ∃ r, bn o k = some r := by
  obtain ⟨r, e⟩ := h
  match r, e with
  | .inl e1, e => rw [e]; exact ⟨.inl e1, rfl⟩
  | .inr (n, c), e =>
    obtain ⟨r, e2⟩ := hk n c e
    rw [e]
    exact ⟨r, e2⟩
theorem pt_e {L : List Nat} {c : Nat} (hL : tkN L c) : ∀ f, (∀ md d n, md ≤ 4 → d ≤ 5 → n ≤ c → 16 * (c - n) + 6 - md ≤ f → ∃ r, pt L f md d n = some r) ∧ (∀ q d n, q < 4 → d ≤ 5 → n ≤ c → 16 * (c - n) + 1 ≤ f → ∃ r, pt L f (q + 5) d n = some r)
  | 0 => ⟨fun md d n h1 _ _ h => absurd h (by omega), fun md d n _ _ _ h => absurd h (by omega)⟩
  | f + 1 => by
    obtain ⟨i1, i2⟩ := pt_e hL f
    have wk : ∀ n, wX L n < 26 → kD L n = 2 := fun n => wX_k
    refine ⟨fun md d n h1 h2 h3 h => ?_, fun q d n h1 h2 h3 h => ?_⟩
    · by_cases hm : md < 4
      · rw [pt_t hm]
        refine bn_some (i1 _ _ _ (by omega) h2 h3 (by omega)) (fun n1 c1 e => ?_)
        obtain ⟨b1, b2, b3, b4, b5⟩ := ((pt_b hL f).1 _ _ _ _ (by omega) h2 h3 e).2 n1 c1 rfl
        have b5 := b5 rfl
        exact bn_some (i2 _ _ _ hm h2 b2 (by omega)) (fun n2 c2 _ => ⟨_, rfl⟩)
      · have : md = 4 := by omega
        subst this
        rw [pt_p]
        by_cases q1 : wX L n = 20
        · have nc := hL.k h3 (by rw [wk n (by omega)]; omega)
          rw [if_pos q1]
          by_cases qd : d < 5
          · rw [if_pos qd]
            exact bn_some (i1 _ _ _ (by omega) (by omega) (by omega) (by omega)) (fun n2 c2 _ => ⟨_, rfl⟩)
          · rw [if_neg qd]
            exact ⟨_, rfl⟩
        · rw [if_neg q1]
          by_cases q2 : kD L n = 4 ∧ vL L n = 40
          · have nc := hL.k h3 (by omega)
            rw [if_pos q2]
            by_cases qd : d < 5
            · rw [if_pos qd]
              refine bn_some (i1 _ _ _ (by omega) (by omega) (by omega) (by omega)) (fun n2 c2 _ => ?_)
              by_cases q3 : kD L n2 = 4 ∧ vL L n2 = 41
              · rw [if_pos q3]; exact ⟨_, rfl⟩
              · rw [if_neg q3]; exact ⟨_, rfl⟩
            · rw [if_neg qd]
              exact ⟨_, rfl⟩
          · rw [if_neg q2]
            repeat' split
            all_goals exact ⟨_, rfl⟩
    · rw [pt_l]
      by_cases j : jo L q n = 0
      · rw [if_pos j]; exact ⟨_, rfl⟩
      · rw [if_neg j]
        have nc := hL.k h3 (jo_ok j).1
        refine bn_some (i1 _ _ _ (by omega) h2 (by omega) (by omega)) (fun n1 c1 e => ?_)
        obtain ⟨b1, b2, b3, b4, b5⟩ := ((pt_b hL f).1 _ _ _ _ (by omega) h2 (by omega) e).2 n1 c1 rfl
        by_cases q6 : q = 1
        · rw [if_pos q6]; exact ⟨_, rfl⟩
        · rw [if_neg q6]
          exact bn_some (i2 _ _ _ h1 h2 b2 (by omega)) (fun n2 c2 _ => ⟨_, rfl⟩)
