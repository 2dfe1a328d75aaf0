/-! ===== the developers' terms ===== -/
def cdC (m : mi_M) (e u : Nat) (l : List Int32) : Prop := m.1 1 e 4 = n32 (u + l.length) ∧ ∀ k (h : k < l.length), m.1 16 e (u + k) = l[k]
abbrev kT (e u k i p : Nat) : Prop := k67 k i p ∨ k = 1 ∧ i = e ∧ p = 4 ∨ k = 16 ∧ i = e ∧ u ≤ p
theorem cdC.app {m1 m2 : mi_M} {e u : Nat} {c1 c2 : List Int32} (h1 : cdC m1 e u c1) (h2 : cdC m2 e (u + c1.length) c2) (hk : kp (fun k i p => kT e (u + c1.length) k i p) m1 m2) : cdC m2 e u (c1 ++ c2) := by
  refine ⟨by rw [h2.1, List.length_append, Nat.add_assoc], fun k hk2 => ?_⟩
  by_cases x : k < c1.length
  · rw [List.getElem_append_left x, hk.1 16 e (u + k) (by omega)]
    exact h1.2 k x
  · rw [List.length_append] at hk2
    rw [List.getElem_append_right (by omega)]
    have := h2.2 (k - c1.length) (by omega)
    rw [show u + c1.length + (k - c1.length) = u + k by omega] at this
    exact this
theorem pc_put {m : mi_M} {e u : Nat} {s : Int32} (h : m.1 1 e 4 = n32 u) (hu : u < 5000) : wo (f_X1_put e s m) (fun m' => ∃ u', (u' = u ∨ u' = u + 1 ∧ u < 1003) ∧ m'.1 1 e 4 = n32 u' ∧ (u < 1003 → u' = u + 1 ∧ m'.1 16 e u = s) ∧ kp (fun k i p => k = 1 ∧ i = e ∧ p = 4 ∨ k = 16 ∧ i = e ∧ p = u) m m') := by
  unfold f_X1_put f_X1_put_J32
  rw [h]
  simp (disch := omega) only [pw_if, n32_Lle, pw_some, pw_g, pw_let, n32_in, n32_cl]
  refine ⟨fun x => ⟨u, Or.inl rfl, h, fun y => absurd y (by omega), kp.rf⟩, fun x => ⟨by omega, u + 1, Or.inr ⟨rfl, by omega⟩, ?_, fun _ => ⟨rfl, ?_⟩, (kp.rf.wI (Or.inr ⟨rfl, rfl, rfl⟩)).wI (Or.inl ⟨rfl, rfl, rfl⟩)⟩⟩
  · rw [rI_eq, rI_ne (by omega), h, n32_al]
  · rw [rI_ne (by omega), rI_eq]
theorem cdC.put {m : mi_M} {e u : Nat} {s : Int32} {c1 : List Int32} (h : cdC m e u c1) (hu : u + c1.length < 1003) : wo (f_X1_put e s m) (fun m' => cdC m' e u (c1 ++ [s]) ∧ kp (fun k i p => k = 1 ∧ i = e ∧ p = 4 ∨ k = 16 ∧ i = e ∧ p = u + c1.length) m m') := by
  refine pw_mono (pc_put h.1 (by omega)) ?_
  rintro m' ⟨u', -, a2, a3, a4⟩
  obtain ⟨a5, a6⟩ := a3 hu
  subst a5
  have kk : kp (fun k i p => kT e (u + c1.length) k i p) m m' := a4.mo (fun k i p a => by omega)
  refine ⟨h.app (c2 := [s]) ⟨a2, fun k hk => ?_⟩ kk, a4⟩
  have hk : k < 1 := hk
  have : k = 0 := by omega
  subst this
  exact a6
/-- what reading a term leaves -/
def tC (L : List Nat) (e u : Nat) (m : mi_M) (r : (Nat × Nat) ⊕ (Nat × List Int32)) (z : Int32 × mi_M) : Prop := (∀ k nf, r = .inl (k, nf) → z.1 = 0 ∧ z.2.1 7 0 1 = n32 (k + 16 * plT L nf) ∧ ∃ u', u ≤ u' ∧ u' < 5000 ∧ z.2.1 1 e 4 = n32 u') ∧ (∀ n1 c1, r = .inr (n1, c1) → z.1 = 1 ∧ dT z.2 L n1 ∧ cdC z.2 e u c1) ∧ kp (fun k i p => kT e u k i p) m z.2
theorem tC_l {L : List Nat} {e u k nf : Nat} {m : mi_M} {z : Int32 × mi_M} (h1 : z.1 = 0) (h2 : z.2.1 7 0 1 = n32 (k + 16 * plT L nf)) (h3 : ∃ u', u ≤ u' ∧ u' < 5000 ∧ z.2.1 1 e 4 = n32 u') (h4 : kp (fun k i p => kT e u k i p) m z.2) : tC L e u m (.inl (k, nf)) z := by
  refine ⟨fun k' nf' q => ?_, fun n1 c1 q => (by cases q), h4⟩
  have q := Sum.inl.inj q
  have e1 : k = k' := congrArg Prod.fst q
  have e2 : nf = nf' := congrArg Prod.snd q
  subst e1 e2
  exact ⟨h1, h2, h3⟩
theorem tC_r {L : List Nat} {e u n1 : Nat} {c1 : List Int32} {m : mi_M} {z : Int32 × mi_M} (h1 : z.1 = 1) (h2 : dT z.2 L n1) (h3 : cdC z.2 e u c1) (h4 : kp (fun k i p => kT e u k i p) m z.2) : tC L e u m (.inr (n1, c1)) z := by
  refine ⟨fun k' nf' q => (by cases q), fun n1' c1' q => ?_, h4⟩
  have q := Sum.inr.inj q
  have e1 : n1 = n1' := congrArg Prod.fst q
  have e2 : c1 = c1' := congrArg Prod.snd q
  subst e1 e2
  exact ⟨h1, h2, h3⟩
theorem tC.pre {L : List Nat} {e u : Nat} {m m1 : mi_M} {r : (Nat × Nat) ⊕ (Nat × List Int32)} {z : Int32 × mi_M} (h : tC L e u m1 r z) (hk : kp (fun k i p => kT e u k i p) m m1) : tC L e u m r z := ⟨h.1, h.2.1, hk.tr h.2.2⟩
theorem tC_fail {L : List Nat} {e u n x : Nat} {m : mi_M} (h : dT m L n) (hu : m.1 1 e 4 = n32 u) (h5 : u < 5000) (hx : x ≠ 0) : wo (mi_b (f_X7_fail (n32 x) m) fun v m' => mi_g (v = 0 ∨ v = 1) (some (v, m'))) (tC L e u m (.inl (x, n))) := by
  refine pw_mono (rd_01 (rd_fail h hx)) ?_
  intro z hz
  obtain ⟨a1, a2⟩ := hz.2.1 hx
  exact tC_l a1 a2 ⟨u, by omega, h5, by rw [hz.2.2.1 1 e 4 (by omega)]; exact hu⟩ (hz.2.2.mo (fun k i p a => Or.inl a))
/-- two rows of steps, one behind the other -/
theorem tC.app {L : List Nat} {e u n1 : Nat} {c1 : List Int32} {m m1 : mi_M} {r2 r : (Nat × Nat) ⊕ (Nat × List Int32)} {z : Int32 × mi_M} (h1 : cdC m1 e u c1) (hk : kp (fun k i p => kT e u k i p) m m1) (h2 : tC L e (u + c1.length) m1 r2 z) (hl : ∀ x, r2 = .inl x → r = .inl x) (hr : ∀ n2 c2, r2 = .inr (n2, c2) → r = .inr (n2, c1 ++ c2)) : tC L e u m r z := by
  have kk : kp (fun k i p => kT e u k i p) m z.2 := hk.tr (h2.2.2.mo (fun k i p a => by omega))
  match r2, h2, hl, hr with
  | .inl (k, nf), h2, hl, _ =>
    rw [hl _ rfl]
    obtain ⟨a1, a2, u', a3, a4, a5⟩ := h2.1 k nf rfl
    exact tC_l a1 a2 ⟨u', by omega, a4, a5⟩ kk
  | .inr (n2, c2), h2, _, hr =>
    rw [hr _ _ rfl]
    obtain ⟨a1, a2, a3⟩ := h2.2.1 n2 c2 rfl
    exact tC_r a1 a2 (h1.app a3 h2.2.2) kk
theorem ix_11 : ∀ x, x ≤ 26 → ixW x (wls 11) 0 = if x = 21 then 0 else if x = 22 then 1 else -1 := by decide +kernel
theorem pc_joiner {m : mi_M} {L : List Nat} {n r : Nat} (h : dT m L n) (hL : okL L) (hr : r < 4) : f_X7_joiner (n32 r) m = some (jo L r n) := by
  unfold f_X7_joiner f_X7_joiner_J51 f_X7_joiner_J87 f_X7_joiner_J123 f_X7_joiner_J142 jo
  have s1 : f_X6_isSign 60 m = _ := pc_isSign (c := 60) h hL (by decide)
  have s2 : f_X6_isSign 61 m = _ := pc_isSign (c := 61) h hL (by decide)
  have s3 : f_X6_isSign 43 m = _ := pc_isSign (c := 43) h hL (by decide)
  have s4 : f_X6_isSign 45 m = _ := pc_isSign (c := 45) h hL (by decide)
  have s5 : f_X6_isSign 42 m = _ := pc_isSign (c := 42) h hL (by decide)
  have two : ∀ (P Q : Prop) [Decidable P] [Decidable Q] (a b : Int32), (mi_bo (some (if P then (1 : Int32) else 0)) fun v6 => if v6 = 0 then mi_bo (some (if Q then (1 : Int32) else 0)) fun v8 => if v8 = 0 then some (0 : Int32) else some b else some a) = some (if P then a else if Q then b else 0) := by
    intro P Q _ _ a b
    by_cases hp : P
    · simp [hp, pe_bo]
    · by_cases hq : Q
      · simp [hp, hq, pe_bo]
      · simp [hp, hq, pe_bo]
  have : r = 0 ∨ r = 1 ∨ r = 2 ∨ r = 3 := by omega
  rcases this with rfl | rfl | rfl | rfl
  · rw [if_pos (show n32 0 = 0 from rfl), if_pos rfl, pc_am h (by decide) (by decide), pe_bo, ix_11 _ (wX_le L n)]
    by_cases a : wX L n = 21
    · simp only [if_pos a]
      rfl
    · simp only [if_neg a]
      by_cases b : wX L n = 22
      · simp only [if_pos b]
        rfl
      · simp only [if_neg b]
        rfl
  · rw [if_neg (show ¬ n32 1 = 0 by decide), if_pos (show n32 1 = 1 from rfl), if_neg (show ¬ (1 : Nat) = 0 by decide), if_pos rfl, s1, s2]
    exact two _ _ _ _
  · rw [if_neg (show ¬ n32 2 = 0 by decide), if_neg (show ¬ n32 2 = 1 by decide), if_pos (show n32 2 = 2 from rfl), if_neg (show ¬ (2 : Nat) = 0 by decide), if_neg (show ¬ (2 : Nat) = 1 by decide), if_pos rfl, s3, s4]
    exact two _ _ _ _
  · rw [if_neg (show ¬ n32 3 = 0 by decide), if_neg (show ¬ n32 3 = 1 by decide), if_neg (show ¬ n32 3 = 2 by decide), if_neg (show ¬ (3 : Nat) = 0 by decide), if_neg (show ¬ (3 : Nat) = 1 by decide), if_neg (show ¬ (3 : Nat) = 2 by decide), s5, pe_bo]
    by_cases a : kD L n = 4 ∧ vL L n = 42
    · rw [if_pos a, if_pos a, if_neg (by decide)]
    · rw [if_neg a, if_neg a, if_pos rfl]
theorem ix_10 : ∀ x, x ≤ 26 → ixW x (wls 10) 0 = if 23 ≤ x ∧ x < 26 then n32 (x - 23) else -1 := by decide +kernel
theorem ix_9 : ∀ x, x ≤ 26 → ixW x (wls 9) 0 = if x = 20 then 0 else -1 := by decide +kernel
theorem pl_one {σ ε : Type} {B : σ → Option (σ ⊕ ε)} {Q : ε → Prop} {s : σ} {n : Nat} (h : wo (B s) (lr (fun s' => wo (mi_lp B n s') Q) Q)) : wo (mi_lp B (n + 1) s) Q := by
  unfold mi_lp
  cases hb : B s with
  | none => rw [hb] at h; exact (pw_none.mp h).elim
  | some r =>
    rw [hb] at h
    have h := pw_some.mp h
    cases r with
    | inl s' => exact h
    | inr e => exact pw_some.mpr h
theorem pc_part1 {L : List Nat} {c e f : Nat} (hL : tkN L c)
    (i1 : ∀ md d n r m u g, md ≤ 4 → d ≤ 5 → n ≤ c → pt L f md d n = some r → dT m L n → m.1 1 e 4 = n32 u → u + (c - n) ≤ 1003 → 6 * (5 - d) + 6 - md ≤ g → wo ((fg_X7_readPart g).2 e (n32 md) (n32 d) m) (tC L e u m r))
    (i2 : ∀ d n r m u g, d ≤ 5 → n ≤ c → pt L f 4 d n = some r → dT m L n → m.1 1 e 4 = n32 u → u + (c - n) ≤ 1003 → 6 * (5 - d) + 1 ≤ g → wo ((fg_X7_readPart g).1 e (n32 d) m) (tC L e u m r))
    (d n : Nat) (r : (Nat × Nat) ⊕ (Nat × List Int32)) (m : mi_M) (u g : Nat) (h2 : d ≤ 5) (h3 : n ≤ c) (h : pt L (f + 1) 4 d n = some r) (hd : dT m L n) (hu : m.1 1 e 4 = n32 u) (hb : u + (c - n) ≤ 1003) (hg : 6 * (5 - d) + 1 ≤ g) : wo ((fg_X7_readPart g).1 e (n32 d) m) (tC L e u m r) := by
  obtain ⟨g', rfl⟩ : ∃ g', g = g' + 1 := ⟨g - 1, by omega⟩
  have wk : ∀ n, wX L n < 26 → kD L n = 2 := fun n => wX_k
  have xl := wX_le L n
  have kl := kD_lt L n
  have vl := vL_lt hL.1 n
  show wo (f_X7_readPart_ (fg_X7_readPart g') e (n32 d) m) _
  unfold f_X7_readPart_
  rw [pc_am hd (by decide) (by decide), pe_bo, ix_9 _ xl]
  unfold f_X7_readPart_J17
  rw [show f_X6_isSign 40 m = _ from pc_isSign (c := 40) hd hL.1 (by decide), pc_am hd (by decide) (by decide), ix_10 _ xl, pe_bo, pe_bo, hd.k]
  rw [pt_p] at h
  have five : ∀ u2 v3 v4, ¬ d < 5 → wo (f_X7_readPart_J72 (fg_X7_readPart g') e (n32 d) m u2 v3 v4) (tC L e u m (.inl (5, n))) := by
    intro u2 v3 v4 q
    unfold f_X7_readPart_J72
    rw [if_neg (by rw [n32_ltL (by omega) (by decide)]; exact q)]
    exact tC_fail (x := 5) hd hu (by omega) (by decide)
  by_cases q1 : wX L n = 20
  · have nc := hL.k h3 (by rw [wk n (by omega)]; omega)
    rw [if_pos q1] at h
    rw [if_pos q1, if_pos rfl, if_neg (show ¬ (1 : Int32) = 0 by decide)]
    by_cases qd : d < 5
    · rw [if_pos qd] at h
      unfold f_X7_readPart_J72
      rw [if_pos (by rw [n32_ltL (by omega) (by decide)]; exact qd), pw_let, pw_bo]
      refine pw_mono (pc_adv hd hL.1) ?_
      rintro m1 ⟨d1, k1⟩
      have k1' : kp (fun k i p => kT e u k i p) m m1 := k1.mo (fun k i p a => by omega)
      have u1 : m1.1 1 e 4 = n32 u := by rw [k1.1 1 e 4 (by omega)]; exact hu
      rw [if_neg (show ¬ (1 : Int32) = 0 by decide), pw_b, n32_al]
      rcases bn_inv h with ⟨⟨k, nf⟩, a1, a2⟩ | ⟨n1, c1, a1, a2⟩
      · refine pw_mono (i2 (d + 1) (n + 1) _ m1 u g' (by omega) (by omega) a1 d1 u1 (by omega) (by omega)) ?_
        intro z hz
        obtain ⟨b1, b2, u', b3, b4, b5⟩ := hz.1 k nf rfl
        rw [pw_bo]
        refine pw_mono (pc_put b5 b4) ?_
        rintro m2 ⟨u2, o1, o2, -, o4⟩
        rw [pw_g, pw_some, a2]
        refine ⟨Or.inl b1, tC_l b1 (by show m2.1 7 0 1 = _; rw [o4.1 7 0 1 (by omega)]; exact b2) ⟨u2, by omega, by omega, o2⟩ ?_⟩
        exact (k1'.tr hz.2.2).tr (o4.mo (fun k i p a => by omega))
      · obtain ⟨b1, b2, b3, b4, b5⟩ := ((pt_b hL f).1 _ _ _ _ (by omega) (by omega) (by omega) a1).2 n1 c1 rfl
        refine pw_mono (i2 (d + 1) (n + 1) _ m1 u g' (by omega) (by omega) a1 d1 u1 (by omega) (by omega)) ?_
        intro z hz
        obtain ⟨e1, e2, e3⟩ := hz.2.1 n1 c1 rfl
        rw [pw_bo]
        refine pw_mono (e3.put (s := -4) (by omega)) ?_
        rintro m2 ⟨o1, o2⟩
        rw [pw_g, pw_some, ← Option.some.inj a2]
        refine ⟨Or.inr e1, tC_r e1 (e2.mv o2 (fun q => by omega) (by omega) (fun q => by omega)) o1 ?_⟩
        exact (k1'.tr hz.2.2).tr (o2.mo (fun k i p a => by omega))
    · rw [if_neg qd] at h
      rw [← Option.some.inj h]
      exact five _ _ _ qd
  · rw [if_neg q1] at h
    rw [if_neg q1, if_neg (show ¬ (-1 : Int32) = 0 by decide), pe_bo, pe_bo, if_pos rfl]
    by_cases q2 : kD L n = 4 ∧ vL L n = 40
    · have nc := hL.k h3 (by omega)
      rw [if_pos q2] at h
      rw [if_pos q2, if_neg (show ¬ (1 : Int32) = 0 by decide)]
      by_cases qd : d < 5
      · rw [if_pos qd] at h
        unfold f_X7_readPart_J72
        rw [if_pos (by rw [n32_ltL (by omega) (by decide)]; exact qd), pw_let, pw_bo]
        refine pw_mono (pc_adv hd hL.1) ?_
        rintro m1 ⟨d1, k1⟩
        have k1' : kp (fun k i p => kT e u k i p) m m1 := k1.mo (fun k i p a => by omega)
        have u1 : m1.1 1 e 4 = n32 u := by rw [k1.1 1 e 4 (by omega)]; exact hu
        rw [if_pos rfl, if_neg (show ¬ (1 : Int32) = 0 by decide), pw_b, n32_al]
        have j0 : ∀ mm, f_X7_readPart_J152 mm = some (0, mm) := fun mm => pe_g (by decide)
        have j1 : ∀ mm, f_X7_readPart_J153 1 mm = some (1, mm) := fun mm => pe_g (by decide)
        rcases bn_inv h with ⟨⟨k, nf⟩, a1, a2⟩ | ⟨n1, c1, a1, a2⟩
        · refine pw_mono (i1 0 (d + 1) (n + 1) _ m1 u g' (by omega) (by omega) (by omega) a1 d1 u1 (by omega) (by omega)) ?_
          intro z hz
          obtain ⟨b1, b2, b3⟩ := hz.1 k nf rfl
          rw [if_pos b1, j0, pw_some, a2]
          exact tC_l rfl b2 b3 (k1'.tr hz.2.2)
        · obtain ⟨b1, b2, b3, b4, b5⟩ := ((pt_b hL f).1 _ _ _ _ (by omega) (by omega) (by omega) a1).2 n1 c1 rfl
          refine pw_mono (i1 0 (d + 1) (n + 1) _ m1 u g' (by omega) (by omega) (by omega) a1 d1 u1 (by omega) (by omega)) ?_
          intro z hz
          obtain ⟨e1, e2, e3⟩ := hz.2.1 n1 c1 rfl
          rw [e1, if_neg (show ¬ (1 : Int32) = 0 by decide), pw_b]
          refine pw_mono (show wo (f_X7_passSign 41 z.2) _ from pc_passSign (c := 41) e2 hL.1 (by decide)) ?_
          intro y hy
          have ky : kp (fun k i p => kT e u k i p) m y.2 := (k1'.tr hz.2.2).tr (hy.2.2.mo (fun k i p a => Or.inl a))
          have e4 : y.2.1 1 e 4 = n32 (u + c1.length) := by rw [hy.2.2.1 1 e 4 (by omega)]; exact e3.1
          by_cases q3 : kD L n1 = 4 ∧ vL L n1 = 41
          · have es : eS L 41 n1 = 0 := if_pos q3
            obtain ⟨y1, y2⟩ := hy.1 es
            rw [if_pos q3] at a2
            rw [y1, if_neg (show ¬ (1 : Int32) = 0 by decide), j1, pw_some, ← Option.some.inj a2]
            refine tC_r rfl y2 ⟨e4, fun k hk => ?_⟩ ky
            show y.2.1 16 e (u + k) = _
            rw [hy.2.2.1 16 e _ (by omega)]
            exact e3.2 k hk
          · have es : eS L 41 n1 = 1 := if_neg q3
            obtain ⟨y1, y2⟩ := hy.2.1 (by omega)
            rw [if_neg q3] at a2
            rw [y1, if_pos rfl, j0, pw_some, ← Option.some.inj a2]
            rw [es] at y2
            exact tC_l rfl y2 ⟨_, Nat.le_add_right _ _, by omega, e4⟩ ky
      · rw [if_neg qd] at h
        rw [← Option.some.inj h]
        exact five _ _ _ qd
    · rw [if_neg q2] at h
      rw [if_neg q2, if_pos rfl]
      have put1 : ∀ (s : Int32) (m1 : mi_M), n < c → dT m1 L (n + 1) → kp (fun k i p => k6 k i p) m m1 → wo (f_X7_readPart_J170 e m1 s) (tC L e u m (.inr (n + 1, [s]))) := by
        intro s m1 nc d1 k1
        have c0 : cdC m1 e u [] := ⟨by rw [k1.1 1 e 4 (by omega)]; exact hu, fun k hk => absurd hk (Nat.not_lt_zero _)⟩
        unfold f_X7_readPart_J170
        rw [pw_bo]
        refine pw_mono (c0.put (s := s) (by show u + 0 < 1003; omega)) ?_
        rintro m2 ⟨o1, o2⟩
        rw [pw_g, pw_some]
        refine ⟨by decide, tC_r rfl (d1.mv o2 (fun q => by omega) (by omega) (fun q => by omega)) o1 ?_⟩
        exact (k1.mo (fun k i p a => by omega)).tr (o2.mo (fun k i p a => by omega))
      by_cases q3 : 23 ≤ wX L n ∧ wX L n < 26
      · have nc := hL.k h3 (by rw [wk n (by omega)]; omega)
        have nn : ¬ n32 (wX L n - 23) = -1 := by rw [n32_eqN (by omega)]; exact id
        rw [if_pos q3] at h
        rw [if_pos q3, if_neg nn]
        by_cases qd : d < 5
        · rw [if_pos qd] at h
          unfold f_X7_readPart_J72
          rw [if_pos (by rw [n32_ltL (by omega) (by decide)]; exact qd), pw_let, pw_bo]
          refine pw_mono (pc_adv hd hL.1) ?_
          rintro m1 ⟨d1, k1⟩
          rw [if_pos rfl, if_pos rfl, if_neg nn, ← Option.some.inj h]
          exact put1 _ m1 nc d1 k1
        · rw [if_neg qd] at h
          rw [← Option.some.inj h]
          exact five _ _ _ qd
      · rw [if_neg q3] at h
        rw [if_neg q3, if_pos rfl]
        by_cases q4 : kD L n = 3
        · have nc := hL.k h3 (by omega)
          rw [if_pos q4] at h
          rw [if_pos (by rw [q4]; rfl)]
          by_cases qd : d < 5
          · rw [if_pos qd] at h
            unfold f_X7_readPart_J72
            rw [if_pos (by rw [n32_ltL (by omega) (by decide)]; exact qd), pw_let, pw_bo]
            refine pw_mono (pc_adv hd hL.1) ?_
            rintro m1 ⟨d1, k1⟩
            rw [if_pos rfl, if_pos rfl, if_pos rfl, ← Option.some.inj h, hd.v (Or.inl q4)]
            exact put1 _ m1 nc d1 k1
          · rw [if_neg qd] at h
            rw [← Option.some.inj h]
            exact five _ _ _ qd
        · rw [if_neg q4] at h
          rw [if_neg (by rw [n32_eqL (by omega) (by decide)]; exact q4), ← Option.some.inj h]
          exact tC_fail (x := 1) hd hu (by omega) (by decide)
