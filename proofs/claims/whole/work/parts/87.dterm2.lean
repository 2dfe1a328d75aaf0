theorem tC.b {L : List Nat} {e u : Nat} {m : mi_M} {r : (Nat × Nat) ⊕ (Nat × List Int32)} {z : Int32 × mi_M} (h : tC L e u m r z) : z.1 = 0 ∨ z.1 = 1 := by
  match r, h with
  | .inl (k, nf), h => exact Or.inl (h.1 k nf rfl).1
  | .inr (n1, c1), h => exact Or.inr (h.2.1 n1 c1 rfl).1
def dA (L : List Nat) (c e f : Nat) : Prop := ∀ (md d n : Nat) (r : (Nat × Nat) ⊕ (Nat × List Int32)) (m : mi_M) (u g : Nat), md ≤ 4 → d ≤ 5 → n ≤ c → pt L f md d n = some r → dT m L n → m.1 1 e 4 = n32 u → u + (c - n) ≤ 1003 → 6 * (5 - d) + 6 - md ≤ g → wo ((fg_X7_readPart g).2 e (n32 md) (n32 d) m) (tC L e u m r)
def dB (L : List Nat) (c e f : Nat) : Prop := ∀ (d n : Nat) (r : (Nat × Nat) ⊕ (Nat × List Int32)) (m : mi_M) (u g : Nat), d ≤ 5 → n ≤ c → pt L f 4 d n = some r → dT m L n → m.1 1 e 4 = n32 u → u + (c - n) ≤ 1003 → 6 * (5 - d) + 1 ≤ g → wo ((fg_X7_readPart g).1 e (n32 d) m) (tC L e u m r)
def dC (L : List Nat) (c e f : Nat) : Prop := ∀ (q d n : Nat) (r : (Nat × Nat) ⊕ (Nat × List Int32)) (m : mi_M) (u g fu k : Nat), q < 4 → d ≤ 5 → n ≤ c → pt L f (q + 5) d n = some r → dT m L n → m.1 1 e 4 = n32 u → u + (c - n) ≤ 1003 → 6 * (5 - d) + 5 - q ≤ g → k + (c - n) < 1000 → (q = 1 → k = 0) → c - n + 2 ≤ fu → wo (mi_lp (f_X7_readTerm_B43 (fg_X7_readPart g) e (n32 q) (n32 d) (if q = 1 then 1 else 1000)) fu (n32 k, m)) (fun x => wo (f_X7_readTerm_K43 x) (tC L e u m r))
theorem pc_loop1 {L : List Nat} {c e f : Nat} (hL : tkN L c) (i1 : dA L c e f) (i3 : dC L c e f) : dC L c e (f + 1) := by
  intro q d n r m u g fu k hq h2 h3 h hd hu hb hg hk hk0 hf
  obtain ⟨fu', rfl⟩ : ∃ fu', fu = fu' + 1 := ⟨fu - 1, by omega⟩
  generalize hB : f_X7_readTerm_B43 (fg_X7_readPart g) e (n32 q) (n32 d) (if q = 1 then 1 else 1000) = B
  have eB : ∀ (l : Int32) (mm : mi_M), B (l, mm) = (if (if q = 1 then (1 : Int32) else 1000) ≤ l then some (.inr (.inr (.inr mm))) else mi_bo (f_X7_joiner (n32 q) mm) fun v12 => if v12 = 0 then some (.inr (.inl mm)) else mi_bo (f_X6_advance mm) fun m13 => mi_b ((fg_X7_readPart g).2 e (n32 q + (1 : Int32)) (n32 d) m13) fun v14 m15 => if v14 = 0 then some (.inr (.inr (.inl m15))) else mi_bo (f_X1_put e v12 m15) fun m16 => some (.inl ((l + (1 : Int32)), m16))) := by
    intro l mm
    rw [← hB]
    rfl
  apply pl_one
  rw [eB]
  have nx : ¬ ((if q = 1 then (1 : Int32) else 1000) ≤ n32 k) := by
    by_cases q1 : q = 1
    · rw [if_pos q1, hk0 q1]; decide
    · rw [if_neg q1, n32_Lle (by omega) (by decide)]
      show ¬ 1000 ≤ k
      omega
  rw [if_neg nx, pc_joiner hd hL.1 hq, pe_bo]
  rw [pt_l] at h
  by_cases j : jo L q n = 0
  · rw [if_pos j] at h
    rw [if_pos j, pw_some, lr_r, ← Option.some.inj h]
    unfold f_X7_readTerm_K43
    dsimp only
    rw [pw_g, pw_some]
    exact ⟨by decide, tC_r rfl hd ⟨hu, fun k hk => absurd hk (Nat.not_lt_zero _)⟩ kp.rf⟩
  · rw [if_neg j] at h
    have nc := hL.k h3 (jo_ok j).1
    rw [if_neg j, pw_bo]
    refine pw_mono (pc_adv hd hL.1) ?_
    rintro m1 ⟨d1, k1⟩
    have k1' : kp (fun k i p => kT e u k i p) m m1 := k1.mo (fun k i p a => by omega)
    have u1 : m1.1 1 e 4 = n32 u := by rw [k1.1 1 e 4 (by omega)]; exact hu
    rw [pw_b, n32_al]
    rcases bn_inv h with ⟨⟨x, nf⟩, a1, a2⟩ | ⟨n1, c1, a1, a2⟩
    · refine pw_mono (i1 (q + 1) d (n + 1) _ m1 u g (by omega) h2 (by omega) a1 d1 u1 (by omega) (by omega)) ?_
      intro z hz
      obtain ⟨b1, b2, b3⟩ := hz.1 x nf rfl
      rw [if_pos b1, pw_some, lr_r, a2]
      unfold f_X7_readTerm_K43
      dsimp only
      rw [pw_g, pw_some]
      exact ⟨by decide, tC_l rfl b2 b3 (k1'.tr hz.2.2)⟩
    · obtain ⟨b1, b2, b3, b4, b5⟩ := ((pt_b hL f).1 _ _ _ _ (by omega) h2 (by omega) a1).2 n1 c1 rfl
      refine pw_mono (i1 (q + 1) d (n + 1) _ m1 u g (by omega) h2 (by omega) a1 d1 u1 (by omega) (by omega)) ?_
      intro z hz
      obtain ⟨e1, e2, e3⟩ := hz.2.1 n1 c1 rfl
      rw [e1, if_neg (show ¬ (1 : Int32) = 0 by decide), pw_bo]
      refine pw_mono (e3.put (s := jo L q n) (by omega)) ?_
      rintro m2 ⟨o1, o2⟩
      rw [pw_some, lr_l]
      have d2 : dT m2 L n1 := e2.mv o2 (fun q => by omega) (by omega) (fun q => by omega)
      have k2 : kp (fun k i p => kT e u k i p) m m2 := (k1'.tr hz.2.2).tr (o2.mo (fun k i p a => by omega))
      have l1 : (c1 ++ [jo L q n]).length = c1.length + 1 := by rw [List.length_append]; rfl
      by_cases q6 : q = 1
      · rw [if_pos q6] at a2
        obtain ⟨fu2, rfl⟩ : ∃ fu2, fu' = fu2 + 1 := ⟨fu' - 1, by omega⟩
        apply pl_one
        rw [eB]
        rw [if_pos (show (if q = 1 then (1 : Int32) else 1000) ≤ n32 k + 1 by rw [if_pos q6, hk0 q6]; decide), pw_some, lr_r, ← Option.some.inj a2]
        unfold f_X7_readTerm_K43
        dsimp only
        rw [pw_g, pw_some]
        exact ⟨by decide, tC_r rfl d2 o1 k2⟩
      · rw [if_neg q6] at a2
        have o3 := o1.1
        rw [n32_al]
        obtain ⟨r2, a3, a4, a5⟩ : ∃ r2, pt L f (q + 5) d n1 = some r2 ∧ (∀ x, r2 = .inl x → r = .inl x) ∧ ∀ n2 c2, r2 = .inr (n2, c2) → r = .inr (n2, (c1 ++ [jo L q n]) ++ c2) := by
          rcases bn_inv a2 with ⟨x, a3, a4⟩ | ⟨n2, c2, a3, a4⟩
          · exact ⟨_, a3, fun y hy => (by rw [a4, Sum.inl.inj hy]), fun n2 c2 hy => (by cases hy)⟩
          · refine ⟨_, a3, fun y hy => (by cases hy), fun n3 c3 hy => ?_⟩
            have hy := Sum.inr.inj hy
            have y1 : n2 = n3 := congrArg Prod.fst hy
            have y2 : c2 = c3 := congrArg Prod.snd hy
            subst y1 y2
            exact (Option.some.inj a4).symm
        have i4 := i3 q d n1 r2 m2 (u + (c1 ++ [jo L q n]).length) g fu' (k + 1) hq h2 b2 a3 d2 o3 (by rw [l1]; omega) hg (by omega) (fun x => absurd x q6) (by omega)
        rw [hB] at i4
        refine pw_mono i4 ?_
        intro x hx
        refine pw_mono hx ?_
        intro y hy
        exact tC.app (n1 := 0) o1 k2 hy a4 a5
theorem pc_rank1 {L : List Nat} {c e f : Nat} (hL : tkN L c) (i1 : dA L c e f) (i3 : dC L c e f) (i2 : dB L c e (f + 1)) : dA L c e (f + 1) := by
  intro md d n r m u g h1 h2 h3 h hd hu hb hg
  obtain ⟨g', rfl⟩ : ∃ g', g = g' + 1 := ⟨g - 1, by omega⟩
  have hc := hL.c
  show wo (f_X7_readTerm_ (fg_X7_readPart g') e (n32 md) (n32 d) m) _
  unfold f_X7_readTerm_
  by_cases hm : md < 4
  · rw [pt_t hm] at h
    rw [if_pos (by rw [n32_leL (by omega) (by decide)]; show md ≤ 3; omega), pw_b, n32_al]
    rcases bn_inv h with ⟨⟨x, nf⟩, a1, a2⟩ | ⟨n1, c1, a1, a2⟩
    · refine pw_mono (i1 (md + 1) d n _ m u g' (by omega) h2 h3 a1 hd hu hb (by omega)) ?_
      intro z hz
      obtain ⟨b1, b2, b3⟩ := hz.1 x nf rfl
      rw [if_pos b1, pw_g, pw_some, a2]
      exact ⟨by decide, tC_l rfl b2 b3 hz.2.2⟩
    · obtain ⟨b1, b2, b3, b4, b5⟩ := ((pt_b hL f).1 _ _ _ _ (by omega) h2 h3 a1).2 n1 c1 rfl
      have b5 := b5 rfl
      refine pw_mono (i1 (md + 1) d n _ m u g' (by omega) h2 h3 a1 hd hu hb (by omega)) ?_
      intro z hz
      obtain ⟨e1, e2, e3⟩ := hz.2.1 n1 c1 rfl
      have ej : (if n32 md = 1 then f_X7_readTerm_J38 (fg_X7_readPart g') e (n32 md) (n32 d) z.2 1 else f_X7_readTerm_J38 (fg_X7_readPart g') e (n32 md) (n32 d) z.2 1000) = f_X7_readTerm_J38 (fg_X7_readPart g') e (n32 md) (n32 d) z.2 (if md = 1 then 1 else 1000) := by
        by_cases m1 : md = 1
        · rw [if_pos m1, if_pos (by rw [m1]; rfl)]
        · rw [if_neg m1, if_neg (by rw [n32_eqL (by omega) (by decide)]; exact m1)]
      rw [e1, if_neg (show ¬ (1 : Int32) = 0 by decide), ej]
      unfold f_X7_readTerm_J38
      rw [pw_bo]
      obtain ⟨r2, a3, a4, a5⟩ : ∃ r2, pt L f (md + 5) d n1 = some r2 ∧ (∀ x, r2 = .inl x → r = .inl x) ∧ ∀ n2 c2, r2 = .inr (n2, c2) → r = .inr (n2, c1 ++ c2) := by
        rcases bn_inv a2 with ⟨x, a3, a4⟩ | ⟨n2, c2, a3, a4⟩
        · exact ⟨_, a3, fun y hy => (by rw [a4, Sum.inl.inj hy]), fun n2 c2 hy => (by cases hy)⟩
        · refine ⟨_, a3, fun y hy => (by cases hy), fun n3 c3 hy => ?_⟩
          have hy := Sum.inr.inj hy
          have y1 : n2 = n3 := congrArg Prod.fst hy
          have y2 : c2 = c3 := congrArg Prod.snd hy
          subst y1 y2
          exact (Option.some.inj a4).symm
      refine pw_mono (i3 md d n1 r2 z.2 (u + c1.length) g' mi_fu 0 hm h2 b2 a3 e2 e3.1 (by omega) (by omega) (by omega) (fun _ => rfl) (by unfold mi_fu; omega)) ?_
      intro x hx
      refine pw_mono hx ?_
      intro y hy
      exact tC.app (n1 := 0) e3 hz.2.2 hy a4 a5
  · have : md = 4 := by omega
    subst this
    rw [if_neg (by decide), pw_b]
    refine pw_mono (i2 d n r m u g' h2 h3 h hd hu hb (by omega)) ?_
    intro z hz
    rw [pw_g, pw_some]
    exact ⟨hz.b, hz⟩
theorem pc_term {L : List Nat} {c e : Nat} (hL : tkN L c) : ∀ f, dA L c e f ∧ dB L c e f ∧ dC L c e f
  | 0 => ⟨fun md d n r m u g _ _ _ h => (by cases h), fun d n r m u g _ _ h => (by cases h), fun q d n r m u g fu k _ _ _ h => (by cases h)⟩
  | f + 1 => by
    obtain ⟨i1, i2, i3⟩ := pc_term hL f
    have b : dB L c e (f + 1) := pc_part1 hL i1 i2
    exact ⟨pc_rank1 hL i1 i3 b, b, pc_loop1 hL i1 i3⟩
/-- a term as the developers read it -/
theorem pc_readTerm {L : List Nat} {c e n u : Nat} {m : mi_M} {r : (Nat × Nat) ⊕ (Nat × List Int32)} (hL : tkN L c) (hn : n ≤ c) (h : pt L 17000 0 0 n = some r) (hd : dT m L n) (hu : m.1 1 e 4 = n32 u) (hb : u + (c - n) ≤ 1003) : wo (f_X7_readTerm e (0 : Int32) (0 : Int32) m) (tC L e u m r) := by
  unfold f_X7_readTerm
  exact (pc_term hL 17000).1 0 0 n r m u mi_dp (by omega) (by omega) hn h hd hu hb (by decide)
