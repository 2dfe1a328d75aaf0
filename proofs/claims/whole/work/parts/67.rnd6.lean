theorem Rf_w {P : Nat} {rp : Nat → Nat} {st : Nat → Nat → Nat} {mo : Nat} : ∀ {n s a w s' a' w'}, w ≤ mo → Rf P rp st mo n s a w s' a' w' → w' ≤ mo
  | 0, _, _, _, _, _, _, h, ⟨_, _, e⟩ => by rw [e]; exact h
  | _ + 1, _, _, _, _, _, _, h, e => by
    rcases e with ⟨_, _, e⟩ | ⟨x, ok, e⟩
    · rw [e]; exact h
    · exact Rf_w ok.2.2.2 e
theorem i3 : vp_in (0 : Int32) 3 ∧ vp_in (1 : Int32) 3 ∧ vp_in (2 : Int32) 3 := ⟨(n32_in (k := 0) (by decide)).mpr (by decide), (n32_in (k := 1) (by decide)).mpr (by decide), (n32_in (k := 2) (by decide)).mpr (by decide)⟩
def b27 (m : mi_M) (rp : Nat → Nat) (D : Nat → Nat → Nat) (k : Nat) : Option (Nat × Nat × Nat) → Prop
  | none => m.1 27 0 0 = -1
  | some b => (m.1 27 0 0 = n32 b.1 ∧ m.1 27 0 1 = n32 b.2.1 ∧ m.1 27 0 2 = n32 b.2.2) ∧ b.2.1 < XX ∧ b.2.2 < k ∧ b.1 = fN rp b.2.2 ∧ ∃ a, a < 6 ∧ D b.2.2 a = b.2.1
theorem pc_best {m : mi_M} {rp : Nat → Nat} {D : Nat → Nat → Nat} (hD : dpC m D) (hr : rpC m rp) (hr8 : ∀ x, x < 6 → rp x ≤ 8) (hl : ∀ s, s < 64 → ∀ a, a < 6 → D s a ≤ XX) (h0 : m.1 27 0 0 = -1) : wo (mi_lp (f_X2_bestRound_B24) mi_fu ((0 : Int32), m)) (fun m' => kp (fun k i p => k = 27 ∧ i = 0) m m' ∧ ∃ o, b27 m' rp D 64 o ∧ ∀ s, s < 64 → ∀ a, a < 6 → D s a < XX → ∃ b, o = some b ∧ ¬ bet (fN rp s, D s a, s) b) := by
  have hX : XX = 1048576 := rfl
  refine pl_for (fun k z => z.1 = n32 k ∧ kp (fun k i p => k = 27 ∧ i = 0) m z.2 ∧ ∃ o, b27 z.2 rp D k o ∧ ∀ s, s < k → ∀ a, a < 6 → D s a < XX → ∃ b, o = some b ∧ ¬ bet (fN rp s, D s a, s) b) 64 (by omega) ⟨rfl, kp.rf, none, h0, fun s hs => absurd hs (by omega)⟩ ?_
  rintro k ⟨l, m1⟩ hk ⟨a1, a2, o, a3, a4⟩
  simp only at a1 a2 a3
  subst a1
  unfold f_X2_bestRound_B24
  dsimp only
  by_cases hk6 : k = 64
  · subst hk6
    rw [if_pos (by decide), pw_some, lr_r]
    exact ⟨a2, o, a3, a4⟩
  · have hk : k < 64 := by omega
    have d1 := hD.mv a2 (fun p x => by omega)
    have r1 := hr.mv a2 (fun p x => by omega)
    have f48 : fN rp k ≤ 48 := fN_le (N := 8) hr8
    rw [if_neg (by rw [n32_Lle (by omega) (by decide)]; show ¬ 64 ≤ k; omega), pw_bo]
    refine pw_mono (pc_leastW d1 hk (hl k hk)) ?_
    rintro r ⟨L, rfl, l1, l2, l3⟩
    rw [pc_ripeOf r1, pw_bo, pw_some]
    have keep : (∀ a, a < 6 → D k a < XX → ∃ b, o = some b ∧ ¬ bet (fN rp k, D k a, k) b) → wo (f_X2_bestRound_J111 (n32 k) m1) (lr (fun z => k < 64 ∧ z.1 = n32 (k + 1) ∧ kp (fun k i p => k = 27 ∧ i = 0) m z.2 ∧ ∃ o, b27 z.2 rp D (k + 1) o ∧ ∀ s, s < k + 1 → ∀ a, a < 6 → D s a < XX → ∃ b, o = some b ∧ ¬ bet (fN rp s, D s a, s) b) (fun m' => kp (fun k i p => k = 27 ∧ i = 0) m m' ∧ ∃ o, b27 m' rp D 64 o ∧ ∀ s, s < 64 → ∀ a, a < 6 → D s a < XX → ∃ b, o = some b ∧ ¬ bet (fN rp s, D s a, s) b)) := by
      intro q
      unfold f_X2_bestRound_J111
      rw [pw_some, lr_l, n32_al]
      refine ⟨hk, rfl, a2, o, ?_, fun s hs a ha hd => ?_⟩
      · cases o with
        | none => exact a3
        | some b =>
          obtain ⟨x1, x2, x3, x4⟩ := a3
          exact ⟨x1, x2, by omega, x4⟩
      · by_cases e : s = k
        · subst e; exact q a ha hd
        · exact a4 s (by omega) a ha hd
    have take : L < XX → (∀ b, o = some b → bet (fN rp k, L, k) b) → wo (f_X2_bestRound_J87 (n32 k) m1 (n32 L) (n32 (fN rp k))) (lr (fun z => k < 64 ∧ z.1 = n32 (k + 1) ∧ kp (fun k i p => k = 27 ∧ i = 0) m z.2 ∧ ∃ o, b27 z.2 rp D (k + 1) o ∧ ∀ s, s < k + 1 → ∀ a, a < 6 → D s a < XX → ∃ b, o = some b ∧ ¬ bet (fN rp s, D s a, s) b) (fun m' => kp (fun k i p => k = 27 ∧ i = 0) m m' ∧ ∃ o, b27 m' rp D 64 o ∧ ∀ s, s < 64 → ∀ a, a < 6 → D s a < XX → ∃ b, o = some b ∧ ¬ bet (fN rp s, D s a, s) b)) := by
      intro hL q
      unfold f_X2_bestRound_J87 f_X2_bestRound_J111
      simp only [pw_g, pw_let, pw_some, lr_l, n32_al, show (0 : Int32).toNatClampNeg = 0 from rfl, show (1 : Int32).toNatClampNeg = 1 from rfl, show (2 : Int32).toNatClampNeg = 2 from rfl]
      obtain ⟨a, ha, hL2⟩ := l3 hL
      refine ⟨i3.1, i3.2.1, i3.2.2, hk, by trivial, ((a2.wI ⟨rfl, rfl⟩).wI ⟨rfl, rfl⟩).wI ⟨rfl, rfl⟩, some (fN rp k, L, k), ⟨⟨?_, ?_, rI_eq⟩, hL, Nat.lt_succ_self _, rfl, a, ha, hL2.symm⟩, fun s hs a ha hd => ⟨_, rfl, ?_⟩⟩
      · rw [rI_ne (by omega), rI_ne (by omega), rI_eq]
      · rw [rI_ne (by omega), rI_eq]
      · by_cases e : s = k
        · subst e
          have := l2 a ha
          unfold bet; dsimp only; omega
        · obtain ⟨b, b1, b2⟩ := a4 s (by omega) a ha hd
          have := q b b1
          unfold bet at *; dsimp only at *; omega
    rw [pw_if, n32_Lle (by omega) (by decide)]
    refine ⟨fun x => keep (fun a ha hd => by have := l2 a ha; have x : 1048576 ≤ L := x; omega), fun x => ?_⟩
    have x : L < XX := by have x : ¬ 1048576 ≤ L := x; omega
    rw [pw_g]
    refine ⟨i3.1, ?_⟩
    rw [show (0 : Int32).toNatClampNeg = 0 from rfl, show (1 : Int32).toNatClampNeg = 1 from rfl]
    cases o with
    | none =>
      rw [show m1.1 27 0 0 = -1 from a3, if_pos (by rw [i32_lt, n32_int (by omega), show (-1 : Int32).toInt = -1 by decide]; omega)]
      exact take x (fun b hb => by cases hb)
    | some b =>
      obtain ⟨⟨x1, x2, -⟩, x4, x5, x6, x7⟩ := a3
      have f2 : fN rp b.2.2 ≤ 48 := fN_le (N := 8) hr8
      have lec : ∀ a, a < 6 → L ≤ D k a := l2
      rw [x1, x2]
      simp (disch := omega) only [pw_if, pw_g, n32_lt, n32_eq, n32_le]
      refine ⟨fun y => take x (fun b2 hb => ?_), fun y => ⟨i3.1, fun z => ⟨i3.2.1, fun q => keep (fun a ha hd => ⟨b, rfl, ?_⟩), fun q => take x (fun b2 hb => ?_)⟩, fun z => keep (fun a ha hd => ⟨b, rfl, ?_⟩)⟩⟩
      · rw [← Option.some.inj hb]; unfold bet; dsimp only; omega
      · have := l2 a ha
        unfold bet; dsimp only; omega
      · rw [← Option.some.inj hb]; unfold bet; dsimp only; omega
      · unfold bet; dsimp only; omega
theorem po_round : ob_round Rel := by
  rintro a0 a1 a2 mem ⟨T, cd, c, y, hR⟩
  obtain ⟨h1, h2, h3, h4, h5, h6, ⟨S, hc, hm, hs⟩, h8, h9, h10⟩ := id hR
  have hT := h2.1.2.1
  have t6 := hT.1.1
  have t8 := hT.1.2.1
  have hX : XX = 1048576 := rfl
  have q1 : mTw (mi_wI mem 12 0 0 0) T := h3.1.1.mv kp_thr (fun p _ x => by omega)
  have no : f_X11_round a0 a1 a2 mem = some (-1, mem) → f_X12_round a0 a1 a2 mem = some (-1, mi_wI mem 12 0 0 0) → ∃ (r : Int32) (m1 : mi_M) (m2 : mi_M), f_X11_round a0 a1 a2 mem = some (r, m1) ∧ f_X12_round a0 a1 a2 m1 = some (r, m2) ∧ Rel m2 := fun e1 e2 => ⟨-1, mem, _, e1, e2, T, cd, c, y, hR.sm kp_thr⟩
  rcases in_or (T 0) a0 with ⟨p, hp, rfl⟩ | hx
  · by_cases g1 : (0 : Int32) ≤ a1 ∧ a1 ≤ 200
    · by_cases g2 : (0 : Int32) ≤ a2 ∧ a2 ≤ 2
      · obtain ⟨mo, -, o2, rfl⟩ := wi_of (lo := 0) (hi := 200) (by omega) (by omega) g1
        obtain ⟨q, -, o3, rfl⟩ := wi_of (lo := 0) (hi := 2) (by omega) (by omega) g2
        have hr8 : ∀ x, x < 6 → rpK T S (T 2) x ≤ 8 := fun x _ => by have := rpK_le (T := T) (S := S) (x := x) (T 2); omega
        obtain ⟨z1, z2⟩ := s0A_f (rp := rpK T S (T 2)) (p := p) (by omega)
        -- the developers'
        have cls : wo (f_X11_round (n32 p) (n32 mo) (n32 q) mem) (fun r => cT r.2 c T cd ∧ kp (fun k i _ => pXc c k i) mem r.2 ∧ ∃ b D, r.1 = (if q = 0 then n32 b.1 else if q = 1 then n32 b.2.1 else n32 b.2.2) ∧ dpA (T 0) (rpK T S (T 2)) (sT T) mo (s0A (rpK T S (T 2)) p) p D ∧ D (s0A (rpK T S (T 2)) p) p = 0 ∧ (∀ s, s < 64 → ∀ a, a < T 0 → rlx (T 0) (rpK T S (T 2)) (sT T) mo D s a) ∧ (b.2.1 < XX ∧ b.2.2 < 64 ∧ b.1 = fN (rpK T S (T 2)) b.2.2 ∧ ∃ a, a < 6 ∧ D b.2.2 a = b.2.1) ∧ ∀ s, s < 64 → ∀ a, a < 6 → D s a < XX → ¬ bet (fN (rpK T S (T 2)) s, D s a, s) b) := by
          unfold f_X11_round
          rw [h1.2.2.1, pe_g (n8 h1.1), pc_hasPerson h2.1.1 hT hp, pe_bo, if_neg (by decide), pc_within, wi_y g1, pe_bo, if_neg (by decide), pc_within, wi_y g2, pe_bo, if_neg (by decide), pe_g (n8 h1.1), pw_b]
          unfold f_X2_bestRound
          rw [pw_bo]
          refine pw_mono (pc_countRipe h2.1.1 hT hc hs) ?_
          rintro m1 ⟨k1, r1⟩
          have c1 : cT m1 c T cd := h2.mv k1 (fun k i p a b => by unfold cTk at b; omega)
          rw [pw_bo]
          refine pw_mono (pc_walkRounds c1 r1 hr8 (show mo ≤ 200 by omega) hp) ?_
          rintro m2 ⟨D, ⟨c2, k2, d2, A2, e2⟩, rl⟩
          rw [pw_g, pw_let, pw_bo, show (0 : Int32).toNatClampNeg = 0 from rfl]
          refine ⟨i3.1, ?_⟩
          have kw : kp (fun k i p => k = 27 ∧ i = 0) m2 (mi_wI m2 27 0 0 (-1)) := kp.rf.wI ⟨rfl, rfl⟩
          have hl : ∀ s, s < 64 → ∀ a, a < 6 → D s a ≤ XX := fun s hs2 a ha => by have := A2 s hs2 a ha; omega
          refine pw_mono (pc_best (d2.mv kw (fun p x => by omega)) ((r1.mv k2 (fun p x => by omega)).mv kw (fun p x => by omega)) hr8 hl rI_eq) ?_
          rintro m3 ⟨k3', o, b3, b4⟩
          obtain ⟨b, rfl, -⟩ := b4 (s0A (rpK T S (T 2)) p) z2 p (by omega) (by omega)
          obtain ⟨⟨x1, x2, x3⟩, x4, x5, x6, x7⟩ := b3
          unfold f_X2_bestRound_K24
          rw [pw_g, n32_in (by omega), n32_cl (by omega), pw_some, pw_some]
          refine ⟨by omega, (c2.mv kw (fun k i p a b => by unfold cTk at b; omega)).mv k3' (fun k i p a b => by unfold cTk at b; omega), (((k1.mo (fun k i p a => by omega)).tr (k2.mo (fun k i p a => by omega))).tr (kw.mo (fun k i p a => by omega))).tr (k3'.mo (fun k i p a => by omega)), b, D, ?_, A2, e2, rl, ⟨x4, x5, x6, x7⟩, fun s hs2 a ha hd => ?_⟩
          · dsimp only
            by_cases e0 : q = 0
            · rw [if_pos e0, e0]; exact x1
            · rw [if_neg e0]
              by_cases e1 : q = 1
              · rw [if_pos e1, e1]; exact x2
              · rw [if_neg e1, show q = 2 by omega]; exact x3
          · obtain ⟨b', hb, hn⟩ := b4 s hs2 a ha hd
            rw [Option.some.inj hb]; exact hn
        obtain ⟨⟨r, m1⟩, e1, c1, k1, b, D, hv, A, D0, rl, ⟨x4, x5, x6, x7, x8, x9⟩, mx⟩ := cls
        simp only at c1 k1 hv
        have hR1 := hR.sc k1 c1
        have q1 : mTw (mi_wI m1 12 0 0 0) T := hR1.2.2.1.1.1.mv kp_thr (fun p _ x => by omega)
        have q2 : mSt (mi_wI m1 12 0 0 0) 0 S := (hm.mv k1 (fun p a x y => by omega)).mv (kp_thr (m := m1) (v := 0)) (fun p a b d => by omega)
        obtain ⟨⟨r2, m2⟩, e2, b', ⟨p1, -, p3⟩, v2, k2⟩ := pm_round q1 hT q2 hp (show mo ≤ 200 by omega) (show q ≤ 2 by omega)
        simp only at v2 k2
        have eb : b = b' := by
          apply bet_an
          · have dx := (A b.2.2 x5 x7 x8).resolve_left (by omega)
            have rf := Rf_mo dx.2.2 (6 - pcN b.2.2)
            have p6 : pcN b.2.2 ≤ 6 := (s64 b.2.2 x5 0 (by decide)).2.2.2
            rw [show pcN b.2.2 + (6 - pcN b.2.2) = 6 by omega, x9] at rf
            have := p3 _ _ _ rf
            rw [← x6] at this
            exact this
          · rcases p1 with p1 | ⟨s', a', w', p1, p2⟩
            · cases p1
            · obtain ⟨s1, s2, s3⟩ := dp_low t6 (show mo ≤ 200 by omega) rl 6 _ p 0 s' a' w' z2 hp (by omega) (by omega) p1
              have da := A s' s1 a' (by omega)
              by_cases e : D s' a' < XX
              · have := mx s' s1 a' (by omega) e
                rw [p2]
                unfold bet at *; dsimp only at *; omega
              · have := Rf_w (Nat.zero_le _) p1
                omega
        refine ⟨r, m1, m2, e1, ?_, T, cd, c, y, hR1.sm (kp_thr.tr k2)⟩
        unfold f_X12_round
        rw [pe_let, pm_isPerson q1 hT hp, pe_bo, if_neg (by decide), pm_within, wi_y g1, pe_bo, if_neg (by decide), pm_within, wi_y g2, pe_bo, if_neg (by decide), e2, hv, v2, eb]
      · refine no ?_ ?_
        · unfold f_X11_round f_X11_round_J31
          rw [h1.2.2.1, pe_g (n8 h1.1), pc_hasPerson h2.1.1 hT hp, pe_bo, if_neg (by decide), pc_within, wi_y g1, pe_bo, if_neg (by decide), pc_within, wi_n g2, pe_bo, if_pos rfl]
        · unfold f_X12_round f_X12_round_J33
          rw [pe_let, pm_isPerson q1 hT hp, pe_bo, if_neg (by decide), pm_within, wi_y g1, pe_bo, if_neg (by decide), pm_within, wi_n g2, pe_bo, if_pos rfl]
    · refine no ?_ ?_
      · unfold f_X11_round f_X11_round_J31
        rw [h1.2.2.1, pe_g (n8 h1.1), pc_hasPerson h2.1.1 hT hp, pe_bo, if_neg (by decide), pc_within, wi_n g1, pe_bo, if_pos rfl]
      · unfold f_X12_round f_X12_round_J33
        rw [pe_let, pm_isPerson q1 hT hp, pe_bo, if_neg (by decide), pm_within, wi_n g1, pe_bo, if_pos rfl]
  · refine no ?_ ?_
    · unfold f_X11_round f_X11_round_J31
      rw [h1.2.2.1, pe_g (n8 h1.1), pc_hasPerson_n h2.1.1 hT hx, pe_bo, if_pos rfl]
    · unfold f_X12_round f_X12_round_J33
      rw [pe_let, pm_isPerson_n q1 hT hx, pe_bo, if_pos rfl]
