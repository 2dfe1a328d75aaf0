/-! ===== towns: line after line ===== -/
def ge (L : List Nat) (e : Nat → Nat) : Prop := ∀ n, e n < 10 ∧ (e n = 0 → kD L n ≠ 0)
theorem ge_S {L : List Nat} {c : Nat} : ge L (eS L c) := fun n => ⟨by unfold eS; split <;> omega, fun h => by have := (eS_0 h).1; omega⟩
theorem ge_N {L : List Nat} {a b : Nat} : ge L (eN L a b) := by
  intro n
  refine ⟨?_, fun h => by have := (eN_0 h).1; omega⟩
  unfold eN
  repeat' split
  all_goals omega
theorem ge_W {L : List Nat} {w : Nat} (hw : w < 26) : ge L (eW L w) := fun n => ⟨by unfold eW; split <;> omega, fun h => by have := wX_k (L := L) (n := n) (by rw [eW_0 h]; exact hw); omega⟩
theorem ge_K {L : List Nat} : ge L (eK L) := fun n => ⟨by unfold eK; split <;> omega, fun h => by have := wX_k (L := L) (n := n) (by have := eK_0 h; omega); omega⟩
theorem eO_lt {L : List Nat} {nm : Nat → Nat} {k a n : Nat} : eO L nm k a n < 10 := by
  unfold eO
  repeat' split
  all_goals omega
theorem ge_O {L : List Nat} {nm : Nat → Nat} {k a : Nat} : ge L (eO L nm k a) := fun n => ⟨eO_lt, fun h => by have := (eO_k h).1; omega⟩
theorem ge_Q {L : List Nat} {nm T : Nat → Nat} {k a : Nat} : ge L (eQ L nm T k a) := by
  intro n
  refine ⟨?_, fun h => by have := (eO_k (eQ_0 h).1).1; omega⟩
  have := eO_lt (L := L) (nm := nm) (k := k) (a := 99) (n := n)
  unfold eQ
  repeat' split
  all_goals omega
theorem ge_P {L : List Nat} {nm : Nat → Nat} {k : Nat} : ge L (eP L nm k) := by
  intro n
  refine ⟨?_, fun h => by have := (eP_0 h).1; omega⟩
  unfold eP
  repeat' split
  all_goals omega
def gs (c n : Nat) (s : Nat × Nat) : Prop := n ≤ s.1 ∧ s.1 ≤ c ∧ s.2 < 100000
theorem sx_g {L : List Nat} {c n : Nat} {e : Nat → Nat} {s : Nat × Nat} (hL : tkN L c) (he : ge L e) (hs : gs c n s) : gs c n (sx L e s) := by
  obtain ⟨a, v⟩ := s
  obtain ⟨h1, h2, h3⟩ := hs
  simp only at h1 h2 h3
  by_cases hv : v = 0
  · subst hv
    by_cases e0 : e a = 0
    · rw [sx_y e0]
      have := hL.k h2 ((he a).2 e0)
      exact ⟨by show n ≤ a + 1; omega, by show a + 1 ≤ c; omega, by show 0 < 100000; omega⟩
    · rw [sx_n e0]
      have := (he a).1
      have := hL.p (n := a)
      exact ⟨h1, h2, by show e a + 16 * plT L a < 100000; omega⟩
  · rw [sx_f hv]
    exact ⟨h1, h2, h3⟩
theorem ln_b {L : List Nat} {c n : Nat} {P : PS} (hL : tkN L c) (hn : n ≤ c) : (ln L n P).1.2 < 100000 ∧ ((ln L n P).1.2 = 0 → n < (ln L n P).1.1 ∧ (ln L n P).1.1 ≤ c) := by
  have wk : wX L n < 26 → n < c := fun x => hL.k hn (by rw [wX_k x]; decide)
  have pb := hL.p (n := n)
  have flt : ∀ k, k ≠ 0 → k < 10 → (k + 16 * plT L n) < 100000 ∧ ((k + 16 * plT L n) = 0 → n < n ∧ n ≤ c) := fun k h1 h2 => ⟨by omega, fun x => by omega⟩
  have good : ∀ s : Nat × Nat, gs c (n + 1) s → s.2 < 100000 ∧ (s.2 = 0 → n < s.1 ∧ s.1 ≤ c) := fun s hs => ⟨hs.2.2, fun _ => ⟨hs.1, hs.2.1⟩⟩
  have st : n < c → gs c (n + 1) (n + 1, 0) := fun h => ⟨Nat.le_refl _, h, by show 0 < 100000; omega⟩
  unfold ln
  by_cases a0 : wX L n = 0
  · rw [if_pos a0]
    by_cases b : P.1 0 = 6
    · rw [if_pos b]; exact flt 5 (by decide) (by decide)
    · rw [if_neg b]
      exact good _ (sx_g hL ge_S (sx_g hL ge_N (sx_g hL (ge_W (by decide)) (sx_g hL ge_K (sx_g hL ge_P (st (wk (by omega))))))))
  rw [if_neg a0]
  by_cases a2 : wX L n = 2
  · rw [if_pos a2]
    exact good _ (sx_g hL ge_S (sx_g hL ge_N (sx_g hL ge_Q (sx_g hL ge_O (st (wk (by omega)))))))
  rw [if_neg a2]
  by_cases a3 : wX L n = 3
  · rw [if_pos a3]
    by_cases b : P.1 2 = 8
    · rw [if_pos b]; exact flt 5 (by decide) (by decide)
    · rw [if_neg b]
      exact good _ (sx_g hL ge_S (sx_g hL ge_N (sx_g hL (ge_W (by decide)) (sx_g hL ge_O (sx_g hL (ge_W (by decide)) (sx_g hL ge_O (st (wk (by omega)))))))))
  rw [if_neg a3]
  by_cases a6 : wX L n = 6
  · rw [if_pos a6]
    by_cases b : P.1 3 = 4
    · rw [if_pos b]; exact flt 5 (by decide) (by decide)
    · rw [if_neg b]
      exact good _ (sx_g hL ge_S (sx_g hL ge_O (sx_g hL (ge_W (by decide)) (sx_g hL ge_O (st (wk (by omega)))))))
  rw [if_neg a6]
  by_cases a7 : 7 ≤ wX L n ∧ wX L n ≤ 11
  · rw [if_pos a7]
    have nc := wk (by omega)
    unfold lnO
    by_cases o : P.2.2.1 (wX L n - 7) = true
    · rw [if_pos o]; exact flt 3 (by decide) (by decide)
    rw [if_neg o]
    by_cases b2 : wX L n - 7 < 2
    · rw [if_pos b2]
      exact good _ (sx_g hL ge_S (sx_g hL ge_N (st nc)))
    · rw [if_neg b2]
      have hc := hL.c
      obtain ⟨r, er⟩ := (pt_e hL 17000).1 0 0 (n + 1) (by omega) (by omega) nc (by omega)
      have ob := (pt_b hL 17000).1 0 0 (n + 1) r (by omega) (by omega) nc er
      rw [er]
      match r, ob with
      | .inl (k, nf), ob =>
        obtain ⟨o1, o2, o3, o4⟩ := ob.1 k nf rfl
        have := hL.p (n := nf)
        exact ⟨by show k + 16 * plT L nf < 100000; omega, fun x => by have x : k + 16 * plT L nf = 0 := x; omega⟩
      | .inr (n1, c1), ob =>
        obtain ⟨o1, o2, -, -, -⟩ := ob.2 n1 c1 rfl
        exact good _ (sx_g hL ge_S ⟨o1, o2, by show 0 < 100000; omega⟩)
  · rw [if_neg a7]; exact flt 1 (by decide) (by decide)
def lns (L : List Nat) : Nat → Nat → PS → Nat × PS
  | 0, _, P => (0, P)
  | f + 1, n, P => if kD L n = 0 then (0, P) else if (ln L n P).1.2 = 0 then lns L f (ln L n P).1.1 (ln L n P).2 else ((ln L n P).1.2, P)
theorem lns_s {L : List Nat} {f n : Nat} {P : PS} : lns L (f + 1) n P = if kD L n = 0 then (0, P) else if (ln L n P).1.2 = 0 then lns L f (ln L n P).1.1 (ln L n P).2 else ((ln L n P).1.2, P) := rfl
def P0 : PS := (t0A, fun _ => 0, fun _ => false, dfA)
theorem P0_ok : pOK P0 := ⟨t0_ok, df_ok⟩
/-! the developers' town, emptied -/
theorem cl_1 {β : Type} {e l u : Nat} {s : Int32} {m : mi_M} {k : mi_M → Option β} {Q : β → Prop} (hu : m.1 1 e 4 = n32 u) (hl : l < 3) (h3 : u < 1003) (hk : ∀ m', m'.1 1 e 4 = n32 (u + 1) → m'.1 17 e l = n32 u → m'.1 18 e l = n32 (u + 1) → m'.1 16 e u = s → kp (fun k i p => i = e ∧ (k = 1 ∧ p = 4 ∨ (k = 17 ∨ k = 18) ∧ p = l ∨ k = 16 ∧ p = u)) m m' → wo (k m') Q) : wo (mi_bo (f_X1_begin e (n32 l) m) fun m2 => mi_bo (f_X1_put e s m2) fun m3 => mi_bo (f_X1_end e (n32 l) m3) fun m4 => k m4) Q := by
  unfold f_X1_begin f_X1_end
  rw [pw_bo, pw_g, pw_let, pw_some, n32_in (by omega), n32_cl (by omega), hu]
  refine ⟨hl, ?_⟩
  have k2 : kp (fun k i p => i = e ∧ (k = 1 ∧ p = 4 ∨ (k = 17 ∨ k = 18) ∧ p = l ∨ k = 16 ∧ p = u)) m (mi_wI m 17 e l (n32 u)) := kp.rf.wI (by omega)
  have w2 : (mi_wI m 17 e l (n32 u)).1 17 e l = n32 u := rI_eq
  have u2 : (mi_wI m 17 e l (n32 u)).1 1 e 4 = n32 u := by rw [rI_ne (by omega)]; exact hu
  generalize mi_wI m 17 e l (n32 u) = m2 at k2 w2 u2
  rw [pw_bo]
  refine pw_mono (pc_put (s := s) u2 (by omega)) ?_
  rintro m3 ⟨u', -, a2, a3, a4⟩
  obtain ⟨a5, a6⟩ := a3 h3
  subst a5
  rw [pw_bo, pw_g, pw_let, pw_some, a2]
  refine ⟨hl, hk _ ?_ ?_ rI_eq ?_ ((k2.tr (a4.mo (fun k i p a => by omega))).wI (by omega))⟩
  · rw [rI_ne (by omega)]; exact a2
  · rw [rI_ne (by omega), a4.1 17 e l (by omega)]; exact w2
  · rw [rI_ne (by omega)]; exact a6
theorem pc_clearW {e : Nat} {m : mi_M} : wo (f_X9_clear e m) (fun m' => m'.1 9 e 0 = 0 ∧ m'.1 9 e 1 = 0 ∧ m'.2.1 9 e 6 = 0 ∧ (∀ i j, i < 6 → j < 6 → m'.1 76 (6 * e + i) j = 0) ∧ kp (fun k i p => i = e ∧ (k = 9 ∨ k = 109) ∨ k = 76 ∧ 6 * e ≤ i ∧ i < 6 * e + 6) m m') := by
  unfold f_X9_clear
  rw [pw_let, pw_let, pw_let, pw_bo]
  have k0 : kp (fun k i p => i = e ∧ (k = 9 ∨ k = 109) ∨ k = 76 ∧ 6 * e ≤ i ∧ i < 6 * e + 6) m (mi_wL (mi_wI (mi_wI m 9 e 0 0) 9 e 1 0) 9 e 6 0) := ((kp.rf.wI (by omega)).wI (by omega)).wL (by omega)
  have a0 : (mi_wL (mi_wI (mi_wI m 9 e 0 0) 9 e 1 0) 9 e 6 0).1 9 e 0 = 0 := by rw [rLI, rI_ne (by omega), rI_eq]
  have a1 : (mi_wL (mi_wI (mi_wI m 9 e 0 0) 9 e 1 0) 9 e 6 0).1 9 e 1 = 0 := by rw [rLI, rI_eq]
  have a6 : (mi_wL (mi_wI (mi_wI m 9 e 0 0) 9 e 1 0) 9 e 6 0).2.1 9 e 6 = 0 := by rw [rL, if_pos ⟨rfl, rfl, rfl⟩]
  generalize mi_wL (mi_wI (mi_wI m 9 e 0 0) 9 e 1 0) 9 e 6 0 = m0 at k0 a0 a1 a6
  refine pl_for (fun k z => z.1 = n32 k ∧ kp (fun k i _ => k = 76 ∧ 6 * e ≤ i ∧ i < 6 * e + 6) m0 z.2 ∧ ∀ i j, i < k → j < 6 → z.2.1 76 (6 * e + i) j = 0) 6 (by omega) ⟨rfl, kp.rf, fun i j hi => absurd hi (by omega)⟩ ?_
  rintro k ⟨l, m1⟩ hk ⟨b1, b2, b3⟩
  simp only at b1 b2 b3
  subst b1
  unfold f_X9_clear_B17
  dsimp only
  rw [pw_if, n32_Lle (by omega) (by decide), pw_some, lr_r]
  refine ⟨fun x => ?_, fun x => ?_⟩
  · have x : 6 ≤ k := x
    refine pw_some.mpr ⟨by rw [b2.1 9 e 0 (by omega)]; exact a0, by rw [b2.1 9 e 1 (by omega)]; exact a1, by rw [b2.2.1 9 e 6 (by omega)]; exact a6, fun i j hi hj => b3 i j (by omega) hj, k0.tr (b2.mo (fun k i p a => by omega))⟩
  · have x : ¬ 6 ≤ k := x
    rw [pw_bo]
    refine pl_for (fun j z => z.1 = n32 j ∧ kp (fun k i _ => k = 76 ∧ 6 * e ≤ i ∧ i < 6 * e + 6) m0 z.2 ∧ (∀ i j, i < k → j < 6 → z.2.1 76 (6 * e + i) j = 0) ∧ ∀ q, q < j → z.2.1 76 (6 * e + k) q = 0) 6 (by omega) ⟨rfl, b2, b3, fun q hq => absurd hq (by omega)⟩ ?_
    rintro j ⟨l, m2⟩ hj ⟨c1, c2, c3, c4⟩
    simp only at c1 c2 c3 c4
    subst c1
    unfold f_X9_clear_B25
    dsimp only
    simp (disch := omega) only [pw_if, pw_some, n32_Lle, lr_r, lr_l, pw_g, pw_let, n32_in, n32_cl, n32_al, Nat.add_zero]
    refine ⟨fun y => ?_, fun y => ⟨by omega, by omega, by omega, by trivial, c2.wI (by omega), fun i q hi hq => ?_, fun q hq => ?_⟩⟩
    · unfold f_X9_clear_K25
      rw [pw_some, lr_l]
      refine ⟨by omega, n32_al _ _, c2, fun i q hi hq => ?_⟩
      by_cases z : i = k
      · subst z; exact c4 q (by omega)
      · exact c3 i q (by omega) hq
    · rw [rI_ne (by omega)]; exact c3 i q hi hq
    · by_cases z : q = j
      · subst z; rw [rI_eq]
      · rw [rI_ne (by omega)]; exact c4 q (by omega)
theorem pc_clear {e : Nat} {m : mi_M} {L : List Nat} : wo (f_X8_clear e m) (fun m' => dP m' e L P0 0 ∧ kp (fun k i p => i = e ∧ (k = 8 ∨ k = 9 ∨ k = 109 ∨ k = 1 ∨ k = 16 ∨ k = 17 ∨ k = 18) ∨ k = 76 ∧ 6 * e ≤ i ∧ i < 6 * e + 6) m m') := by
  unfold f_X8_clear
  rw [pw_let, pw_let, pw_let, pw_let, pw_let, pw_bo]
  have k0 : kp (fun k i p => i = e ∧ k = 8) m (mi_wI (mi_wI (mi_wI (mi_wI (mi_wI m 8 e 0 0) 8 e 1 0) 8 e 2 3) 8 e 3 0) 8 e 4 0) := ((((kp.rf.wI ⟨rfl, rfl⟩).wI ⟨rfl, rfl⟩).wI ⟨rfl, rfl⟩).wI ⟨rfl, rfl⟩).wI ⟨rfl, rfl⟩
  have a0 : (mi_wI (mi_wI (mi_wI (mi_wI (mi_wI m 8 e 0 0) 8 e 1 0) 8 e 2 3) 8 e 3 0) 8 e 4 0).1 8 e 0 = 0 := by rw [rI_ne (by omega), rI_ne (by omega), rI_ne (by omega), rI_ne (by omega), rI_eq]
  have a1 : (mi_wI (mi_wI (mi_wI (mi_wI (mi_wI m 8 e 0 0) 8 e 1 0) 8 e 2 3) 8 e 3 0) 8 e 4 0).1 8 e 1 = 0 := by rw [rI_ne (by omega), rI_ne (by omega), rI_ne (by omega), rI_eq]
  have a2 : (mi_wI (mi_wI (mi_wI (mi_wI (mi_wI m 8 e 0 0) 8 e 1 0) 8 e 2 3) 8 e 3 0) 8 e 4 0).1 8 e 2 = 3 := by rw [rI_ne (by omega), rI_ne (by omega), rI_eq]
  have a3 : (mi_wI (mi_wI (mi_wI (mi_wI (mi_wI m 8 e 0 0) 8 e 1 0) 8 e 2 3) 8 e 3 0) 8 e 4 0).1 8 e 3 = 0 := by rw [rI_ne (by omega), rI_eq]
  have a4 : (mi_wI (mi_wI (mi_wI (mi_wI (mi_wI m 8 e 0 0) 8 e 1 0) 8 e 2 3) 8 e 3 0) 8 e 4 0).1 8 e 4 = 0 := rI_eq
  generalize mi_wI (mi_wI (mi_wI (mi_wI (mi_wI m 8 e 0 0) 8 e 1 0) 8 e 2 3) 8 e 3 0) 8 e 4 0 = m0 at k0 a0 a1 a2 a3 a4
  unfold f_X1_clear
  rw [pw_let]
  have k1 : kp (fun k i p => i = e ∧ k = 1 ∧ p = 4) m0 (mi_wI m0 1 e 4 0) := kp.rf.wI ⟨rfl, rfl, rfl⟩
  have u1 : (mi_wI m0 1 e 4 0).1 1 e 4 = n32 0 := rI_eq
  generalize mi_wI m0 1 e 4 0 = m1 at k1 u1
  refine cl_1 (l := 0) (u := 0) (s := 2) u1 (by decide) (by decide) (fun m2 p1 p2 p3 p4 q2 => ?_)
  refine cl_1 (l := 1) (u := 1) (s := 1) p1 (by decide) (by decide) (fun m3 r1 r2 r3 r4 q3 => ?_)
  refine cl_1 (l := 2) (u := 2) (s := -1) r1 (by decide) (by decide) (fun m4 s1 s2 s3 s4 q4 => ?_)
  rw [pw_some, pw_bo]
  have kk : kp (fun k i p => i = e ∧ (k = 1 ∨ k = 16 ∨ k = 17 ∨ k = 18)) m0 m4 := (((k1.mo (fun k i p a => by omega)).tr (q2.mo (fun k i p a => by omega))).tr (q3.mo (fun k i p a => by omega))).tr (q4.mo (fun k i p a => by omega))
  refine pw_mono (pc_clearW (e := e) (m := m4)) ?_
  rintro m5 ⟨w1, w2, w3, w4, w5⟩
  rw [pw_some]
  have tz : ∀ q, q ≠ 4 → t0A q = 0 := fun q hq => if_neg hq
  refine ⟨⟨⟨by show t0A 0 ≤ 6; rw [tz 0 (by omega)]; omega, ?_, fun j hj => ?_⟩, ⟨⟨⟨?_, ?_, fun z => ?_, ?_, ?_, ?_⟩, fun p hp => ?_, fun w hw => ?_, fun k hk => ?_⟩, ?_, fun i j hi hj => ?_, ?_⟩, ?_, w3⟩, ((k0.mo (fun k i p a => by omega)).tr (kk.mo (fun k i p a => by omega))).tr (w5.mo (fun k i p a => by omega))⟩
  · show m5.1 8 e 0 = n32 (t0A 0)
    rw [w5.1 8 e 0 (by omega), kk.1 8 e 0 (by omega), a0, tz 0 (by omega)]; rfl
  · have hj : j < t0A 0 := hj
    rw [tz 0 (by omega)] at hj
    exact absurd hj (by omega)
  · show m5.1 8 e 0 = n32 (t0A 0)
    rw [w5.1 8 e 0 (by omega), kk.1 8 e 0 (by omega), a0, tz 0 (by omega)]; rfl
  · show m5.1 8 e 1 = n32 (t0A 2)
    rw [w5.1 8 e 1 (by omega), kk.1 8 e 1 (by omega), a1, tz 2 (by omega)]; rfl
  · have z : 0 < t0A 2 := z
    rw [tz 2 (by omega)] at z
    exact absurd z (by omega)
  · show m5.1 8 e 3 = n32 (t0A 5)
    rw [w5.1 8 e 3 (by omega), kk.1 8 e 3 (by omega), a3, tz 5 (by omega)]; rfl
  · show m5.1 9 e 0 = n32 (t0A 1)
    rw [w1, tz 1 (by omega)]; rfl
  · show m5.1 9 e 1 = n32 (t0A 3)
    rw [w2, tz 3 (by omega)]; rfl
  · have hp : p < t0A 0 := hp
    rw [tz 0 (by omega)] at hp
    exact absurd hp (by omega)
  · have hw : w < t0A 2 := hw
    rw [tz 2 (by omega)] at hw
    exact absurd hw (by omega)
  · have hk : k < t0A 3 := hk
    rw [tz 3 (by omega)] at hk
    exact absurd hk (by omega)
  · show m5.1 8 e 2 = n32 (t0A 4)
    rw [w5.1 8 e 2 (by omega), kk.1 8 e 2 (by omega), a2]; rfl
  · show m5.1 76 (6 * e + i) j = n32 (t0A (21 + 6 * i + j))
    rw [w4 i j hi hj, tz _ (by omega)]; rfl
  · show m5.1 8 e 4 = n32 (bs (fun _ => false) 5)
    rw [w5.1 8 e 4 (by omega), kk.1 8 e 4 (by omega), a4]; decide
  · refine ⟨3, by rw [w5.1 1 e 4 (by omega)]; exact s1, by omega, fun l hl => ?_⟩
    show ∃ f, _ ∧ m5.1 18 e l = n32 (f + (dfA l).length) ∧ f + (dfA l).length ≤ 3 ∧ ∀ k (h : k < (dfA l).length), m5.1 16 e (f + k) = (dfA l)[k]
    have one : ∀ k, k < 1 → k = 0 := fun k hk => by omega
    have : l = 0 ∨ l = 1 ∨ l = 2 := by omega
    rcases this with rfl | rfl | rfl
    · refine ⟨0, ?_, ?_, by decide, fun k hk => ?_⟩
      · rw [w5.1 17 e 0 (by omega), q4.1 17 e 0 (by omega), q3.1 17 e 0 (by omega)]; exact p2
      · rw [w5.1 18 e 0 (by omega), q4.1 18 e 0 (by omega), q3.1 18 e 0 (by omega)]; exact p3
      · have := one k hk
        subst this
        rw [w5.1 16 e _ (by omega), q4.1 16 e _ (by omega), q3.1 16 e _ (by omega)]; exact p4
    · refine ⟨1, ?_, ?_, by decide, fun k hk => ?_⟩
      · rw [w5.1 17 e 1 (by omega), q4.1 17 e 1 (by omega)]; exact r2
      · rw [w5.1 18 e 1 (by omega), q4.1 18 e 1 (by omega)]; exact r3
      · have := one k hk
        subst this
        rw [w5.1 16 e _ (by omega), q4.1 16 e _ (by omega)]; exact r4
    · refine ⟨2, ?_, ?_, by decide, fun k hk => ?_⟩
      · rw [w5.1 17 e 2 (by omega)]; exact s2
      · rw [w5.1 18 e 2 (by omega)]; exact s3
      · have := one k hk
        subst this
        rw [w5.1 16 e _ (by omega)]; exact s4
