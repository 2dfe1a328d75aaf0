theorem bs_up {on : Nat → Bool} {b : Nat} (hb : b < 5) : n32 (bs on 5) ||| (1 : Int32) <<< (n32 b &&& 31) = n32 (bs (upB on b) 5) := by
  rw [show (1 : Int32) <<< (n32 b &&& 31) = bt b from rfl, bt_eq b (by omega), n32_or]
  congr 1
  apply Nat.eq_of_testBit_eq
  intro i
  rw [Nat.testBit_or, bs_tb, bs_tb, Nat.testBit_two_pow]
  unfold upB
  by_cases hi : i = b
  · subst hi
    simp [hb]
  · have : ¬ b = i := fun x => hi x.symm
    simp [hi, this]
theorem dP_on {L : List Nat} {e n b : Nat} {m : mi_M} {P : PS} (h : dP m e L P n) (hb : b < 5) : dP (mi_wI m 8 e 4 (n32 (bs (upB P.2.2.1 b) 5))) e L (P.1, P.2.1, upB P.2.2.1 b, P.2.2.2) n := by
  have kk : kp (fun k i p => k = 8 ∧ i = e ∧ p = 4) m (mi_wI m 8 e 4 (n32 (bs (upB P.2.2.1 b) 5))) := kp.rf.wI ⟨rfl, rfl, rfl⟩
  have w : (mi_wI m 8 e 4 (n32 (bs (upB P.2.2.1 b) 5))).1 8 e 4 = n32 (bs (upB P.2.2.1 b) 5) := rI_eq
  generalize mi_wI m 8 e 4 (n32 (bs (upB P.2.2.1 b) 5)) = m' at kk w
  obtain ⟨g1, ⟨⟨⟨c1, c2, c3, c4, c5, c6⟩, c7, c8, c9⟩, c10, c11, c12⟩, g5, g6⟩ := h
  refine ⟨g1.mv kk (by omega) (fun p => by omega), ⟨⟨⟨?_, ?_, fun z => ?_, ?_, ?_, ?_⟩, fun p hp => ?_, fun w hw => ?_, fun k hk => ?_⟩, ?_, fun i j hi hj => ?_, w⟩, g5.mv kk (fun k p a => by omega) (Nat.le_refl _), by rw [kk.2.1 9 e 6 (by omega)]; exact g6⟩
  · rw [kk.1 8 e 0 (by omega)]; exact c1
  · rw [kk.1 8 e 1 (by omega)]; exact c2
  · rw [kk.1 8 e 2 (by omega)]; exact c10
  · rw [kk.1 8 e 3 (by omega)]; exact c4
  · rw [kk.1 9 e 0 (by omega)]; exact c5
  · rw [kk.1 9 e 1 (by omega)]; exact c6
  · rw [kk.1 39 e p (by omega), kk.1 40 e p (by omega)]; exact c7 p hp
  · rw [kk.1 41 e w (by omega), kk.1 42 e w (by omega), kk.1 43 e w (by omega)]; exact c8 w hw
  · rw [kk.1 45 e k (by omega), kk.1 46 e k (by omega)]; exact c9 k hk
  · rw [kk.1 8 e 2 (by omega)]; exact c10
  · rw [kk.1 76 _ j (by omega)]; exact c11 i j hi hj
theorem dP_bar {L : List Nat} {e n b v : Nat} {m : mi_M} {P : PS} (h : dP m e L P n) (hb : b < 2) (h6 : P.1 0 ≤ 6) (h8 : P.1 2 ≤ 8) : dP (mi_wI m 8 e (2 + b) (n32 v)) e L (upT P.1 (4 + b) v, P.2) n := by
  have kk : kp (fun k i p => k = 8 ∧ i = e ∧ p = 2 + b) m (mi_wI m 8 e (2 + b) (n32 v)) := kp.rf.wI ⟨rfl, rfl, rfl⟩
  have w : (mi_wI m 8 e (2 + b) (n32 v)).1 8 e (2 + b) = n32 v := rI_eq
  generalize mi_wI m 8 e (2 + b) (n32 v) = m' at kk w
  obtain ⟨g1, ⟨⟨⟨c1, c2, c3, c4, c5, c6⟩, c7, c8, c9⟩, c10, c11, c12⟩, g5, g6⟩ := h
  have z0 : ∀ x, x ≠ 4 + b → upT P.1 (4 + b) v x = P.1 x := fun x hx => up_n hx
  have z1 : upT P.1 (4 + b) v (4 + b) = v := up_e
  have bar : m'.1 8 e 2 = n32 (upT P.1 (4 + b) v 4) := by
    by_cases z : b = 0
    · subst z; rw [show (4 : Nat) = 4 + 0 from rfl, z1]; exact w
    · rw [z0 4 (by omega), kk.1 8 e 2 (by omega)]; exact c10
  have win : m'.1 8 e 3 = n32 (upT P.1 (4 + b) v 5) := by
    by_cases z : b = 1
    · subst z; rw [show (5 : Nat) = 4 + 1 from rfl, z1]; exact w
    · rw [z0 5 (by omega), kk.1 8 e 3 (by omega)]; exact c4
  unfold dP dTw cTw kdA byA toA szA
  dsimp only
  generalize upT P.1 (4 + b) v = T' at z0 z1 bar win
  have t0 := z0 0 (by omega)
  refine ⟨?_, ⟨⟨⟨?_, ?_, fun z => bar, win, ?_, ?_⟩, fun p hp => ?_, fun w hw => ?_, fun k hk => ?_⟩, bar, fun i j hi hj => ?_, ?_⟩, g5.mv kk (fun k p a => by omega) (Nat.le_refl _), by rw [kk.2.1 9 e 6 (by omega)]; exact g6⟩
  · rw [t0]; exact g1.mv kk (by omega) (fun p => by omega)
  · rw [kk.1 8 e 0 (by omega), t0]; exact c1
  · rw [kk.1 8 e 1 (by omega), z0 2 (by omega)]; exact c2
  · rw [kk.1 9 e 0 (by omega), z0 1 (by omega)]; exact c5
  · rw [kk.1 9 e 1 (by omega), z0 3 (by omega)]; exact c6
  · rw [t0] at hp
    rw [kk.1 39 e p (by omega), kk.1 40 e p (by omega), z0 _ (by omega), z0 _ (by omega)]; exact c7 p hp
  · rw [z0 2 (by omega)] at hw
    rw [kk.1 41 e w (by omega), kk.1 42 e w (by omega), kk.1 43 e w (by omega), z0 _ (by omega), z0 _ (by omega), z0 _ (by omega)]; exact c8 w hw
  · rw [z0 3 (by omega)] at hk
    rw [kk.1 45 e k (by omega), kk.1 46 e k (by omega), z0 _ (by omega), z0 _ (by omega)]; exact c9 k hk
  · rw [kk.1 76 _ j (by omega), z0 _ (by omega)]; exact c11 i j hi hj
  · rw [kk.1 8 e 4 (by omega)]; exact c12
theorem rd_end2 {L : List Nat} {e n : Nat} {m m0 : mi_M} {x : (Nat × Nat) × PS} {kb kg : mi_M → Option (Int32 × mi_M)} (hL : okL L) (h : dT m L n) (hx : x.1 = sx L (eS L 59) (n, 0)) (hp : dP m e L x.2 n) (hk : kp (fun k i p => kLn e k i p) m0 m) (hb : ∀ m', kb m' = some (0, m')) (hg : ∀ m', kg m' = some (1, m')) : wo (mi_b (f_X7_passSign (59 : Int32) m) fun v m' => if v = 0 then kb m' else kg m') (dQ L e m0 x) := by
  refine rd_seq (show wo (f_X7_passSign 59 m) _ from pc_passSign (c := 59) h hL (by decide)) (fun eb m1 b1 b2 => ?_) (fun eg m1 d1 k1 => ?_)
  · rw [sx_n eb] at hx
    rw [hb, pw_some]
    exact dq_bad hx (by omega) b1 (hk.tr (b2.mo (fun k i p a => Or.inl a)))
  · rw [sx_y eg] at hx
    rw [hg, pw_some]
    refine ⟨fun _ => ⟨rfl, by rw [hx]; exact d1, by rw [hx]; exact hp.mv k1 (by show n ≤ n + 1; omega)⟩, fun z => ?_, hk.tr (k1.mo (fun k i p a => Or.inl a))⟩
    rw [hx] at z
    exact absurd rfl z
theorem dLw_new {m m' : mi_M} {e n1 l u : Nat} {cd : Nat → List Int32} {c1 : List Int32} (hu : m.1 1 e 4 = n32 u) (h3 : ∀ l, l < 3 → ∃ f, m.1 17 e l = n32 f ∧ m.1 18 e l = n32 (f + (cd l).length) ∧ f + (cd l).length ≤ u ∧ ∀ k (h : k < (cd l).length), m.1 16 e (f + k) = (cd l)[k]) (hc : cdC m' e u c1) (h17 : m'.1 17 e l = n32 u) (h18 : m'.1 18 e l = n32 (u + c1.length)) (hk : kp (fun k i p => kT e u k i p ∨ (k = 17 ∨ k = 18) ∧ i = e ∧ p = l) m m') (hn : u + c1.length ≤ n1 + 3) : dLw m' e n1 (upC cd l c1) := by
  refine ⟨u + c1.length, hc.1, hn, fun l' hl' => ?_⟩
  unfold upC
  by_cases z : l' = l
  · subst z
    simp only [if_pos]
    exact ⟨u, h17, h18, Nat.le_refl _, hc.2⟩
  · simp only [if_neg z]
    obtain ⟨f, a1, a2, a3, a4⟩ := h3 l' hl'
    refine ⟨f, by rw [hk.1 17 e l' (by omega)]; exact a1, by rw [hk.1 18 e l' (by omega)]; exact a2, by omega, fun k hh => ?_⟩
    rw [hk.1 16 e (f + k) (by omega)]
    exact a4 k hh
theorem pc_readOnce {L : List Nat} {c e n b : Nat} {m : mi_M} {P : PS} (hL : tkN L c) (hn : n + 1 ≤ c) (hd : dT m L n) (h : dP m e L P n) (hP : pOK P) (hb : b < 5) : wo (f_X7_readOnce e (n32 b) m) (dQ L e m (lnO L n b P)) := by
  have hc := hL.c
  unfold f_X7_readOnce lnO
  rw [h.2.1.2.2.2, pc_holds (by omega), pe_bo, bs_tb, if01]
  by_cases o : P.2.2.1 b = true
  · rw [if_pos o, if_pos (show (decide (b < 5) && P.2.2.1 b) = true by simp [hb, o])]
    exact dq_fail (x := 3) hd (by decide) kp.rf rfl
  rw [if_neg o, if_neg (show ¬ (decide (b < 5) && P.2.2.1 b) = true by simp [o]), pw_let, bs_up hb, pw_bo]
  have p2 := dP_on (b := b) h hb
  have k2 : kp (fun k i p => kLn e k i p) m (mi_wI m 8 e 4 (n32 (bs (upB P.2.2.1 b) 5))) := kp.rf.wI (by omega)
  have d2 : dT (mi_wI m 8 e 4 (n32 (bs (upB P.2.2.1 b) 5))) L n := hd.mv (kp.rf.wI ⟨rfl, rfl, rfl⟩ : kp (fun k i p => k = 8 ∧ i = e ∧ p = 4) m _) (fun q => by omega) (by omega) (fun q => by omega)
  generalize mi_wI m 8 e 4 (n32 (bs (upB P.2.2.1 b) 5)) = m2 at p2 k2 d2
  refine pw_mono (pc_adv d2 hL.1) ?_
  rintro m3 ⟨d3, k3'⟩
  have p3 := p2.mv (k3'.mo (fun k i p a => by omega) : kp (fun k i p => k67 k i p) m2 m3) (Nat.le_refl n)
  have k3'' : kp (fun k i p => kLn e k i p) m m3 := k2.tr (k3'.mo (fun k i p a => Or.inl (by omega)))
  rw [pw_let]
  by_cases b2 : b < 2
  · rw [if_pos b2]
    have hx0 : (lnB L n b P).1 = sx L (eS L 59) (sx L (eN L 0 (if b = 0 then 31 else 11)) (n + 1, 0)) := rfl
    have kw : ∀ v : Int32, kp (fun k i p => kLn e k i p) m (mi_wI m3 8 e (2 + b) v) := fun v => k3''.wI (by omega)
    have dw : ∀ v : Int32, dT (mi_wI m3 8 e (2 + b) v) L (n + 1) := fun v => d3.mv (kp.rf.wI ⟨rfl, rfl⟩ : kp (fun k i p => k = 8 ∧ i = e) m3 _) (fun q => by omega) (by omega) (fun q => by omega)
    have pw : eN L 0 (if b = 0 then 31 else 11) (n + 1) = 0 → dP (mi_wI m3 8 e (2 + b) (m3.1 6 0 3)) e L (lnB L n b P).2 n := fun z => by
      rw [d3.v (Or.inl (eN_0 z).1)]
      exact dP_bar p3 b2 hP.1.1.1 hP.1.1.2.1
    have : b = 0 ∨ b = 1 := by omega
    rcases this with rfl | rfl
    · rw [if_pos (show n32 0 = 0 from rfl), pw_let]
      refine rd_seq (show wo (f_X7_passNumber 0 30 _) _ from pc_passNumber (lo := 0) (hx := 31) (dw _) hL.1 (by decide) (by decide)) (fun eb m4 b1 b2 => ?_) (fun eg m4 d4 k4 => ?_)
      · rw [if_pos rfl, sx_i eb, sx_n eb] at hx0
        rw [show f_X7_readOnce_J76 m4 = some (0, m4) from pe_g (by decide), pw_some]
        exact dq_bad hx0 (by omega) b1 ((kw _).tr (b2.mo (fun k i p a => Or.inl a)))
      · rw [if_pos rfl, sx_y eg] at hx0
        exact rd_end2 hL.1 d4 hx0 ((pw eg).mv k4 (by omega)) ((kw _).tr (k4.mo (fun k i p a => Or.inl a))) (fun m' => pe_g (by decide)) (fun m' => pe_g (by decide))
    · rw [if_neg (show ¬ n32 1 = 0 by decide), if_pos (show n32 1 = 1 from rfl), pw_let]
      refine rd_seq (show wo (f_X7_passNumber 0 10 _) _ from pc_passNumber (lo := 0) (hx := 11) (dw _) hL.1 (by decide) (by decide)) (fun eb m4 b1 b2 => ?_) (fun eg m4 d4 k4 => ?_)
      · rw [if_neg (by decide), sx_i eb, sx_n eb] at hx0
        rw [show f_X7_readOnce_J111 m4 = some (0, m4) from pe_g (by decide), pw_some]
        exact dq_bad hx0 (by omega) b1 ((kw _).tr (b2.mo (fun k i p a => Or.inl a)))
      · rw [if_neg (by decide), sx_y eg] at hx0
        exact rd_end2 hL.1 d4 hx0 ((pw eg).mv k4 (by omega)) ((kw _).tr (k4.mo (fun k i p a => Or.inl a))) (fun m' => pe_g (by decide)) (fun m' => pe_g (by decide))
  · rw [if_neg b2, if_neg (by rw [show (0 : Int32) = n32 0 from rfl, n32_eq (by omega) (by omega)]; omega), if_neg (by rw [n32_eqL (by omega) (by decide)]; show ¬ b = 1; omega)]
    obtain ⟨g1, g2, ⟨u, u1, u2, u3⟩, g4⟩ := p3
    obtain ⟨r, er⟩ := (pt_e hL 17000).1 0 0 (n + 1) (by omega) (by omega) hn (by omega)
    have ob := (pt_b hL 17000).1 0 0 (n + 1) r (by omega) (by omega) hn er
    rw [er, pw_bo]
    have eb : n32 b - 2 = n32 (b - 2) := n32_sub (b := 2) (by omega)
    rw [eb]
    unfold f_X1_begin f_X1_end
    rw [pw_g, n32_in (by omega), n32_cl (by omega), pw_let, pw_some, u1]
    refine ⟨by omega, ?_⟩
    have k5 : kp (fun k i p => k = 17 ∧ i = e ∧ p = b - 2) m3 (mi_wI m3 17 e (b - 2) (n32 u)) := kp.rf.wI ⟨rfl, rfl, rfl⟩
    have w17 : (mi_wI m3 17 e (b - 2) (n32 u)).1 17 e (b - 2) = n32 u := rI_eq
    generalize mi_wI m3 17 e (b - 2) (n32 u) = m5 at k5 w17
    have d5 := d3.mv k5 (fun q => by omega) (by omega) (fun q => by omega)
    rw [pw_b]
    refine pw_mono (pc_readTerm hL hn er d5 (by rw [k5.1 1 e 4 (by omega)]; exact u1) (by omega)) ?_
    intro z hz
    rw [pw_bo, pw_g, pw_let, pw_some]
    refine ⟨by omega, ?_⟩
    have k8 : kp (fun k i p => k = 18 ∧ i = e ∧ p = b - 2) z.2 (mi_wI z.2 18 e (b - 2) (z.2.1 1 e 4)) := kp.rf.wI ⟨rfl, rfl, rfl⟩
    have w18 : (mi_wI z.2 18 e (b - 2) (z.2.1 1 e 4)).1 18 e (b - 2) = z.2.1 1 e 4 := rI_eq
    generalize mi_wI z.2 18 e (b - 2) (z.2.1 1 e 4) = m8 at k8 w18
    have kall : kp (fun k i p => kT e u k i p ∨ (k = 17 ∨ k = 18) ∧ i = e ∧ p = b - 2) m3 m8 := ((k5.mo (fun k i p a => by omega)).tr (hz.2.2.mo (fun k i p a => by omega))).tr (k8.mo (fun k i p a => by omega))
    have kln : kp (fun k i p => kLn e k i p) m m8 := k3''.tr (kall.mo (fun k i p a => by omega))
    match r, ob, hz with
    | .inl (k, nf), ob, hz =>
      obtain ⟨-, -, o3, -⟩ := ob.1 k nf rfl
      obtain ⟨y1, y2, -⟩ := hz.1 k nf rfl
      rw [if_pos y1, show f_X7_readOnce_J163 m8 = some (0, m8) from pe_g (by decide), pw_some]
      exact dq_bad rfl (by omega) (by rw [k8.1 7 0 1 (by omega)]; exact y2) kln
    | .inr (n1, c1), ob, hz =>
      obtain ⟨o1, o2, o3, o4, -⟩ := ob.2 n1 c1 rfl
      obtain ⟨y1, y2, y3⟩ := hz.2.1 n1 c1 rfl
      rw [y1, if_neg (by decide)]
      have c8 : cdC m8 e u c1 := ⟨by rw [k8.1 1 e 4 (by omega)]; exact y3.1, fun k hk => by rw [k8.1 16 e _ (by omega)]; exact y3.2 k hk⟩
      refine rd_end2 hL.1 (y2.mv k8 (fun q => by omega) (by omega) (fun q => by omega)) rfl ?_ kln (fun m' => pe_g (by decide)) (fun m' => pe_g (by decide))
      refine ⟨g1.mv kall (by omega) (fun p => by omega), ?_, dLw_new u1 u3 c8 ?_ ?_ kall (by omega), by rw [kall.2.1 9 e 6 (by omega)]; exact g4⟩
      · show dTw m8 e P.1 (upB P.2.2.1 (2 + (b - 2)))
        rw [show 2 + (b - 2) = b by omega]
        exact g2.mv kall (fun k i p a q => by omega)
      · rw [k8.1 17 e _ (by omega), hz.2.2.1 17 e _ (by omega)]; exact w17
      · rw [w18]; exact y3.1
theorem ix_1 : ∀ x, x ≤ 26 → ixW x (wls 1) 0 = if x = 0 then 0 else if x = 2 then 1 else if x = 3 then 2 else if x = 6 then 3 else if 7 ≤ x ∧ x ≤ 11 then n32 (x - 3) else -1 := by decide +kernel
/-- one line of the developers' loop -/
theorem pc_line {L : List Nat} {c e n : Nat} {m : mi_M} {P : PS} {l7 : Int32} (hL : tkN L c) (hn : n ≤ c) (hd : dT m L n) (h : dP m e L P n) (hP : pOK P) : wo (mi_bo (f_X6_among 1 m) fun v9 => if v9 = (-1 : Int32) then mi_b (f_X7_fail (1 : Int32) m) fun v13 m14 => f_X7_readTown_J143 l7 v13 m14 else if v9 = (0 : Int32) then mi_b (f_X7_readPerson e m) fun v16 m17 => f_X7_readTown_J143 l7 v16 m17 else if v9 = (1 : Int32) then mi_b (f_X7_readLane e m) fun v19 m20 => f_X7_readTown_J143 l7 v19 m20 else if v9 = (2 : Int32) then mi_b (f_X7_readWrong e m) fun v22 m23 => f_X7_readTown_J143 l7 v22 m23 else if v9 = (3 : Int32) then mi_b (f_X7_readWalk e m) fun v25 m26 => f_X7_readTown_J143 l7 v25 m26 else mi_b (f_X7_readOnce e (v9 - (4 : Int32)) m) fun v27 m28 => f_X7_readTown_J143 l7 v27 m28) (fun x => ∃ r, x = .inl (r.1, l7 + 1, r.2) ∧ dQ L e m (ln L n P) r) := by
  have wk : wX L n < 26 → kD L n = 2 := wX_k
  have fin : ∀ o : Option (Int32 × mi_M), wo o (dQ L e m (ln L n P)) → wo (mi_b o fun v13 m14 => f_X7_readTown_J143 l7 v13 m14) (fun x => ∃ r, x = .inl (r.1, l7 + 1, r.2) ∧ dQ L e m (ln L n P) r) := by
    intro o ho
    rw [pw_b]
    refine pw_mono ho ?_
    intro r hr
    unfold f_X7_readTown_J143
    rw [pw_some]
    exact ⟨r, rfl, hr⟩
  rw [pc_am hd (by decide) (by decide), pe_bo, ix_1 _ (wX_le L n)]
  by_cases a0 : wX L n = 0
  · rw [if_pos a0, if_neg (by decide), if_pos rfl]
    apply fin
    have : ln L n P = if P.1 0 = 6 then ((n, 5 + 16 * plT L n), P) else lnP L n P := by unfold ln; rw [if_pos a0]
    rw [this]
    exact pc_readPerson hL hd h hP.1.1.1
  rw [if_neg a0]
  by_cases a2 : wX L n = 2
  · rw [if_pos a2, if_neg (by decide), if_neg (by decide), if_pos rfl]
    apply fin
    have : ln L n P = lnL L n P := by unfold ln; rw [if_neg a0, if_pos a2]
    rw [this]
    exact pc_readLane hL hd h hP
  rw [if_neg a2]
  by_cases a3 : wX L n = 3
  · rw [if_pos a3, if_neg (by decide), if_neg (by decide), if_neg (by decide), if_pos rfl]
    apply fin
    have : ln L n P = if P.1 2 = 8 then ((n, 5 + 16 * plT L n), P) else lnW L n P := by unfold ln; rw [if_neg a0, if_neg a2, if_pos a3]
    rw [this]
    exact pc_readWrong hL hd h hP
  rw [if_neg a3]
  by_cases a6 : wX L n = 6
  · rw [if_pos a6, if_neg (by decide), if_neg (by decide), if_neg (by decide), if_neg (by decide), if_pos rfl]
    apply fin
    have : ln L n P = if P.1 3 = 4 then ((n, 5 + 16 * plT L n), P) else lnK L n P := by unfold ln; rw [if_neg a0, if_neg a2, if_neg a3, if_pos a6]
    rw [this]
    exact pc_readWalk hL hd h hP
  rw [if_neg a6]
  by_cases a7 : 7 ≤ wX L n ∧ wX L n ≤ 11
  · have nn : ∀ z : Nat, z < 4 → ¬ n32 (wX L n - 3) = n32 z := fun z hz => by rw [n32_eq (by omega) (by omega)]; omega
    rw [if_pos a7, if_neg (by rw [n32_eqN (by omega)]; exact id), if_neg (show ¬ n32 (wX L n - 3) = 0 from nn 0 (by decide)), if_neg (show ¬ n32 (wX L n - 3) = 1 from nn 1 (by decide)), if_neg (show ¬ n32 (wX L n - 3) = 2 from nn 2 (by decide)), if_neg (show ¬ n32 (wX L n - 3) = 3 from nn 3 (by decide))]
    apply fin
    have : ln L n P = lnO L n (wX L n - 7) P := by unfold ln; rw [if_neg a0, if_neg a2, if_neg a3, if_neg a6, if_pos a7]
    rw [this, show n32 (wX L n - 3) - 4 = n32 (wX L n - 3 - 4) from n32_sub (b := 4) (by omega), show wX L n - 3 - 4 = wX L n - 7 by omega]
    have := hL.k hn (by rw [wk (by omega)]; decide)
    exact pc_readOnce hL (by omega) hd h hP (by omega)
  · rw [if_neg a7, if_pos rfl]
    apply fin
    have e1 : (ln L n P).1 = (n, 1 + 16 * plT L n) := by unfold ln; rw [if_neg a0, if_neg a2, if_neg a3, if_neg a6, if_neg a7]
    refine pw_mono (rd_fail (e := 1) hd (by decide)) ?_
    rintro ⟨v, m'⟩ ⟨-, x2, x3⟩
    obtain ⟨b1, b2⟩ := x2 (by decide)
    simp only at b1 b2 x3
    rw [b1]
    exact dq_bad e1 (by omega) b2 (x3.mo (fun k i p a => Or.inl a))
