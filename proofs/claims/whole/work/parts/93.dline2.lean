theorem hf_m1 : ∀ d, d < 6 → (n32 d = (-1 : Int32) ↔ d = 99) := fun d hd => by
  rw [n32_eqN (by omega)]
  exact ⟨False.elim, fun x => by omega⟩
theorem hf_a {a : Nat} (ha : a < 6) : ∀ d, d < 6 → (n32 d = n32 a ↔ d = a) := fun d hd => n32_eq (by omega) (by omega)
theorem pc_addLane {L : List Nat} {e n a b v : Nat} {m : mi_M} {P : PS} (h : dP m e L P n) (ha : a < 6) (hb : b < 6) : wo (f_X9_addLane e (n32 a) (n32 b) (n32 v) m) (fun m' => dP m' e L (upT (upT (upT P.1 (21 + 6 * a + b) v) (21 + 6 * b + a) v) 1 (P.1 1 + 1), P.2) n ∧ kp (fun k i p => i = e ∧ k = 9 ∧ p = 0 ∨ k = 76 ∧ 6 * e ≤ i ∧ i < 6 * e + 6) m m') := by
  obtain ⟨g1, ⟨⟨⟨c1, c2, c3, c4, c5, c6⟩, c7, c8, c9⟩, c10, c11, c12⟩, g5, g6⟩ := h
  unfold f_X9_addLane
  simp (disch := omega) only [pw_g, pw_let, pw_some, n32_in, n32_cl, Nat.add_zero]
  refine ⟨ha, hb, hb, ha, ?_⟩
  rw [rI_ne (by omega), rI_ne (by omega), c5, n32_al]
  have kk : kp (fun k i p => i = e ∧ k = 9 ∧ p = 0 ∨ k = 76 ∧ (i = 6 * e + a ∧ p = b ∨ i = 6 * e + b ∧ p = a)) m (mi_wI (mi_wI (mi_wI m 76 (6 * e + a) b (n32 v)) 76 (6 * e + b) a (n32 v)) 9 e 0 (n32 (P.1 1 + 1))) := ((kp.rf.wI (by omega)).wI (by omega)).wI (by omega)
  have w9 : (mi_wI (mi_wI (mi_wI m 76 (6 * e + a) b (n32 v)) 76 (6 * e + b) a (n32 v)) 9 e 0 (n32 (P.1 1 + 1))).1 9 e 0 = n32 (P.1 1 + 1) := rI_eq
  have w76 : ∀ i j, (i = a ∧ j = b ∨ i = b ∧ j = a) → (mi_wI (mi_wI (mi_wI m 76 (6 * e + a) b (n32 v)) 76 (6 * e + b) a (n32 v)) 9 e 0 (n32 (P.1 1 + 1))).1 76 (6 * e + i) j = n32 v := by
    intro i j hij
    rw [rI_ne (by omega)]
    by_cases z : i = b ∧ j = a
    · rw [z.1, z.2, rI_eq]
    · rw [rI_ne (by omega), show i = a by omega, show j = b by omega, rI_eq]
  generalize mi_wI (mi_wI (mi_wI m 76 (6 * e + a) b (n32 v)) 76 (6 * e + b) a (n32 v)) 9 e 0 (n32 (P.1 1 + 1)) = m' at kk w9 w76
  have z0 : ∀ x, x ≠ 1 → x ≠ 21 + 6 * a + b → x ≠ 21 + 6 * b + a → upT (upT (upT P.1 (21 + 6 * a + b) v) (21 + 6 * b + a) v) 1 (P.1 1 + 1) x = P.1 x := fun x x0 x1 x2 => by rw [up_n x0, up_n x2, up_n x1]
  have z1 : ∀ x, x = 21 + 6 * a + b ∨ x = 21 + 6 * b + a → upT (upT (upT P.1 (21 + 6 * a + b) v) (21 + 6 * b + a) v) 1 (P.1 1 + 1) x = v := fun x hx => by
    rw [up_n (by omega)]
    by_cases e : x = 21 + 6 * b + a
    · rw [e, up_e]
    · rw [up_n e, show x = 21 + 6 * a + b by omega, up_e]
  have z2 : upT (upT (upT P.1 (21 + 6 * a + b) v) (21 + 6 * b + a) v) 1 (P.1 1 + 1) 1 = P.1 1 + 1 := up_e
  refine ⟨?_, kk.mo (fun k i p a => by omega)⟩
  unfold dP dTw cTw kdA byA toA szA
  dsimp only
  generalize upT (upT (upT P.1 (21 + 6 * a + b) v) (21 + 6 * b + a) v) 1 (P.1 1 + 1) = T' at z0 z1 z2
  have t0 := z0 0 (by omega) (by omega) (by omega)
  refine ⟨?_, ⟨⟨⟨?_, ?_, fun z => ?_, ?_, ?_, ?_⟩, fun p hp => ?_, fun w hw => ?_, fun k hk => ?_⟩, ?_, fun i j hi hj => ?_, ?_⟩, g5.mv kk (fun k p a => by omega) (Nat.le_refl _), by rw [kk.2.1 9 e 6 (by omega)]; exact g6⟩
  · rw [t0]; exact g1.mv kk (by omega) (fun p => by omega)
  · rw [kk.1 8 e 0 (by omega), t0]; exact c1
  · rw [kk.1 8 e 1 (by omega), z0 2 (by omega) (by omega) (by omega)]; exact c2
  · rw [kk.1 8 e 2 (by omega), z0 4 (by omega) (by omega) (by omega)]; exact c10
  · rw [kk.1 8 e 3 (by omega), z0 5 (by omega) (by omega) (by omega)]; exact c4
  · rw [w9, z2]
  · rw [kk.1 9 e 1 (by omega), z0 3 (by omega) (by omega) (by omega)]; exact c6
  · rw [t0] at hp
    have := g1.1
    rw [kk.1 39 e p (by omega), kk.1 40 e p (by omega), z0 _ (by omega) (by omega) (by omega), z0 _ (by omega) (by omega) (by omega)]
    exact c7 p hp
  · rw [z0 2 (by omega) (by omega) (by omega)] at hw
    rw [kk.1 41 e w (by omega), kk.1 42 e w (by omega), kk.1 43 e w (by omega), z0 _ (by omega) (by omega) (by omega), z0 _ (by omega) (by omega) (by omega), z0 _ (by omega) (by omega) (by omega)]
    exact c8 w hw
  · rw [z0 3 (by omega) (by omega) (by omega)] at hk
    rw [kk.1 45 e k (by omega), kk.1 46 e k (by omega), z0 _ (by omega) (by omega) (by omega), z0 _ (by omega) (by omega) (by omega)]
    exact c9 k hk
  · rw [kk.1 8 e 2 (by omega), z0 4 (by omega) (by omega) (by omega)]; exact c10
  · by_cases z : i = a ∧ j = b ∨ i = b ∧ j = a
    · rw [w76 i j z, z1 _ (by omega)]
    · rw [kk.1 76 _ j (by omega), z0 _ (by omega) (by omega) (by omega)]; exact c11 i j hi hj
  · rw [kk.1 8 e 4 (by omega)]; exact c12
theorem pc_hasLane {L : List Nat} {e n a b : Nat} {m : mi_M} {P : PS} (h : dP m e L P n) (ha : a < 6) (hb : b < 6) (ht : P.1 (21 + 6 * a + b) < 100000) : f_X9_hasLane e (n32 a) (n32 b) m = some (if P.1 (21 + 6 * a + b) = 0 then 0 else 1) := by
  unfold f_X9_hasLane f_X9_hasLane_J16
  rw [pe_g ((n32_in (by omega)).mpr ha), pe_g ((n32_in (by omega)).mpr hb), n32_cl (by omega), n32_cl (by omega), Nat.add_zero, h.2.1.2.2.1 a b ha hb, pe_g (by decide), pe_g (by decide)]
  by_cases z : P.1 (21 + 6 * a + b) = 0
  · rw [if_pos z, if_pos (by rw [z]; rfl)]
  · rw [if_neg z, if_neg (by rw [show (0 : Int32) = n32 0 from rfl, n32_eq (by omega) (by omega)]; exact z)]
/-- a fault, told at once -/
theorem dq_fail {L : List Nat} {e x nn : Nat} {m m1 : mi_M} {y : (Nat × Nat) × PS} (d1 : dT m1 L nn) (hx : x ≠ 0) (k1 : kp (fun k i p => kLn e k i p) m m1) (hy : y.1 = (nn, x + 16 * plT L nn)) : wo (mi_b (f_X7_fail (n32 x) m1) fun v m' => mi_g (v = 0 ∨ v = 1) (some (v, m'))) (dQ L e m y) := by
  refine pw_mono (rd_01 (rd_fail d1 hx)) ?_
  rintro ⟨v, m'⟩ ⟨-, a2, a3⟩
  obtain ⟨b1, b2⟩ := a2 hx
  simp only at b1 b2 a3
  rw [b1]
  exact dq_bad hy (by omega) b2 (k1.tr (a3.mo (fun k i p a => Or.inl a)))
theorem pc_readLane {L : List Nat} {c e n : Nat} {m : mi_M} {P : PS} (hL : tkN L c) (hd : dT m L n) (h : dP m e L P n) (hP : pOK P) : wo (f_X7_readLane e m) (dQ L e m (lnL L n P)) := by
  have h60 := hP.1.1.1
  unfold f_X7_readLane
  rw [pw_bo]
  refine pw_mono (pc_adv hd hL.1) ?_
  rintro m1 ⟨d1, k1⟩
  have p1 := h.mv (k1.mo (fun k i p a => by omega) : kp (fun k i p => k67 k i p) m m1) (Nat.le_succ n)
  have k1' : kp (fun k i p => kLn e k i p) m m1 := k1.mo (fun k i p a => Or.inl (by omega))
  obtain ⟨r, e1, e2⟩ := pc_named (x := m1.2.1 6 0 4) p1.1
  rw [e1, pe_bo]
  have hx0 : (lnL L n P).1 = sx L (eS L 59) (sx L (eN L 1 31) (sx L (eQ L P.2.1 P.1 (P.1 0) (fdN L P.2.1 (P.1 0) (n + 1))) (sx L (eO L P.2.1 (P.1 0) 99) (n + 1, 0)))) := rfl
  refine rd_seq (pc_passDoor d1 hL.1 p1.1 hf_m1) (fun eb m2 b1 b2 => ?_) (fun eg m2 d2 k2 => ?_)
  · rw [sx_i eb, sx_i eb, sx_i eb, sx_n eb] at hx0
    rw [pw_g, pw_some]
    exact ⟨by decide, dq_bad hx0 (by omega) b1 (k1'.tr (b2.mo (fun k i p a => Or.inl a)))⟩
  · rw [sx_y eg] at hx0
    obtain ⟨g1, g2, g3, -⟩ := eO_k eg
    have e3 := e2 (n + 1) g1 (d1.w g1)
    rw [if_pos g3] at e3
    have p2 := p1.mv k2 (Nat.le_succ (n + 1))
    have k2' : kp (fun k i p => kLn e k i p) m m2 := k1'.tr (k2.mo (fun k i p a => Or.inl a))
    obtain ⟨r2, f1, f2⟩ := pc_named (x := m2.2.1 6 0 4) p2.1
    rw [f1, pe_bo, pc_isName d2, pe_bo, e3]
    have a6 : fdN L P.2.1 (P.1 0) (n + 1) < 6 := by omega
    have j72 : (eQ L P.2.1 P.1 (P.1 0) (fdN L P.2.1 (P.1 0) (n + 1)) (n + 2) = eO L P.2.1 (P.1 0) (fdN L P.2.1 (P.1 0) (n + 1)) (n + 2)) → wo (f_X7_readLane_J72 e (n32 (fdN L P.2.1 (P.1 0) (n + 1))) m2 r2) (dQ L e m (lnL L n P)) := by
      intro eq
      unfold f_X7_readLane_J72
      refine rd_seq (pc_passDoor d2 hL.1 p2.1 (hf_a a6)) (fun eb m3 b1 b2 => ?_) (fun eg2 m3 d3 k3' => ?_)
      · have en : eQ L P.2.1 P.1 (P.1 0) (fdN L P.2.1 (P.1 0) (n + 1)) (n + 2) ≠ 0 := by rw [eq]; exact eb
        rw [sx_i en, sx_i en, sx_n en, eq] at hx0
        rw [pw_g, pw_some]
        exact ⟨by decide, dq_bad hx0 (by omega) b1 (k2'.tr (b2.mo (fun k i p a => Or.inl a)))⟩
      · rw [sx_y (show eQ L P.2.1 P.1 (P.1 0) (fdN L P.2.1 (P.1 0) (n + 1)) (n + 2) = 0 by rw [eq]; exact eg2)] at hx0
        obtain ⟨i1, i2, i3, i4⟩ := eO_k eg2
        have i5 : fdN L P.2.1 (P.1 0) (n + 2) < P.1 0 := i3
        have f3 := f2 (n + 2) i1 (d2.w i1)
        rw [if_pos i3] at f3
        have p3 := p2.mv k3' (Nat.le_succ (n + 2))
        have k3'' : kp (fun k i p => kLn e k i p) m m3 := k2'.tr (k3'.mo (fun k i p a => Or.inl a))
        rw [pw_let]
        refine rd_seq (show wo (f_X7_passNumber 1 30 m3) _ from pc_passNumber (lo := 1) (hx := 31) d3 hL.1 (by decide) (by decide)) (fun eb m4 b1 b2 => ?_) (fun eg3 m4 d4 k4 => ?_)
        · rw [sx_i eb, sx_n eb] at hx0
          rw [pw_g, pw_some]
          exact ⟨by decide, dq_bad hx0 (by omega) b1 (k3''.tr (b2.mo (fun k i p a => Or.inl a)))⟩
        · rw [sx_y eg3] at hx0
          have p4 := p3.mv k4 (Nat.le_succ (n + 3))
          have k4' : kp (fun k i p => kLn e k i p) m m4 := k3''.tr (k4.mo (fun k i p a => Or.inl a))
          rw [pw_bo, d3.v (Or.inl (eN_0 eg3).1), f3]
          refine pw_mono (pc_addLane p4 a6 (by omega)) ?_
          rintro m5 ⟨p5, k5⟩
          exact rd_end hL.1 (d4.mv k5 (fun q => by omega) (by omega) (fun q => by omega)) hx0 p5 (k4'.tr (k5.mo (fun k i p a => by omega)))
    by_cases q : kD L (n + 2) = 2 ∧ 23 ≤ wX L (n + 2)
    · have f3 := f2 (n + 2) q.1 (d2.w q.1)
      rw [if_pos q, if_neg (by decide)]
      by_cases f : fdN L P.2.1 (P.1 0) (n + 2) < P.1 0
      · rw [if_pos f] at f3
        have o9 : eO L P.2.1 (P.1 0) 99 (n + 2) = 0 := by unfold eO; rw [if_pos q, if_pos f, if_neg (fnd99 h60)]
        have lt := (hP.1.2.2.2.2 (fdN L P.2.1 (P.1 0) (n + 1)) (fdN L P.2.1 (P.1 0) (n + 2)) (by omega) (by omega)).1
        rw [f3, if_neg (by rw [n32_eqN (by omega)]; exact id), pc_hasLane p2 a6 (by omega) (by omega), pe_bo]
        rw [f3] at j72
        by_cases z : P.1 (21 + 6 * fdN L P.2.1 (P.1 0) (n + 1) + fdN L P.2.1 (P.1 0) (n + 2)) = 0
        · rw [if_pos z, if_pos rfl]
          refine j72 ?_
          rw [eO_2 h60]
          unfold eQ
          rw [if_pos o9, if_pos o9]
          by_cases y : fdN L P.2.1 (P.1 0) (n + 2) = fdN L P.2.1 (P.1 0) (n + 1)
          · rw [if_pos (Or.inl y), if_pos y]
          · rw [if_neg (by omega), if_neg y]
        · have eq3 : eQ L P.2.1 P.1 (P.1 0) (fdN L P.2.1 (P.1 0) (n + 1)) (n + 2) = 3 := by
            unfold eQ
            rw [if_pos o9, if_pos (Or.inr (by omega))]
          rw [if_neg z, if_neg (by decide)]
          have en : eQ L P.2.1 P.1 (P.1 0) (fdN L P.2.1 (P.1 0) (n + 1)) (n + 2) ≠ 0 := by rw [eq3]; decide
          rw [sx_i en, sx_i en, sx_n en, eq3] at hx0
          exact dq_fail (x := 3) d2 (by decide) k2' hx0
      · rw [if_neg f] at f3
        rw [if_pos f3]
        refine j72 ?_
        have o9 : eO L P.2.1 (P.1 0) 99 (n + 2) = 2 := by unfold eO; rw [if_pos q, if_neg f]
        rw [eO_2 h60]
        unfold eQ
        rw [if_neg (by omega), if_neg (by omega)]
    · rw [if_neg q, if_pos rfl]
      refine j72 ?_
      have o9 : eO L P.2.1 (P.1 0) 99 (n + 2) = 1 := by unfold eO; rw [if_neg q]
      rw [eO_2 h60]
      unfold eQ
      rw [if_neg (by omega), if_neg (by omega)]
theorem pc_addWrong {L : List Nat} {e n a b v : Nat} {m : mi_M} {P : PS} (h : dP m e L P n) (h8 : P.1 2 < 8) : wo (f_X8_addWrong e (n32 a) (n32 b) (n32 v) m) (fun m' => dP m' e L (upT (upT (upT (upT P.1 (57 + 3 * P.1 2) a) (58 + 3 * P.1 2) b) (59 + 3 * P.1 2) v) 2 (P.1 2 + 1), P.2) n ∧ kp (fun k i p => i = e ∧ (k = 8 ∧ p = 1 ∨ k = 41 ∨ k = 42 ∨ k = 43)) m m') := by
  obtain ⟨g1, ⟨⟨⟨c1, c2, c3, c4, c5, c6⟩, c7, c8, c9⟩, c10, c11, c12⟩, g5, g6⟩ := h
  unfold f_X8_addWrong f_X8_addWrong_J49
  rw [c2, if_neg (by rw [n32_Lle (by omega) (by decide)]; show ¬ 8 ≤ P.1 2; omega), pw_g, n32_in (by omega), pw_let, n32_cl (by omega)]
  refine ⟨h8, ?_⟩
  rw [rI_ne (by omega), c2, pw_g, n32_in (by omega), pw_let, n32_cl (by omega)]
  refine ⟨h8, ?_⟩
  rw [rI_ne (by omega), rI_ne (by omega), c2, pw_g, n32_in (by omega), pw_let, n32_cl (by omega)]
  refine ⟨h8, ?_⟩
  rw [pw_let, pw_some, rI_ne (by omega), rI_ne (by omega), rI_ne (by omega), c2, n32_al]
  have kk : kp (fun k i p => i = e ∧ (k = 8 ∧ p = 1 ∨ (k = 41 ∨ k = 42 ∨ k = 43) ∧ p = P.1 2)) m (mi_wI (mi_wI (mi_wI (mi_wI m 41 e (P.1 2) (n32 a)) 42 e (P.1 2) (n32 b)) 43 e (P.1 2) (n32 v)) 8 e 1 (n32 (P.1 2 + 1))) := (((kp.rf.wI ⟨rfl, by omega⟩).wI ⟨rfl, by omega⟩).wI ⟨rfl, by omega⟩).wI ⟨rfl, by omega⟩
  have w8 : (mi_wI (mi_wI (mi_wI (mi_wI m 41 e (P.1 2) (n32 a)) 42 e (P.1 2) (n32 b)) 43 e (P.1 2) (n32 v)) 8 e 1 (n32 (P.1 2 + 1))).1 8 e 1 = n32 (P.1 2 + 1) := rI_eq
  have w43 : (mi_wI (mi_wI (mi_wI (mi_wI m 41 e (P.1 2) (n32 a)) 42 e (P.1 2) (n32 b)) 43 e (P.1 2) (n32 v)) 8 e 1 (n32 (P.1 2 + 1))).1 43 e (P.1 2) = n32 v := by rw [rI_ne (by omega), rI_eq]
  have w42 : (mi_wI (mi_wI (mi_wI (mi_wI m 41 e (P.1 2) (n32 a)) 42 e (P.1 2) (n32 b)) 43 e (P.1 2) (n32 v)) 8 e 1 (n32 (P.1 2 + 1))).1 42 e (P.1 2) = n32 b := by rw [rI_ne (by omega), rI_ne (by omega), rI_eq]
  have w41 : (mi_wI (mi_wI (mi_wI (mi_wI m 41 e (P.1 2) (n32 a)) 42 e (P.1 2) (n32 b)) 43 e (P.1 2) (n32 v)) 8 e 1 (n32 (P.1 2 + 1))).1 41 e (P.1 2) = n32 a := by rw [rI_ne (by omega), rI_ne (by omega), rI_ne (by omega), rI_eq]
  generalize mi_wI (mi_wI (mi_wI (mi_wI m 41 e (P.1 2) (n32 a)) 42 e (P.1 2) (n32 b)) 43 e (P.1 2) (n32 v)) 8 e 1 (n32 (P.1 2 + 1)) = m' at kk w8 w43 w42 w41
  have z0 : ∀ x, x ≠ 2 → x ≠ 57 + 3 * P.1 2 → x ≠ 58 + 3 * P.1 2 → x ≠ 59 + 3 * P.1 2 → upT (upT (upT (upT P.1 (57 + 3 * P.1 2) a) (58 + 3 * P.1 2) b) (59 + 3 * P.1 2) v) 2 (P.1 2 + 1) x = P.1 x := fun x x0 x1 x2 x3 => by rw [up_n x0, up_n x3, up_n x2, up_n x1]
  have z1 : upT (upT (upT (upT P.1 (57 + 3 * P.1 2) a) (58 + 3 * P.1 2) b) (59 + 3 * P.1 2) v) 2 (P.1 2 + 1) 2 = P.1 2 + 1 := up_e
  have z2 : upT (upT (upT (upT P.1 (57 + 3 * P.1 2) a) (58 + 3 * P.1 2) b) (59 + 3 * P.1 2) v) 2 (P.1 2 + 1) (57 + 3 * P.1 2) = a := by rw [up_n (by omega), up_n (by omega), up_n (by omega), up_e]
  have z3 : upT (upT (upT (upT P.1 (57 + 3 * P.1 2) a) (58 + 3 * P.1 2) b) (59 + 3 * P.1 2) v) 2 (P.1 2 + 1) (58 + 3 * P.1 2) = b := by rw [up_n (by omega), up_n (by omega), up_e]
  have z4 : upT (upT (upT (upT P.1 (57 + 3 * P.1 2) a) (58 + 3 * P.1 2) b) (59 + 3 * P.1 2) v) 2 (P.1 2 + 1) (59 + 3 * P.1 2) = v := by rw [up_n (by omega), up_e]
  refine ⟨?_, kk.mo (fun k i p a => by omega)⟩
  unfold dP dTw cTw kdA byA toA szA
  dsimp only
  generalize upT (upT (upT (upT P.1 (57 + 3 * P.1 2) a) (58 + 3 * P.1 2) b) (59 + 3 * P.1 2) v) 2 (P.1 2 + 1) = T' at z0 z1 z2 z3 z4
  have t0 := z0 0 (by omega) (by omega) (by omega) (by omega)
  have g11 := g1.1
  refine ⟨?_, ⟨⟨⟨?_, ?_, fun z => ?_, ?_, ?_, ?_⟩, fun p hp => ?_, fun w hw => ?_, fun k hk => ?_⟩, ?_, fun i j hi hj => ?_, ?_⟩, g5.mv kk (fun k p a => by omega) (Nat.le_refl _), by rw [kk.2.1 9 e 6 (by omega)]; exact g6⟩
  · rw [t0]; exact g1.mv kk (by omega) (fun p => by omega)
  · rw [kk.1 8 e 0 (by omega), t0]; exact c1
  · rw [w8, z1]
  · rw [kk.1 8 e 2 (by omega), z0 4 (by omega) (by omega) (by omega) (by omega)]; exact c10
  · rw [kk.1 8 e 3 (by omega), z0 5 (by omega) (by omega) (by omega) (by omega)]; exact c4
  · rw [kk.1 9 e 0 (by omega), z0 1 (by omega) (by omega) (by omega) (by omega)]; exact c5
  · rw [kk.1 9 e 1 (by omega), z0 3 (by omega) (by omega) (by omega) (by omega)]; exact c6
  · rw [t0] at hp
    rw [kk.1 39 e p (by omega), kk.1 40 e p (by omega), z0 _ (by omega) (by omega) (by omega) (by omega), z0 _ (by omega) (by omega) (by omega) (by omega)]
    exact c7 p hp
  · rw [z1] at hw
    by_cases z : w = P.1 2
    · subst z
      rw [w41, w42, w43, z2, z3, z4]
      exact ⟨rfl, rfl, rfl⟩
    · rw [kk.1 41 e w (by omega), kk.1 42 e w (by omega), kk.1 43 e w (by omega), z0 _ (by omega) (by omega) (by omega) (by omega), z0 _ (by omega) (by omega) (by omega) (by omega), z0 _ (by omega) (by omega) (by omega) (by omega)]
      exact c8 w (by omega)
  · rw [z0 3 (by omega) (by omega) (by omega) (by omega)] at hk
    rw [kk.1 45 e k (by omega), kk.1 46 e k (by omega), z0 _ (by omega) (by omega) (by omega) (by omega), z0 _ (by omega) (by omega) (by omega) (by omega)]
    exact c9 k hk
  · rw [kk.1 8 e 2 (by omega), z0 4 (by omega) (by omega) (by omega) (by omega)]; exact c10
  · rw [kk.1 76 _ j (by omega), z0 _ (by omega) (by omega) (by omega) (by omega)]; exact c11 i j hi hj
  · rw [kk.1 8 e 4 (by omega)]; exact c12
theorem pc_addWalk {L : List Nat} {e n a b : Nat} {m : mi_M} {P : PS} (h : dP m e L P n) (h2 : P.1 2 ≤ 8) (h8 : P.1 3 < 4) : wo (f_X9_addWalk e (n32 a) (n32 b) m) (fun m' => dP m' e L (upT (upT (upT P.1 (81 + 2 * P.1 3) a) (82 + 2 * P.1 3) b) 3 (P.1 3 + 1), P.2) n ∧ kp (fun k i p => i = e ∧ (k = 9 ∧ p = 1 ∨ k = 45 ∨ k = 46)) m m') := by
  obtain ⟨g1, ⟨⟨⟨c1, c2, c3, c4, c5, c6⟩, c7, c8, c9⟩, c10, c11, c12⟩, g5, g6⟩ := h
  unfold f_X9_addWalk f_X9_addWalk_J38
  rw [c6, if_neg (by rw [n32_Lle (by omega) (by decide)]; show ¬ 4 ≤ P.1 3; omega), pw_g, n32_in (by omega), pw_let, n32_cl (by omega)]
  refine ⟨h8, ?_⟩
  rw [rI_ne (by omega), c6, pw_g, n32_in (by omega), pw_let, n32_cl (by omega)]
  refine ⟨h8, ?_⟩
  rw [pw_let, pw_some, rI_ne (by omega), rI_ne (by omega), c6, n32_al]
  have kk : kp (fun k i p => i = e ∧ (k = 9 ∧ p = 1 ∨ (k = 45 ∨ k = 46) ∧ p = P.1 3)) m (mi_wI (mi_wI (mi_wI m 45 e (P.1 3) (n32 a)) 46 e (P.1 3) (n32 b)) 9 e 1 (n32 (P.1 3 + 1))) := ((kp.rf.wI ⟨rfl, by omega⟩).wI ⟨rfl, by omega⟩).wI ⟨rfl, by omega⟩
  have w8 : (mi_wI (mi_wI (mi_wI m 45 e (P.1 3) (n32 a)) 46 e (P.1 3) (n32 b)) 9 e 1 (n32 (P.1 3 + 1))).1 9 e 1 = n32 (P.1 3 + 1) := rI_eq
  have w46 : (mi_wI (mi_wI (mi_wI m 45 e (P.1 3) (n32 a)) 46 e (P.1 3) (n32 b)) 9 e 1 (n32 (P.1 3 + 1))).1 46 e (P.1 3) = n32 b := by rw [rI_ne (by omega), rI_eq]
  have w45 : (mi_wI (mi_wI (mi_wI m 45 e (P.1 3) (n32 a)) 46 e (P.1 3) (n32 b)) 9 e 1 (n32 (P.1 3 + 1))).1 45 e (P.1 3) = n32 a := by rw [rI_ne (by omega), rI_ne (by omega), rI_eq]
  generalize mi_wI (mi_wI (mi_wI m 45 e (P.1 3) (n32 a)) 46 e (P.1 3) (n32 b)) 9 e 1 (n32 (P.1 3 + 1)) = m' at kk w8 w46 w45
  have z0 : ∀ x, x ≠ 3 → x ≠ 81 + 2 * P.1 3 → x ≠ 82 + 2 * P.1 3 → upT (upT (upT P.1 (81 + 2 * P.1 3) a) (82 + 2 * P.1 3) b) 3 (P.1 3 + 1) x = P.1 x := fun x x0 x1 x2 => by rw [up_n x0, up_n x2, up_n x1]
  have z1 : upT (upT (upT P.1 (81 + 2 * P.1 3) a) (82 + 2 * P.1 3) b) 3 (P.1 3 + 1) 3 = P.1 3 + 1 := up_e
  have z2 : upT (upT (upT P.1 (81 + 2 * P.1 3) a) (82 + 2 * P.1 3) b) 3 (P.1 3 + 1) (81 + 2 * P.1 3) = a := by rw [up_n (by omega), up_n (by omega), up_e]
  have z3 : upT (upT (upT P.1 (81 + 2 * P.1 3) a) (82 + 2 * P.1 3) b) 3 (P.1 3 + 1) (82 + 2 * P.1 3) = b := by rw [up_n (by omega), up_e]
  refine ⟨?_, kk.mo (fun k i p a => by omega)⟩
  unfold dP dTw cTw kdA byA toA szA
  dsimp only
  generalize upT (upT (upT P.1 (81 + 2 * P.1 3) a) (82 + 2 * P.1 3) b) 3 (P.1 3 + 1) = T' at z0 z1 z2 z3
  have t0 := z0 0 (by omega) (by omega) (by omega)
  have g11 := g1.1
  refine ⟨?_, ⟨⟨⟨?_, ?_, fun z => ?_, ?_, ?_, ?_⟩, fun p hp => ?_, fun w hw => ?_, fun k hk => ?_⟩, ?_, fun i j hi hj => ?_, ?_⟩, g5.mv kk (fun k p a => by omega) (Nat.le_refl _), by rw [kk.2.1 9 e 6 (by omega)]; exact g6⟩
  · rw [t0]; exact g1.mv kk (by omega) (fun p => by omega)
  · rw [kk.1 8 e 0 (by omega), t0]; exact c1
  · rw [kk.1 8 e 1 (by omega), z0 2 (by omega) (by omega) (by omega)]; exact c2
  · rw [kk.1 8 e 2 (by omega), z0 4 (by omega) (by omega) (by omega)]; exact c10
  · rw [kk.1 8 e 3 (by omega), z0 5 (by omega) (by omega) (by omega)]; exact c4
  · rw [kk.1 9 e 0 (by omega), z0 1 (by omega) (by omega) (by omega)]; exact c5
  · rw [w8, z1]
  · rw [t0] at hp
    rw [kk.1 39 e p (by omega), kk.1 40 e p (by omega), z0 _ (by omega) (by omega) (by omega), z0 _ (by omega) (by omega) (by omega)]
    exact c7 p hp
  · rw [z0 2 (by omega) (by omega) (by omega)] at hw
    rw [kk.1 41 e w (by omega), kk.1 42 e w (by omega), kk.1 43 e w (by omega), z0 _ (by omega) (by omega) (by omega), z0 _ (by omega) (by omega) (by omega), z0 _ (by omega) (by omega) (by omega)]
    exact c8 w hw
  · rw [z1] at hk
    by_cases z : k = P.1 3
    · subst z
      rw [w45, w46, z2, z3]
      exact ⟨rfl, rfl⟩
    · rw [kk.1 45 e k (by omega), kk.1 46 e k (by omega), z0 _ (by omega) (by omega) (by omega), z0 _ (by omega) (by omega) (by omega)]
      exact c9 k (by omega)
  · rw [kk.1 8 e 2 (by omega), z0 4 (by omega) (by omega) (by omega)]; exact c10
  · rw [kk.1 76 _ j (by omega), z0 _ (by omega) (by omega) (by omega)]; exact c11 i j hi hj
  · rw [kk.1 8 e 4 (by omega)]; exact c12
theorem pc_readWrong {L : List Nat} {c e n : Nat} {m : mi_M} {P : PS} (hL : tkN L c) (hd : dT m L n) (h : dP m e L P n) (hP : pOK P) : wo (f_X7_readWrong e m) (dQ L e m (if P.1 2 = 8 then ((n, 5 + 16 * plT L n), P) else lnW L n P)) := by
  have h60 := hP.1.1.1
  have h82 := hP.1.1.2.1
  unfold f_X7_readWrong
  rw [h.2.1.1.1.2.1]
  by_cases h8 : P.1 2 = 8
  · rw [if_pos h8, if_neg (by rw [h8]; decide)]
    exact dq_fail (x := 5) hd (by decide) kp.rf rfl
  rw [if_neg h8, if_pos (by rw [n32_ltL (by omega) (by decide)]; show P.1 2 < 8; omega), pw_bo]
  refine pw_mono (pc_adv hd hL.1) ?_
  rintro m1 ⟨d1, k1⟩
  have p1 := h.mv (k1.mo (fun k i p a => by omega) : kp (fun k i p => k67 k i p) m m1) (Nat.le_succ n)
  have k1' : kp (fun k i p => kLn e k i p) m m1 := k1.mo (fun k i p a => Or.inl (by omega))
  obtain ⟨r, e1, e2⟩ := pc_named (x := m1.2.1 6 0 4) p1.1
  rw [e1, pe_bo]
  have hx0 : (lnW L n P).1 = sx L (eS L 59) (sx L (eN L 1 10) (sx L (eW L 5) (sx L (eO L P.2.1 (P.1 0) (fdN L P.2.1 (P.1 0) (n + 1))) (sx L (eW L 4) (sx L (eO L P.2.1 (P.1 0) 99) (n + 1, 0)))))) := rfl
  unfold f_X7_readWrong_J52 f_X7_readWrong_J84
  refine rd_seq (pc_passDoor d1 hL.1 p1.1 hf_m1) (fun eb m2 b1 b2 => ?_) (fun eg m2 d2 k2 => ?_)
  · rw [sx_i eb, sx_i eb, sx_i eb, sx_i eb, sx_i eb, sx_n eb] at hx0
    rw [pw_g, pw_some]
    exact ⟨by decide, dq_bad hx0 (by omega) b1 (k1'.tr (b2.mo (fun k i p a => Or.inl a)))⟩
  · rw [sx_y eg] at hx0
    obtain ⟨g1, g2, g3, -⟩ := eO_k eg
    have e3 := e2 (n + 1) g1 (d1.w g1)
    rw [if_pos g3] at e3
    have a6 : fdN L P.2.1 (P.1 0) (n + 1) < 6 := by omega
    have p2 := p1.mv k2 (Nat.le_succ (n + 1))
    have k2' : kp (fun k i p => kLn e k i p) m m2 := k1'.tr (k2.mo (fun k i p a => Or.inl a))
    refine rd_seq (pc_pass (a := 7) (w := 4) d2 hL.1 (by decide) (by decide) rfl) (fun eb m3 b1 b2 => ?_) (fun eg2 m3 d3 k3' => ?_)
    · rw [sx_i eb, sx_i eb, sx_i eb, sx_i eb, sx_n eb] at hx0
      rw [pw_g, pw_some]
      exact ⟨by decide, dq_bad hx0 (by omega) b1 (k2'.tr (b2.mo (fun k i p a => Or.inl a)))⟩
    · rw [sx_y eg2] at hx0
      have p3 := p2.mv k3' (Nat.le_succ (n + 2))
      have k3'' : kp (fun k i p => kLn e k i p) m m3 := k2'.tr (k3'.mo (fun k i p a => Or.inl a))
      obtain ⟨r2, f1, f2⟩ := pc_named (x := m3.2.1 6 0 4) p3.1
      rw [f1, pe_bo, e3]
      refine rd_seq (pc_passDoor d3 hL.1 p3.1 (hf_a a6)) (fun eb m4 b1 b2 => ?_) (fun eg3 m4 d4 k4 => ?_)
      · rw [sx_i eb, sx_i eb, sx_i eb, sx_n eb] at hx0
        rw [pw_g, pw_some]
        exact ⟨by decide, dq_bad hx0 (by omega) b1 (k3''.tr (b2.mo (fun k i p a => Or.inl a)))⟩
      · rw [sx_y eg3] at hx0
        obtain ⟨i1, i2, i3, i4⟩ := eO_k eg3
        have f3 := f2 (n + 3) i1 (d3.w i1)
        rw [if_pos i3] at f3
        have p4 := p3.mv k4 (Nat.le_succ (n + 3))
        have k4' : kp (fun k i p => kLn e k i p) m m4 := k3''.tr (k4.mo (fun k i p a => Or.inl a))
        refine rd_seq (pc_pass (a := 8) (w := 5) d4 hL.1 (by decide) (by decide) rfl) (fun eb m5 b1 b2 => ?_) (fun eg4 m5 d5 k5 => ?_)
        · rw [sx_i eb, sx_i eb, sx_n eb] at hx0
          rw [pw_g, pw_some]
          exact ⟨by decide, dq_bad hx0 (by omega) b1 (k4'.tr (b2.mo (fun k i p a => Or.inl a)))⟩
        · rw [sx_y eg4] at hx0
          have p5 := p4.mv k5 (Nat.le_succ (n + 4))
          have k5' : kp (fun k i p => kLn e k i p) m m5 := k4'.tr (k5.mo (fun k i p a => Or.inl a))
          rw [pw_let]
          refine rd_seq (show wo (f_X7_passNumber 1 9 m5) _ from pc_passNumber (lo := 1) (hx := 10) d5 hL.1 (by decide) (by decide)) (fun eb m6 b1 b2 => ?_) (fun eg5 m6 d6 k6' => ?_)
          · rw [sx_i eb, sx_n eb] at hx0
            rw [pw_g, pw_some]
            exact ⟨by decide, dq_bad hx0 (by omega) b1 (k5'.tr (b2.mo (fun k i p a => Or.inl a)))⟩
          · rw [sx_y eg5] at hx0
            have p6 := p5.mv k6' (Nat.le_succ (n + 5))
            have k6'' : kp (fun k i p => kLn e k i p) m m6 := k5'.tr (k6'.mo (fun k i p a => Or.inl a))
            rw [pw_bo, d5.v (Or.inl (eN_0 eg5).1), f3]
            refine pw_mono (pc_addWrong p6 (by omega)) ?_
            rintro m7 ⟨p7, k7⟩
            exact rd_end hL.1 (d6.mv k7 (fun q => by omega) (by omega) (fun q => by omega)) hx0 p7 (k6''.tr (k7.mo (fun k i p a => by omega)))
theorem pc_readWalk {L : List Nat} {c e n : Nat} {m : mi_M} {P : PS} (hL : tkN L c) (hd : dT m L n) (h : dP m e L P n) (hP : pOK P) : wo (f_X7_readWalk e m) (dQ L e m (if P.1 3 = 4 then ((n, 5 + 16 * plT L n), P) else lnK L n P)) := by
  have h60 := hP.1.1.1
  have h82 := hP.1.1.2.1
  have h43 := hP.1.1.2.2.1
  unfold f_X7_readWalk
  rw [h.2.1.1.1.2.2.2.2.2]
  by_cases h8 : P.1 3 = 4
  · rw [if_pos h8, if_neg (by rw [h8]; decide)]
    exact dq_fail (x := 5) hd (by decide) kp.rf rfl
  rw [if_neg h8, if_pos (by rw [n32_ltL (by omega) (by decide)]; show P.1 3 < 4; omega), pw_bo]
  refine pw_mono (pc_adv hd hL.1) ?_
  rintro m1 ⟨d1, k1⟩
  have p1 := h.mv (k1.mo (fun k i p a => by omega) : kp (fun k i p => k67 k i p) m m1) (Nat.le_succ n)
  have k1' : kp (fun k i p => kLn e k i p) m m1 := k1.mo (fun k i p a => Or.inl (by omega))
  obtain ⟨r, e1, e2⟩ := pc_named (x := m1.2.1 6 0 4) p1.1
  rw [e1, pe_bo]
  have hx0 : (lnK L n P).1 = sx L (eS L 59) (sx L (eO L P.2.1 (P.1 0) (fdN L P.2.1 (P.1 0) (n + 1))) (sx L (eW L 4) (sx L (eO L P.2.1 (P.1 0) 99) (n + 1, 0)))) := rfl
  unfold f_X7_readWalk_J54
  refine rd_seq (pc_passDoor d1 hL.1 p1.1 hf_m1) (fun eb m2 b1 b2 => ?_) (fun eg m2 d2 k2 => ?_)
  · rw [sx_i eb, sx_i eb, sx_i eb, sx_n eb] at hx0
    rw [pw_g, pw_some]
    exact ⟨by decide, dq_bad hx0 (by omega) b1 (k1'.tr (b2.mo (fun k i p a => Or.inl a)))⟩
  · rw [sx_y eg] at hx0
    obtain ⟨g1, g2, g3, -⟩ := eO_k eg
    have e3 := e2 (n + 1) g1 (d1.w g1)
    rw [if_pos g3] at e3
    have a6 : fdN L P.2.1 (P.1 0) (n + 1) < 6 := by omega
    have p2 := p1.mv k2 (Nat.le_succ (n + 1))
    have k2' : kp (fun k i p => kLn e k i p) m m2 := k1'.tr (k2.mo (fun k i p a => Or.inl a))
    refine rd_seq (pc_pass (a := 7) (w := 4) d2 hL.1 (by decide) (by decide) rfl) (fun eb m3 b1 b2 => ?_) (fun eg2 m3 d3 k3' => ?_)
    · rw [sx_i eb, sx_i eb, sx_n eb] at hx0
      rw [pw_g, pw_some]
      exact ⟨by decide, dq_bad hx0 (by omega) b1 (k2'.tr (b2.mo (fun k i p a => Or.inl a)))⟩
    · rw [sx_y eg2] at hx0
      have p3 := p2.mv k3' (Nat.le_succ (n + 2))
      have k3'' : kp (fun k i p => kLn e k i p) m m3 := k2'.tr (k3'.mo (fun k i p a => Or.inl a))
      obtain ⟨r2, f1, f2⟩ := pc_named (x := m3.2.1 6 0 4) p3.1
      rw [f1, pe_bo, e3]
      refine rd_seq (pc_passDoor d3 hL.1 p3.1 (hf_a a6)) (fun eb m4 b1 b2 => ?_) (fun eg3 m4 d4 k4 => ?_)
      · rw [sx_i eb, sx_n eb] at hx0
        rw [pw_g, pw_some]
        exact ⟨by decide, dq_bad hx0 (by omega) b1 (k3''.tr (b2.mo (fun k i p a => Or.inl a)))⟩
      · rw [sx_y eg3] at hx0
        obtain ⟨i1, i2, i3, i4⟩ := eO_k eg3
        have f3 := f2 (n + 3) i1 (d3.w i1)
        rw [if_pos i3] at f3
        have p4 := p3.mv k4 (Nat.le_succ (n + 3))
        have k4' : kp (fun k i p => kLn e k i p) m m4 := k3''.tr (k4.mo (fun k i p a => Or.inl a))
        rw [pw_bo, f3]
        refine pw_mono (pc_addWalk p4 (by omega) (by omega)) ?_
        rintro m5 ⟨p5, k5⟩
        exact rd_end hL.1 (d4.mv k5 (fun q => by omega) (by omega) (fun q => by omega)) hx0 p5 (k4'.tr (k5.mo (fun k i p a => by omega)))
