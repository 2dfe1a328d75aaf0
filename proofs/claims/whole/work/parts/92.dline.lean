/-! ===== the developers' lines ===== -/
theorem sx_i {L : List Nat} {e e' : Nat → Nat} {n : Nat} (h : e n ≠ 0) : sx L e' (sx L e (n, 0)) = sx L e (n, 0) := by
  rw [sx_n h]
  exact sx_f (by omega)
abbrev kLn (e k i p : Nat) : Prop := k67 k i p ∨ (k = 8 ∨ k = 9 ∨ k = 39 ∨ k = 40 ∨ k = 41 ∨ k = 42 ∨ k = 43 ∨ k = 45 ∨ k = 46 ∨ k = 16 ∨ k = 17 ∨ k = 18 ∨ k = 1 ∨ k = 138) ∧ i = e ∨ k = 76 ∧ 6 * e ≤ i ∧ i < 6 * e + 6
/-- the laws, as the developers hold them while they read -/
def dLw (m : mi_M) (e n : Nat) (cd : Nat → List Int32) : Prop := ∃ u, m.1 1 e 4 = n32 u ∧ u ≤ n + 3 ∧ ∀ l, l < 3 → ∃ f, m.1 17 e l = n32 f ∧ m.1 18 e l = n32 (f + (cd l).length) ∧ f + (cd l).length ≤ u ∧ ∀ k (h : k < (cd l).length), m.1 16 e (f + k) = (cd l)[k]
theorem dLw.mv {m m' : mi_M} {e n n' : Nat} {cd : Nat → List Int32} {Pr : Nat → Nat → Nat → Prop} (h : dLw m e n cd) (hk : kp Pr m m') (hp : ∀ k p, Pr k e p → k ≠ 1 ∧ k ≠ 16 ∧ k ≠ 17 ∧ k ≠ 18) (hn : n ≤ n') : dLw m' e n' cd := by
  obtain ⟨u, h1, h2, h3⟩ := h
  refine ⟨u, by rw [hk.1 1 e 4 (fun x => (hp _ _ x).1 rfl)]; exact h1, by omega, fun l hl => ?_⟩
  obtain ⟨f, a1, a2, a3, a4⟩ := h3 l hl
  refine ⟨f, by rw [hk.1 17 e l (fun x => (hp _ _ x).2.2.1 rfl)]; exact a1, by rw [hk.1 18 e l (fun x => (hp _ _ x).2.2.2 rfl)]; exact a2, a3, fun k hh => ?_⟩
  rw [hk.1 16 e (f + k) (fun x => (hp _ _ x).2.1 rfl)]
  exact a4 k hh
def dTw (m : mi_M) (e : Nat) (T : Nat → Nat) (on : Nat → Bool) : Prop := cTw m e T ∧ m.1 8 e 2 = n32 (T 4) ∧ (∀ i j, i < 6 → j < 6 → m.1 76 (6 * e + i) j = n32 (T (21 + 6 * i + j))) ∧ m.1 8 e 4 = n32 (bs on 5)
theorem dTw.mv {m m' : mi_M} {e : Nat} {T : Nat → Nat} {on : Nat → Bool} {Pr : Nat → Nat → Nat → Prop} (h : dTw m e T on) (hk : kp Pr m m') (hp : ∀ k i p, Pr k i p → (k = 8 ∨ k = 9 ∨ k = 39 ∨ k = 40 ∨ k = 41 ∨ k = 42 ∨ k = 43 ∨ k = 45 ∨ k = 46) ∧ i = e ∨ k = 76 ∧ 6 * e ≤ i ∧ i < 6 * e + 6 → False) : dTw m' e T on := by
  obtain ⟨h1, h2, h3, h4⟩ := h
  refine ⟨h1.mv hk (fun k i p a b d => hp k i p a (Or.inl ⟨b, d⟩)), ?_, fun i j hi hj => ?_, ?_⟩
  · rw [hk.1 8 e 2 (fun x => hp _ _ _ x (by omega))]; exact h2
  · rw [hk.1 76 _ j (fun x => hp _ _ _ x (by omega))]; exact h3 i j hi hj
  · rw [hk.1 8 e 4 (fun x => hp _ _ _ x (by omega))]; exact h4
def dP (m : mi_M) (e : Nat) (L : List Nat) (P : PS) (n : Nat) : Prop := namC m e L P.2.1 (P.1 0) ∧ dTw m e P.1 P.2.2.1 ∧ dLw m e n P.2.2.2 ∧ m.2.1 9 e 6 = 0
theorem namC.mv {m m' : mi_M} {e : Nat} {L : List Nat} {nm : Nat → Nat} {k : Nat} {Pr : Nat → Nat → Nat → Prop} (h : namC m e L nm k) (hk : kp Pr m m') (h1 : ¬ Pr 8 e 0) (h2 : ∀ p, ¬ Pr 138 e p) : namC m' e L nm k :=
  ⟨h.1, by rw [hk.1 8 e 0 h1]; exact h.2.1, fun j hj => by rw [hk.2.1 38 e j (h2 j)]; exact h.2.2 j hj⟩
theorem dP.mv {m m' : mi_M} {e n n' : Nat} {L : List Nat} {P : PS} (h : dP m e L P n) (hk : kp (fun k i p => k67 k i p) m m') (hn : n ≤ n') : dP m' e L P n' :=
  ⟨h.1.mv hk (by omega) (fun p => by omega), h.2.1.mv hk (fun k i p a b => by omega), h.2.2.1.mv hk (fun k p a => by omega) hn, by rw [hk.2.1 9 e 6 (by omega)]; exact h.2.2.2⟩
/-- what a line leaves -/
def dQ (L : List Nat) (e : Nat) (m : mi_M) (x : (Nat × Nat) × PS) (r : Int32 × mi_M) : Prop := (x.1.2 = 0 → r.1 = 1 ∧ dT r.2 L x.1.1 ∧ dP r.2 e L x.2 x.1.1) ∧ (x.1.2 ≠ 0 → r.1 = 0 ∧ r.2.1 7 0 1 = n32 x.1.2) ∧ kp (fun k i p => kLn e k i p) m r.2
theorem dq_bad {L : List Nat} {e nf v : Nat} {m m' : mi_M} {x : (Nat × Nat) × PS} (hx : x.1 = (nf, v)) (hv : v ≠ 0) (h1 : m'.1 7 0 1 = n32 v) (hk : kp (fun k i p => kLn e k i p) m m') : dQ L e m x (0, m') := by
  refine ⟨fun h => ?_, fun _ => ⟨rfl, ?_⟩, hk⟩
  · rw [hx] at h
    exact absurd h hv
  · rw [hx]
    exact h1
theorem rd_seq {β : Type} {L : List Nat} {n e : Nat} {m : mi_M} {o : Option (Int32 × mi_M)} {kb kg : mi_M → Option β} {Q : β → Prop} (h : wo o (rD L n m e)) (hb : e ≠ 0 → ∀ m', m'.1 7 0 1 = n32 (e + 16 * plT L n) → kp (fun k i p => k67 k i p) m m' → wo (kb m') Q) (hg : e = 0 → ∀ m', dT m' L (n + 1) → kp (fun k i p => k67 k i p) m m' → wo (kg m') Q) : wo (mi_b o fun v m' => if v = 0 then kb m' else kg m') Q := by
  rw [pw_b]
  refine pw_mono h ?_
  rintro ⟨v, m'⟩ ⟨a1, a2, a3⟩
  simp only at a1 a2 a3
  dsimp only
  by_cases e0 : e = 0
  · obtain ⟨b1, b2⟩ := a1 e0
    rw [b1, if_neg (by decide)]
    exact hg e0 m' b2 a3
  · obtain ⟨b1, b2⟩ := a2 e0
    rw [b1, if_pos rfl]
    exact hb e0 m' b2 a3
/-- the last sign of a line -/
theorem rd_end {L : List Nat} {e n : Nat} {m m0 : mi_M} {x : (Nat × Nat) × PS} (hL : okL L) (h : dT m L n) (hx : x.1 = sx L (eS L 59) (n, 0)) (hp : dP m e L x.2 n) (hk : kp (fun k i p => kLn e k i p) m0 m) : wo (mi_b (f_X7_passSign (59 : Int32) m) fun v m' => mi_g (v = 0 ∨ v = 1) (some (v, m'))) (dQ L e m0 x) := by
  refine pw_mono (rd_01 (show wo (f_X7_passSign 59 m) _ from pc_passSign (c := 59) h hL (by decide))) ?_
  rintro ⟨v, m'⟩ ⟨a1, a2, a3⟩
  simp only at a1 a2 a3
  have kk : kp (fun k i p => kLn e k i p) m0 m' := hk.tr (a3.mo (fun k i p a => Or.inl a))
  by_cases e0 : eS L 59 n = 0
  · obtain ⟨b1, b2⟩ := a1 e0
    rw [sx_y e0] at hx
    refine ⟨fun _ => ⟨b1, ?_, ?_⟩, fun z => ?_, kk⟩
    · rw [hx]; exact b2
    · rw [hx]; exact hp.mv a3 (by show n ≤ n + 1; omega)
    · rw [hx] at z; exact absurd rfl z
  · obtain ⟨b1, b2⟩ := a2 e0
    rw [sx_n e0] at hx
    rw [b1]
    exact dq_bad hx (by omega) b2 kk
theorem pc_addPerson {L : List Nat} {e n t kd co : Nat} {m : mi_M} {P : PS} (h : dP m e L P n) (h6 : P.1 0 < 6) (ht : kD L t = 2) : wo (f_X8_addPerson e (n64 (nC L t)) (n32 kd) (n32 co) m) (fun m' => dP m' e L (upT (upT (upT P.1 (9 + 2 * P.1 0) kd) (10 + 2 * P.1 0) co) 0 (P.1 0 + 1), upT P.2.1 (P.1 0) t, P.2.2) n ∧ kp (fun k i p => i = e ∧ (k = 8 ∧ p = 0 ∨ k = 39 ∨ k = 40 ∨ k = 138)) m m') := by
  obtain ⟨⟨g1, g2, g3⟩, ⟨⟨⟨c1, c2, c3, c4, c5, c6⟩, c7, c8, c9⟩, c10, c11, c12⟩, g5, g6⟩ := h
  unfold f_X8_addPerson f_X8_addPerson_J50
  rw [g2, if_neg (by rw [n32_Lle (by omega) (by decide)]; show ¬ 6 ≤ P.1 0; omega), pw_g, n32_in (by omega), pw_let, n32_cl (by omega)]
  refine ⟨h6, ?_⟩
  rw [rLI, g2, pw_g, n32_in (by omega), pw_let, n32_cl (by omega)]
  refine ⟨h6, ?_⟩
  rw [rI_ne (by omega), rLI, g2, pw_g, n32_in (by omega), pw_let, n32_cl (by omega)]
  refine ⟨h6, ?_⟩
  rw [pw_let, pw_some, rI_ne (by omega), rI_ne (by omega), rLI, g2, n32_al]
  have kk : kp (fun k i p => i = e ∧ (k = 8 ∧ p = 0 ∨ k = 39 ∧ p = P.1 0 ∨ k = 40 ∧ p = P.1 0 ∨ k = 138 ∧ p = P.1 0)) m (mi_wI (mi_wI (mi_wI (mi_wL m 38 e (P.1 0) (n64 (nC L t))) 39 e (P.1 0) (n32 kd)) 40 e (P.1 0) (n32 co)) 8 e 0 (n32 (P.1 0 + 1))) := (((kp.rf.wL ⟨rfl, by omega⟩).wI ⟨rfl, by omega⟩).wI ⟨rfl, by omega⟩).wI ⟨rfl, by omega⟩
  have w8 : (mi_wI (mi_wI (mi_wI (mi_wL m 38 e (P.1 0) (n64 (nC L t))) 39 e (P.1 0) (n32 kd)) 40 e (P.1 0) (n32 co)) 8 e 0 (n32 (P.1 0 + 1))).1 8 e 0 = n32 (P.1 0 + 1) := rI_eq
  have w40 : (mi_wI (mi_wI (mi_wI (mi_wL m 38 e (P.1 0) (n64 (nC L t))) 39 e (P.1 0) (n32 kd)) 40 e (P.1 0) (n32 co)) 8 e 0 (n32 (P.1 0 + 1))).1 40 e (P.1 0) = n32 co := by rw [rI_ne (by omega), rI_eq]
  have w39 : (mi_wI (mi_wI (mi_wI (mi_wL m 38 e (P.1 0) (n64 (nC L t))) 39 e (P.1 0) (n32 kd)) 40 e (P.1 0) (n32 co)) 8 e 0 (n32 (P.1 0 + 1))).1 39 e (P.1 0) = n32 kd := by rw [rI_ne (by omega), rI_ne (by omega), rI_eq]
  have w38 : (mi_wI (mi_wI (mi_wI (mi_wL m 38 e (P.1 0) (n64 (nC L t))) 39 e (P.1 0) (n32 kd)) 40 e (P.1 0) (n32 co)) 8 e 0 (n32 (P.1 0 + 1))).2.1 38 e (P.1 0) = n64 (nC L t) := by
    show (mi_wL m 38 e (P.1 0) (n64 (nC L t))).2.1 38 e (P.1 0) = _
    rw [rL, if_pos ⟨rfl, rfl, rfl⟩]
  generalize mi_wI (mi_wI (mi_wI (mi_wL m 38 e (P.1 0) (n64 (nC L t))) 39 e (P.1 0) (n32 kd)) 40 e (P.1 0) (n32 co)) 8 e 0 (n32 (P.1 0 + 1)) = m' at kk w8 w40 w39 w38
  have z0 : ∀ x, x ≠ 0 → x ≠ 9 + 2 * P.1 0 → x ≠ 10 + 2 * P.1 0 → upT (upT (upT P.1 (9 + 2 * P.1 0) kd) (10 + 2 * P.1 0) co) 0 (P.1 0 + 1) x = P.1 x := fun x x0 x1 x2 => by rw [up_n x0, up_n x2, up_n x1]
  have z1 : upT (upT (upT P.1 (9 + 2 * P.1 0) kd) (10 + 2 * P.1 0) co) 0 (P.1 0 + 1) 0 = P.1 0 + 1 := up_e
  have z2 : upT (upT (upT P.1 (9 + 2 * P.1 0) kd) (10 + 2 * P.1 0) co) 0 (P.1 0 + 1) (9 + 2 * P.1 0) = kd := by rw [up_n (by omega), up_n (by omega), up_e]
  have z3 : upT (upT (upT P.1 (9 + 2 * P.1 0) kd) (10 + 2 * P.1 0) co) 0 (P.1 0 + 1) (10 + 2 * P.1 0) = co := by rw [up_n (by omega), up_e]
  refine ⟨?_, kk.mo (fun k i p a => by omega)⟩
  unfold dP dTw cTw kdA byA toA szA
  dsimp only
  generalize upT (upT (upT P.1 (9 + 2 * P.1 0) kd) (10 + 2 * P.1 0) co) 0 (P.1 0 + 1) = T' at z0 z1 z2 z3
  refine ⟨⟨by omega, by rw [w8, z1], fun j hj => ?_⟩, ⟨⟨⟨by rw [w8, z1], ?_, fun z => ?_, ?_, ?_, ?_⟩, fun p hp => ?_, fun w hw => ?_, fun k hk => ?_⟩, ?_, fun i j hi hj => ?_, ?_⟩, g5.mv kk (fun k p a => by omega) (Nat.le_refl _), by rw [kk.2.1 9 e 6 (by omega)]; exact g6⟩
  · rw [z1] at hj
    by_cases z : j = P.1 0
    · subst z
      rw [up_e]
      exact ⟨w38, ht⟩
    · rw [up_n z, kk.2.1 38 e j (by omega)]
      exact g3 j (by omega)
  · rw [kk.1 8 e 1 (by omega), z0 2 (by omega) (by omega) (by omega)]; exact c2
  · rw [kk.1 8 e 2 (by omega), z0 4 (by omega) (by omega) (by omega)]; exact c10
  · rw [kk.1 8 e 3 (by omega), z0 5 (by omega) (by omega) (by omega)]; exact c4
  · rw [kk.1 9 e 0 (by omega), z0 1 (by omega) (by omega) (by omega)]; exact c5
  · rw [kk.1 9 e 1 (by omega), z0 3 (by omega) (by omega) (by omega)]; exact c6
  · rw [z1] at hp
    by_cases z : p = P.1 0
    · subst z
      rw [w39, w40, z2, z3]
      exact ⟨rfl, rfl⟩
    · rw [kk.1 39 e p (by omega), kk.1 40 e p (by omega), z0 _ (by omega) (by omega) (by omega), z0 _ (by omega) (by omega) (by omega)]
      exact c7 p (by omega)
  · rw [z0 2 (by omega) (by omega) (by omega)] at hw
    rw [kk.1 41 e w (by omega), kk.1 42 e w (by omega), kk.1 43 e w (by omega), z0 _ (by omega) (by omega) (by omega), z0 _ (by omega) (by omega) (by omega), z0 _ (by omega) (by omega) (by omega)]
    exact c8 w hw
  · rw [z0 3 (by omega) (by omega) (by omega)] at hk
    rw [kk.1 45 e k (by omega), kk.1 46 e k (by omega), z0 _ (by omega) (by omega) (by omega), z0 _ (by omega) (by omega) (by omega)]
    exact c9 k hk
  · rw [kk.1 8 e 2 (by omega), z0 4 (by omega) (by omega) (by omega)]; exact c10
  · rw [kk.1 76 _ j (by omega), z0 _ (by omega) (by omega) (by omega)]; exact c11 i j hi hj
  · rw [kk.1 8 e 4 (by omega)]; exact c12
theorem ix_3 : ∀ x, x ≤ 26 → ixW x (wls 3) 0 = if 16 ≤ x ∧ x < 20 then n32 (x - 16) else -1 := by decide +kernel
theorem pc_readPerson {L : List Nat} {c e n : Nat} {m : mi_M} {P : PS} (hL : tkN L c) (hd : dT m L n) (h : dP m e L P n) (hP : P.1 0 ≤ 6) : wo (f_X7_readPerson e m) (dQ L e m (if P.1 0 = 6 then ((n, 5 + 16 * plT L n), P) else lnP L n P)) := by
  have g2 := h.1.2.1
  unfold f_X7_readPerson
  rw [g2]
  have fl : ∀ (x nn : Nat) (m1 : mi_M) (y : (Nat × Nat) × PS), dT m1 L nn → x ≠ 0 → kp (fun k i p => kLn e k i p) m m1 → y.1 = (nn, x + 16 * plT L nn) → wo (mi_b (f_X7_fail (n32 x) m1) fun v m' => mi_g (v = 0 ∨ v = 1) (some (v, m'))) (dQ L e m y) := by
    intro x nn m1 y d1 hx k1 hy
    refine pw_mono (rd_01 (rd_fail d1 hx)) ?_
    rintro ⟨v, m'⟩ ⟨-, a2, a3⟩
    obtain ⟨b1, b2⟩ := a2 hx
    simp only at b1 b2 a3
    rw [b1]
    exact dq_bad hy (by omega) b2 (k1.tr (a3.mo (fun k i p a => Or.inl a)))
  by_cases h6 : P.1 0 = 6
  · rw [if_pos h6, if_neg (by rw [h6]; decide)]
    exact fl 5 n m _ hd (by decide) kp.rf rfl
  · rw [if_neg h6, if_pos (by rw [n32_ltL (by omega) (by decide)]; show P.1 0 < 6; omega), pw_bo]
    refine pw_mono (pc_adv hd hL.1) ?_
    rintro m1 ⟨d1, k1⟩
    have p1 := h.mv (k1.mo (fun k i p a => by omega) : kp (fun k i p => k67 k i p) m m1) (Nat.le_succ n)
    have k1' : kp (fun k i p => kLn e k i p) m m1 := k1.mo (fun k i p a => Or.inl (by omega))
    rw [pc_isName d1, pe_bo]
    by_cases q : kD L (n + 1) = 2 ∧ 23 ≤ wX L (n + 1)
    · obtain ⟨r, e1, e2⟩ := pc_named (x := m1.2.1 6 0 4) p1.1
      have e3 := e2 (n + 1) q.1 (d1.w q.1)
      have fle := fnd_le (L := L) (nm := P.2.1) (k := P.1 0) (n := n + 1)
      rw [if_pos q, if_neg (by decide), e1, pe_bo, e3]
      by_cases f : fdN L P.2.1 (P.1 0) (n + 1) < P.1 0
      · have ee : eP L P.2.1 (P.1 0) (n + 1) = 3 := by unfold eP; rw [if_pos q, if_pos f]
        rw [if_pos f, if_neg (by rw [n32_eqN (by omega)]; exact id)]
        refine fl 3 (n + 1) m1 _ d1 (by decide) k1' ?_
        show sx L (eS L 59) (sx L (eN L 0 1000) (sx L (eW L 1) (sx L (eK L) (sx L (eP L P.2.1 (P.1 0)) (n + 1, 0))))) = _
        have en : eP L P.2.1 (P.1 0) (n + 1) ≠ 0 := by omega
        rw [sx_i en, sx_i en, sx_i en, sx_i en, sx_n en, ee]
      · have ee : eP L P.2.1 (P.1 0) (n + 1) = 0 := by unfold eP; rw [if_pos q, if_neg f]
        rw [if_neg f, if_pos rfl, pw_let, pw_bo, d1.w q.1]
        refine pw_mono (pc_adv d1 hL.1) ?_
        rintro m2 ⟨d2, k2⟩
        have p2 := p1.mv (k2.mo (fun k i p a => by omega) : kp (fun k i p => k67 k i p) m1 m2) (Nat.le_succ (n + 1))
        have k2' : kp (fun k i p => kLn e k i p) m m2 := k1'.tr (k2.mo (fun k i p a => Or.inl (by omega)))
        rw [pc_am d2 (by decide) (by decide), pe_bo, ix_3 _ (wX_le L (n + 2))]
        have hx1 : (lnP L n P).1 = sx L (eS L 59) (sx L (eN L 0 1000) (sx L (eW L 1) (sx L (eK L) (n + 2, 0)))) := by
          show sx L (eS L 59) (sx L (eN L 0 1000) (sx L (eW L 1) (sx L (eK L) (sx L (eP L P.2.1 (P.1 0)) (n + 1, 0))))) = _
          rw [sx_y ee]
        by_cases qk : 16 ≤ wX L (n + 2) ∧ wX L (n + 2) < 20
        · have ek : eK L (n + 2) = 0 := if_pos qk
          rw [if_pos qk, if_neg (by rw [n32_eqN (by omega)]; exact id), pw_bo]
          refine pw_mono (pc_adv d2 hL.1) ?_
          rintro m3 ⟨d3, k3x⟩
          have p3 := p2.mv (k3x.mo (fun k i p a => by omega) : kp (fun k i p => k67 k i p) m2 m3) (Nat.le_succ (n + 2))
          have k3' : kp (fun k i p => kLn e k i p) m m3 := k2'.tr (k3x.mo (fun k i p a => Or.inl (by omega)))
          rw [sx_y ek] at hx1
          refine rd_seq (pc_pass (a := 6) (w := 1) d3 hL.1 (by decide) (by decide) rfl) (fun eb m4 b1 b2 => ?_) (fun eg m4 d4 k4 => ?_)
          · rw [sx_i eb, sx_i eb, sx_n eb] at hx1
            rw [pw_g, pw_some]
            exact ⟨by decide, dq_bad hx1 (by omega) b1 (k3'.tr (b2.mo (fun k i p a => Or.inl a)))⟩
          · rw [sx_y eg] at hx1
            have p4 := p3.mv k4 (Nat.le_succ (n + 3))
            have k4' : kp (fun k i p => kLn e k i p) m m4 := k3'.tr (k4.mo (fun k i p a => Or.inl a))
            rw [pw_let]
            refine rd_seq (show wo (f_X7_passNumber 0 999 m4) _ from pc_passNumber (lo := 0) (hx := 1000) d4 hL.1 (by decide) (by decide)) (fun eb m5 b1 b2 => ?_) (fun eg m5 d5 k5 => ?_)
            · rw [sx_i eb, sx_n eb] at hx1
              rw [pw_g, pw_some]
              exact ⟨by decide, dq_bad hx1 (by omega) b1 (k4'.tr (b2.mo (fun k i p a => Or.inl a)))⟩
            · rw [sx_y eg] at hx1
              have p5 := p4.mv k5 (Nat.le_succ (n + 4))
              have k5' : kp (fun k i p => kLn e k i p) m m5 := k4'.tr (k5.mo (fun k i p a => Or.inl a))
              rw [pw_bo, d4.v (Or.inl (eN_0 eg).1)]
              refine pw_mono (pc_addPerson p5 (by omega) q.1) ?_
              rintro m6 ⟨p6, k6'⟩
              exact rd_end hL.1 (d5.mv k6' (fun q => by omega) (by omega) (fun q => by omega)) hx1 p6 (k5'.tr (k6'.mo (fun k i p a => by omega)))
        · have ek : eK L (n + 2) = 1 := if_neg qk
          rw [if_neg qk, if_pos rfl]
          refine fl 1 (n + 2) m2 _ d2 (by decide) k2' ?_
          have en : eK L (n + 2) ≠ 0 := by omega
          rw [hx1, sx_i en, sx_i en, sx_i en, sx_n en, ek]
    · have ee : eP L P.2.1 (P.1 0) (n + 1) = 1 := by unfold eP; rw [if_neg q]
      rw [if_neg q, if_pos rfl]
      refine fl 1 (n + 1) m1 _ d1 (by decide) k1' ?_
      show sx L (eS L 59) (sx L (eN L 0 1000) (sx L (eW L 1) (sx L (eK L) (sx L (eP L P.2.1 (P.1 0)) (n + 1, 0))))) = _
      have en : eP L P.2.1 (P.1 0) (n + 1) ≠ 0 := by omega
      rw [sx_i en, sx_i en, sx_i en, sx_i en, sx_n en, ee]
