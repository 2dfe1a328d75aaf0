/-! ===== the reference's lines ===== -/
abbrev kLm (k i p : Nat) : Prop := i = 0 ∧ (k = 12 ∧ (p = 7 ∨ p = 8 ∨ p = 13 ∨ p = 16 ∨ p = 17) ∨ k = 56 ∧ 100 ≤ p ∨ (k = 57 ∨ k = 58) ∧ 1100 ≤ p ∨ k = 160)
/-- the laws, as the reference holds them while it reads -/
def mLw (m : mi_M) (n : Nat) (on : Nat → Bool) (cd : Nat → List Int32) : Prop := ∃ q, m.1 12 0 13 = n32 q ∧ q ≤ n ∧ ∀ l, l < 3 → (on (2 + l) = false ∧ m.1 56 0 (106 + l) = -1 ∧ cd l = dfA l) ∨ (on (2 + l) = true ∧ ∃ f, m.1 56 0 (106 + l) = n32 f ∧ f + (cd l).length < q ∧ (∀ k (h : k < (cd l).length), m.1 57 0 (1100 + (f + k)) = (opc (cd l)[k]).1 ∧ m.1 58 0 (1100 + (f + k)) = (opc (cd l)[k]).2) ∧ m.1 57 0 (1100 + (f + (cd l).length)) = 0)
theorem mLw.mv {m m' : mi_M} {n n' : Nat} {on : Nat → Bool} {cd : Nat → List Int32} {Pr : Nat → Nat → Nat → Prop} (h : mLw m n on cd) (hk : kp Pr m m') (h1 : ¬ Pr 12 0 13) (h2 : ∀ l, l < 3 → ¬ Pr 56 0 (106 + l)) (h3 : ∀ p, ¬ Pr 57 0 p ∧ ¬ Pr 58 0 p) (hn : n ≤ n') : mLw m' n' on cd := by
  obtain ⟨q, a1, a2, a3⟩ := h
  refine ⟨q, by rw [hk.1 12 0 13 h1]; exact a1, by omega, fun l hl => ?_⟩
  rcases a3 l hl with ⟨b1, b2, b3⟩ | ⟨b1, f, b2, b3, b4, b5⟩
  · exact Or.inl ⟨b1, by rw [hk.1 56 0 _ (h2 l hl)]; exact b2, b3⟩
  · refine Or.inr ⟨b1, f, by rw [hk.1 56 0 _ (h2 l hl)]; exact b2, b3, fun k hh => ?_, by rw [hk.1 57 0 _ (h3 _).1]; exact b5⟩
    rw [hk.1 57 0 _ (h3 _).1, hk.1 58 0 _ (h3 _).2]
    exact b4 k hh
def mTn (m : mi_M) (T : Nat → Nat) : Prop := ∀ q, q < 100 → (q < 6 ∨ 8 < q) → m.1 56 0 (100 + q) = n32 (T q)
theorem mTn.mv {m m' : mi_M} {T : Nat → Nat} {Pr : Nat → Nat → Nat → Prop} (h : mTn m T) (hk : kp Pr m m') (hp : ∀ p, 100 ≤ p → ¬ Pr 56 0 p) : mTn m' T := fun q hq h2 => by
  rw [hk.1 56 0 _ (hp _ (by omega))]
  exact h q hq h2
def mP (m : mi_M) (L : List Nat) (P : PS) (n : Nat) : Prop := mTn m P.1 ∧ namM m L P.2.1 (P.1 0) ∧ m.1 12 0 17 = n32 (bs P.2.2.1 5) ∧ mLw m n P.2.2.1 P.2.2.2
theorem mP.mv {m m' : mi_M} {L : List Nat} {P : PS} {n n' : Nat} (h : mP m L P n) (hk : kp (fun k i p => k78 k i p) m m') (hn : n ≤ n') : mP m' L P n' :=
  ⟨h.1.mv hk (fun p _ => by omega), h.2.1.mv hk (by omega) (fun p => by omega), by rw [hk.1 12 0 17 (by omega)]; exact h.2.2.1, h.2.2.2.mv hk (by omega) (fun l hl => by omega) (fun p => by omega) hn⟩
/-- what a line leaves -/
def mQ (L : List Nat) (c : Nat) (m : mi_M) (x : (Nat × Nat) × PS) (m' : mi_M) : Prop := rS m' L c x.1.1 x.1.2 ∧ (x.1.2 = 0 → mP m' L x.2 x.1.1) ∧ kp (fun k i p => kLm k i p) m m'
/-- the last sign of a line, whether there was a fault before or not -/
theorem mq_end {L : List Nat} {c : Nat} {m m0 : mi_M} {s : Nat × Nat} {x : (Nat × Nat) × PS} (hL : tkN L c) (h : rS m L c s.1 s.2) (hx : x.1 = sx L (eS L 59) s) (hp : s.2 = 0 → mP m L x.2 s.1) (hk : kp (fun k i p => kLm k i p) m0 m) : wo (f_X12_takeSign (59 : Int32) m) (mQ L c m0 x) := by
  refine pw_mono (show wo (f_X12_takeSign 59 m) _ from pm_takeSign (ch := 59) h hL (by decide)) ?_
  intro m' h'
  refine ⟨by rw [hx]; exact h'.1, fun z => ?_, hk.tr (h'.2.mo (fun k i p a => by omega))⟩
  rw [hx] at z ⊢
  obtain ⟨z1, z2, z3⟩ := sx_0 z
  rw [z3]
  exact (hp z1).mv h'.2 (by show s.1 ≤ s.1 + 1; omega)
/-- the same, where the fault was told at once -/
theorem mq_bad {L : List Nat} {c nf v : Nat} {m m0 : mi_M} {x : (Nat × Nat) × PS} (hL : tkN L c) (h : rS m L c nf v) (hv : v ≠ 0) (hx : x.1 = (nf, v)) (hk : kp (fun k i p => kLm k i p) m0 m) : wo (f_X12_takeSign (59 : Int32) m) (mQ L c m0 x) := by
  refine pw_mono (show wo (f_X12_takeSign 59 m) _ from pm_takeSign (ch := 59) h hL (by decide)) ?_
  intro m' h'
  rw [sx_f hv] at h'
  refine ⟨by rw [hx]; exact h'.1, fun z => ?_, hk.tr (h'.2.mo (fun k i p a => by omega))⟩
  rw [hx] at z
  exact absurd z hv
theorem vin {k n : Nat} (h : k < n) (hn : n < 2147483648) : vp_in (n32 k) n := (n32_in (by omega)).mpr h
theorem rp56 {L : List Nat} {c n v p : Nat} {x : Int32} {m : mi_M} (h : rS m L c n v) : rS (mi_wI m 56 0 p x) L c n v := h.mv (kp.rf.wI ⟨rfl, rfl⟩ : kp (fun k i _ => k = 56 ∧ i = 0) m _) (by omega) (by omega) (fun p => by omega) (fun i p a => by omega)
theorem nam56 {L : List Nat} {nm : Nat → Nat} {k p : Nat} {x : Int32} {m : mi_M} (h : namM m L nm k) : namM (mi_wI m 56 0 p x) L nm k := h.mv (kp.rf.wI ⟨rfl, rfl⟩ : kp (fun k i _ => k = 56 ∧ i = 0) m _) (by omega) (fun p => by omega)
theorem k56 {p : Nat} {x : Int32} {m m' : mi_M} (h : kp (fun k i p => kLm k i p) m m') (hp : 100 ≤ p) : kp (fun k i p => kLm k i p) m (mi_wI m' 56 0 p x) := h.wI ⟨rfl, by omega⟩
theorem k78m {m m' m'' : mi_M} (h : kp (fun k i p => kLm k i p) m m') (h' : kp (fun k i p => k78 k i p) m' m'') : kp (fun k i p => kLm k i p) m m'' := h.tr (h'.mo (fun k i p a => by omega))
/-- told cells that are kept, under a frame -/
abbrev kC7 (p0 : Nat) (k i p : Nat) : Prop := i = 0 ∧ (k = 12 ∧ (p = 7 ∨ p = 8) ∨ k = 56 ∧ p0 ≤ p)
theorem pm_takeAfter {m : mi_M} {L : List Nat} {c n v w lo hx : Nat} (h : rS m L c n v) (hL : tkN L c) (hw : w < 26) (hl : lo < 100000) (hh : hx < 100000) : wo (f_X12_takeAfter (n32 w) (n32 lo) (n32 hx - 1) m) (fun r => rP L c m (sx L (eN L lo hx) (sx L (eW L w) (n, v))) r.2 ∧ ((sx L (eN L lo hx) (sx L (eW L w) (n, v))).2 = 0 → r.1 = n32 (vL L (n + 1)))) := by
  unfold f_X12_takeAfter
  rw [pw_bo]
  refine pw_mono (pm_takeWord h hL hw) ?_
  intro m1 h1
  rw [pw_b]
  refine pw_mono (pm_takeNumber h1.1 hL hl hh) ?_
  rintro ⟨r, m2⟩ ⟨a1, a2⟩
  simp only at a1 a2
  dsimp only
  rw [pw_some]
  refine ⟨h1.tr a1, fun z => ?_⟩
  rw [if_pos z] at a2
  obtain ⟨z1, -, -⟩ := sx_0 z
  obtain ⟨y1, y2, y3⟩ := sx_0 z1
  rw [a2, y3]
theorem told_ok {L : List Nat} {nm : Nat → Nat} {k n : Nat} (hk : k ≤ 6) : ∃ a, a < 6 ∧ n32 (if (sx L (eO L nm k 99) (n, 0)).2 = 0 then fdN L nm k n else 0) = n32 a ∧ ((sx L (eO L nm k 99) (n, 0)).2 = 0 → a = fdN L nm k n) := by
  by_cases z : (sx L (eO L nm k 99) (n, 0)).2 = 0
  · rw [if_pos z]
    have := (eO_k (sx_0 z).2.1).2.2.1
    have : fdN L nm k n < k := this
    exact ⟨_, by omega, rfl, fun _ => rfl⟩
  · rw [if_neg z]
    exact ⟨0, by omega, rfl, fun y => absurd y z⟩
theorem sx_c {L : List Nat} {e e' : Nat → Nat} {s : Nat × Nat} (h : s.2 = 0 → e = e') : sx L e s = sx L e' s := by
  by_cases z : s.2 = 0
  · rw [h z]
  · unfold sx
    rw [if_neg z, if_neg z]
theorem pm_readLane {L : List Nat} {c n : Nat} {m : mi_M} {P : PS} (hL : tkN L c) (hn : n + 1 ≤ c) (h : rS m L c n 0) (hp : mP m L P n) (hP : pOK P) : wo (mi_bo (f_X12_readLane m) fun m36 => f_X12_takeSign (59 : Int32) m36) (mQ L c m (lnL L n P)) := by
  have h60 := hP.1.1.1
  unfold f_X12_readLane f_X12_readLane_J78
  rw [pw_bo, pw_let, pw_b]
  have r1 := rp_at h hn
  generalize mi_wI m 12 0 7 (m.1 12 0 7 + 1) = m1 at r1
  have p1 := hp.mv r1.2 (Nat.le_succ n)
  refine pw_mono (pm_takeTold r1.1 hL p1.2.1) ?_
  rintro ⟨va, m2⟩ ⟨r2, ea⟩
  simp only at r2 ea
  have p2 := p1.mv r2.2 (Nat.le_refl _)
  obtain ⟨a, a6, ea2, ha⟩ := told_ok (L := L) (nm := P.2.1) (n := n + 1) h60
  rw [ea2] at ea
  subst ea
  dsimp only
  rw [pw_b]
  generalize hs1 : sx L (eO L P.2.1 (P.1 0) 99) (n + 1, 0) = s1 at r2 ha
  have hT : ∀ b, b < 6 → m2.1 56 0 (121 + 6 * a + b) = n32 (P.1 (21 + 6 * a + b)) ∧ P.1 (21 + 6 * a + b) < 100000 := fun b hb => by
    have := p2.1 (21 + 6 * a + b) (by omega) (by omega)
    rw [show 100 + (21 + 6 * a + b) = 121 + 6 * a + b by omega] at this
    have := (hP.1.2.2.2.2 a b a6 hb).1
    exact ⟨by assumption, by omega⟩
  refine pw_mono (show wo (f_X12_takeOther (n32 a) 1 m2) _ from pm_takeOther (fl := 1) (T := P.1) (e := eQ L P.2.1 P.1 (P.1 0) a) r2.1 hL p2.2.1 a6 (Or.inr rfl) (fun _ => hT) (if_pos rfl).symm) ?_
  rintro ⟨vb, m3⟩ ⟨r3, eb⟩
  simp only at r3 eb
  have p3 := p2.mv r3.2 (Nat.le_refl _)
  rw [pw_b]
  refine pw_mono (show wo (f_X12_takeNumber 1 30 m3) _ from pm_takeNumber (lo := 1) (hx := 31) r3.1 hL (by decide) (by decide)) ?_
  rintro ⟨vv, m4⟩ ⟨r4, ev⟩
  simp only at r4 ev
  have p4 := p3.mv r4.2 (Nat.le_refl _)
  have k4 : kp (fun k i p => kLm k i p) m m4 := k78m (k78m (k78m (r1.2.mo (fun k i p a => by omega)) r2.2) r3.2) r4.2
  have hx1 : (lnL L n P).1 = sx L (eS L 59) (sx L (eN L 1 31) (sx L (eQ L P.2.1 P.1 (P.1 0) a) s1)) := by
    have q1 : (lnL L n P).1 = sx L (eS L 59) (sx L (eN L 1 31) (sx L (eQ L P.2.1 P.1 (P.1 0) (fdN L P.2.1 (P.1 0) (n + 1))) (sx L (eO L P.2.1 (P.1 0) 99) (n + 1, 0)))) := rfl
    have q2 : sx L (eQ L P.2.1 P.1 (P.1 0) (fdN L P.2.1 (P.1 0) (n + 1))) s1 = sx L (eQ L P.2.1 P.1 (P.1 0) a) s1 := sx_c (fun z => by rw [ha z])
    rw [q1, hs1, q2]
  dsimp only
  by_cases z : (sx L (eN L 1 31) (sx L (eQ L P.2.1 P.1 (P.1 0) a) s1)).2 = 0
  · have z3 := sx_0 z
    have z2 := sx_0 z3.1
    have z1 := z2.1
    have ea := ha z1
    have s1e : s1 = (n + 2, 0) := by
      have y4 : (sx L (eO L P.2.1 (P.1 0) 99) (n + 1, 0)).2 = 0 := by rw [hs1]; exact z1
      rw [← hs1]
      exact (sx_0 y4).2.2
    subst s1e
    rw [sx_y (show eQ L P.2.1 P.1 (P.1 0) a (n + 2) = 0 from z2.2.1)] at z z3 r4 hx1
    have en : eN L 1 31 (n + 3) = 0 := z3.2.1
    rw [sx_y en] at z r4 hx1
    rw [sx_y (show eQ L P.2.1 P.1 (P.1 0) a (n + 2) = 0 from z2.2.1)] at r3
    obtain ⟨q1, q2, q3⟩ := eQ_0 (show eQ L P.2.1 P.1 (P.1 0) a (n + 2) = 0 from z2.2.1)
    have fb := (eO_k q1).2.2.1
    have eb : vb = n32 (fdN L P.2.1 (P.1 0) (n + 2)) := eb.trans (congrArg n32 (if_pos ⟨rfl, q1⟩))
    have ev : vv = n32 (vL L (n + 3)) := by
      rw [ev]
      have q : sx L (eQ L P.2.1 P.1 (P.1 0) a) (n + 2, 0) = (n + 3, 0) := sx_y (show eQ L P.2.1 P.1 (P.1 0) a (n + 2) = 0 from z2.2.1)
      show n32 (if (sx L (eN L 1 31) (sx L (eQ L P.2.1 P.1 (P.1 0) a) (n + 2, 0))).2 = 0 then vL L (sx L (eQ L P.2.1 P.1 (P.1 0) a) (n + 2, 0)).1 else 0) = _
      rw [q, if_pos (by rw [sx_y en])]
    subst eb
    subst ev
    have hb6 : fdN L P.2.1 (P.1 0) (n + 2) < 6 := by omega
    rw [if_pos (r4.1.f0.1.mpr rfl), n32_lm, n32_la, n32_add, n32_lm, n32_la, n32_add, pw_g, pw_let, n32_cl (by omega), pw_g, pw_let, n32_cl (by omega), show (101 : Int32).toNatClampNeg = 101 from rfl, pw_g, pw_g, pw_let, pw_some]
    refine ⟨vin (by omega) (by decide), vin (by omega) (by decide), vin (k := 101) (by decide) (by decide), vin (k := 101) (by decide) (by decide), ?_⟩
    rw [rI_ne (by omega), rI_ne (by omega), show m4.1 56 0 101 = n32 (P.1 1) from p4.1 1 (by omega) (by omega), n32_al]
    have km : kp (fun k i p => k = 56 ∧ i = 0 ∧ (p = 121 + 6 * a + fdN L P.2.1 (P.1 0) (n + 2) ∨ p = 121 + 6 * fdN L P.2.1 (P.1 0) (n + 2) + a ∨ p = 101)) m4 (mi_wI (mi_wI (mi_wI m4 56 0 (121 + 6 * a + fdN L P.2.1 (P.1 0) (n + 2)) (n32 (vL L (n + 3)))) 56 0 (121 + 6 * fdN L P.2.1 (P.1 0) (n + 2) + a) (n32 (vL L (n + 3)))) 56 0 101 (n32 (P.1 1 + 1))) := ((kp.rf.wI ⟨rfl, rfl, by omega⟩).wI ⟨rfl, rfl, by omega⟩).wI ⟨rfl, rfl, by omega⟩
    have w1 : (mi_wI (mi_wI (mi_wI m4 56 0 (121 + 6 * a + fdN L P.2.1 (P.1 0) (n + 2)) (n32 (vL L (n + 3)))) 56 0 (121 + 6 * fdN L P.2.1 (P.1 0) (n + 2) + a) (n32 (vL L (n + 3)))) 56 0 101 (n32 (P.1 1 + 1))).1 56 0 101 = n32 (P.1 1 + 1) := rI_eq
    have w2 : ∀ x, x = 121 + 6 * a + fdN L P.2.1 (P.1 0) (n + 2) ∨ x = 121 + 6 * fdN L P.2.1 (P.1 0) (n + 2) + a → (mi_wI (mi_wI (mi_wI m4 56 0 (121 + 6 * a + fdN L P.2.1 (P.1 0) (n + 2)) (n32 (vL L (n + 3)))) 56 0 (121 + 6 * fdN L P.2.1 (P.1 0) (n + 2) + a) (n32 (vL L (n + 3)))) 56 0 101 (n32 (P.1 1 + 1))).1 56 0 x = n32 (vL L (n + 3)) := by
      intro x hx
      rw [rI_ne (by omega)]
      by_cases y : x = 121 + 6 * fdN L P.2.1 (P.1 0) (n + 2) + a
      · rw [y, rI_eq]
      · rw [rI_ne (by omega), show x = 121 + 6 * a + fdN L P.2.1 (P.1 0) (n + 2) by omega, rI_eq]
    generalize mi_wI (mi_wI (mi_wI m4 56 0 (121 + 6 * a + fdN L P.2.1 (P.1 0) (n + 2)) (n32 (vL L (n + 3)))) 56 0 (121 + 6 * fdN L P.2.1 (P.1 0) (n + 2) + a) (n32 (vL L (n + 3)))) 56 0 101 (n32 (P.1 1 + 1)) = m5 at km w1 w2
    refine mq_end (s := (n + 4, 0)) hL (r4.1.mv km (by omega) (by omega) (fun p => by omega) (fun i p a => by omega)) hx1 (fun _ => ?_) (k4.tr (km.mo (fun k i p a => by omega)))
    refine ⟨fun q hq h2 => ?_, ?_, by rw [km.1 12 0 17 (by omega)]; exact p4.2.2.1, p4.2.2.2.mv km (by omega) (fun l hl => by omega) (fun p => by omega) (by show n + 1 ≤ n + 4; omega)⟩
    · show m5.1 56 0 (100 + q) = n32 (upT (upT (upT P.1 (21 + 6 * fdN L P.2.1 (P.1 0) (n + 1) + fdN L P.2.1 (P.1 0) (n + 2)) (vL L (n + 3))) (21 + 6 * fdN L P.2.1 (P.1 0) (n + 2) + fdN L P.2.1 (P.1 0) (n + 1)) (vL L (n + 3))) 1 (P.1 1 + 1) q)
      rw [← ea]
      by_cases y1 : q = 1
      · subst y1
        rw [up_e]
        exact w1
      · rw [up_n y1]
        by_cases y2 : q = 21 + 6 * fdN L P.2.1 (P.1 0) (n + 2) + a
        · rw [w2 _ (by omega), y2, up_e]
        · rw [up_n y2]
          by_cases y3 : q = 21 + 6 * a + fdN L P.2.1 (P.1 0) (n + 2)
          · rw [w2 _ (by omega), y3, up_e]
          · rw [up_n y3, km.1 56 0 _ (by omega)]
            exact p4.1 q hq h2
    · show namM m5 L P.2.1 (upT (upT (upT P.1 (21 + 6 * fdN L P.2.1 (P.1 0) (n + 1) + fdN L P.2.1 (P.1 0) (n + 2)) (vL L (n + 3))) (21 + 6 * fdN L P.2.1 (P.1 0) (n + 2) + fdN L P.2.1 (P.1 0) (n + 1)) (vL L (n + 3))) 1 (P.1 1 + 1) 0)
      rw [up_n (by omega), up_n (by omega), up_n (by omega)]
      exact p4.2.1.mv km (by omega) (fun p => by omega)
  · rw [if_neg (fun x => z (r4.1.f0.1.mp x)), pw_some]
    exact mq_end hL r4.1 hx1 (fun x => absurd x z) k4
