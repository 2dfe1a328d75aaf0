/-! ===== feed: the tape ===== -/
def byt (x : Int64) (b : Nat) : Nat := (x.toBitVec.toNat >>> b) % 256
theorem byt_g {x : Int64} {b i : Nat} (hi : i < 32) : (n32 (byt x b)).toBitVec.getLsbD i = (decide (i < 8) && x.toBitVec.getLsbD (b + i)) := by
  show (BitVec.ofNat 32 (byt x b)).getLsbD i = _
  rw [BitVec.getLsbD_ofNat]
  unfold byt
  rw [show 256 = 2 ^ 8 by decide, Nat.testBit_mod_two_pow, Nat.testBit_shiftRight]
  simp only [hi, decide_true, Bool.true_and]
  rfl
theorem byt_m : ∀ i, i < 32 → (255#64).getLsbD i = decide (i < 8) ∧ (255#32).getLsbD i = decide (i < 8) := by decide
theorem byt_c {x : Int64} {b : Nat} (hb : b < 57) : ((x.toUInt64 >>> ((n32 b).toInt64.toUInt64 &&& Int64.toUInt64 63)).toInt64 &&& (255 : Int64)).toInt32 = n32 (byt x b) := by
  apply Int32.toBitVec_inj.mp
  apply BitVec.eq_of_getLsbD_eq
  intro i hi
  rw [byt_g hi]
  have e := (kb_sh b (by omega)).1
  generalize ((n32 b).toInt64.toUInt64 &&& Int64.toUInt64 63) = z at e ⊢
  show (BitVec.signExtend 32 ((x.toBitVec >>> (z.toBitVec % 64#64)) &&& 255#64)).getLsbD i = _
  have e2 : (z.toBitVec % 64#64).toNat = b := by
    rw [BitVec.toNat_umod]
    exact e
  rw [BitVec.getLsbD_signExtend, if_pos (by omega), BitVec.getLsbD_and, BitVec.ushiftRight_eq', BitVec.getLsbD_ushiftRight, e2, (byt_m i hi).1]
  simp only [hi, decide_true, Bool.true_and]
  exact Bool.and_comm _ _
theorem byt_r {x : Int64} {b : Nat} (hb : b < 57) : (x >>> ((n32 b).toInt64 &&& 63)).toInt32 &&& (255 : Int32) = n32 (byt x b) := by
  apply Int32.toBitVec_inj.mp
  apply BitVec.eq_of_getLsbD_eq
  intro i hi
  rw [byt_g hi]
  have e := (kb_sh b (by omega)).2
  generalize ((n32 b).toInt64 &&& 63) = z at e ⊢
  show (BitVec.signExtend 32 (x >>> z).toBitVec &&& 255#32).getLsbD i = _
  rw [BitVec.getLsbD_and, BitVec.getLsbD_signExtend, if_pos (by omega), Int64.toBitVec_shiftRight, BitVec.sshiftRight_eq', e, BitVec.getLsbD_sshiftRight, (byt_m i hi).2]
  simp only [hi, decide_true, Bool.true_and]
  by_cases h8 : i < 8
  · simp only [h8, decide_true, Bool.and_true, Bool.true_and]
    rw [if_pos (by omega), decide_eq_false (by omega)]
    rfl
  · simp only [h8, decide_false, Bool.and_false, Bool.false_and]
def okS (s : Nat) : Prop := s = 10 ∨ (32 ≤ s ∧ s ≤ 126)
def adT (L : List Nat) (s : Nat) : List Nat := if (s = 10 ∨ (32 ≤ s ∧ s ≤ 126)) ∧ L.length < 1000 then L ++ [s] else L
def adN (x : Int64) (L : List Nat) : Nat → List Nat
  | 0 => L
  | k + 1 => adT (adN x L k) (byt x (56 - 8 * k))
def okL (L : List Nat) : Prop := L.length ≤ 1000 ∧ ∀ s, s ∈ L → okS s
theorem adT_ok {L : List Nat} {s : Nat} (h : okL L) : okL (adT L s) := by
  unfold adT
  by_cases e : (s = 10 ∨ (32 ≤ s ∧ s ≤ 126)) ∧ L.length < 1000
  · rw [if_pos e]
    refine ⟨by rw [List.length_append]; show L.length + 1 ≤ _; omega, fun t ht => ?_⟩
    rcases List.mem_append.mp ht with x | x
    · exact h.2 t x
    · rw [List.mem_singleton.mp x]; exact e.1
  · rw [if_neg e]; exact h
theorem adN_ok {x : Int64} {L : List Nat} (h : okL L) : ∀ k, okL (adN x L k)
  | 0 => h
  | k + 1 => adT_ok (adN_ok h k)
def tpC (m : mi_M) (L : List Nat) : Prop := m.1 6 0 0 = n32 L.length ∧ ∀ i (h : i < L.length), m.1 37 0 i = n32 L[i]
def tpM (m : mi_M) (L : List Nat) : Prop := m.1 12 0 2 = n32 L.length ∧ ∀ i (h : i < L.length), m.1 51 0 i = n32 L[i]
def lb8 (k : Nat) : Int32 := if k < 8 then n32 (56 - 8 * k) else -8
theorem lb8_s : ∀ k, k < 8 → lb8 k + -8 = lb8 (k + 1) ∧ ¬ lb8 k < 0 ∧ lb8 k = n32 (56 - 8 * k) := by decide
theorem byt_lt (x : Int64) (b : Nat) : byt x b < 256 := Nat.mod_lt _ (by decide)
theorem nar_8 : ∀ s, s < 127 → vp_nar .byte ((n32 s).toInt8.toInt32) = n32 s := by decide +kernel
theorem snoc_c {m : mi_M} {L : List Nat} {s : Nat} (h : tpC m L) (hl : L.length < 1000) : tpC (mi_wI (mi_wI m 37 0 L.length (n32 s)) 6 0 0 (n32 (L.length + 1))) (L ++ [s]) := by
  refine ⟨by rw [rI_eq, List.length_append]; rfl, fun i hi => ?_⟩
  rw [List.length_append] at hi
  have hi : i < L.length + 1 := hi
  rw [rI_ne (by omega)]
  by_cases e : i = L.length
  · subst e; rw [rI_eq, List.getElem_append_right (Nat.le_refl _)]; simp
  · rw [rI_ne (by omega), List.getElem_append_left (by omega)]; exact h.2 i (by omega)
theorem snoc_m {m : mi_M} {L : List Nat} {s : Nat} (h : tpM m L) (hl : L.length < 1000) : tpM (mi_wI (mi_wI m 51 0 L.length (n32 s)) 12 0 2 (n32 (L.length + 1))) (L ++ [s]) := by
  refine ⟨by rw [rI_eq, List.length_append]; rfl, fun i hi => ?_⟩
  rw [List.length_append] at hi
  have hi : i < L.length + 1 := hi
  rw [rI_ne (by omega)]
  by_cases e : i = L.length
  · subst e; rw [rI_eq, List.getElem_append_right (Nat.le_refl _)]; simp
  · rw [rI_ne (by omega), List.getElem_append_left (by omega)]; exact h.2 i (by omega)
theorem pc_append {x : Int64} {m : mi_M} {L : List Nat} (h : tpC m L) (hL : okL L) : wo (f_X6_append x m) (fun m' => tpC m' (adN x L 8) ∧ kp (fun k i p => i = 0 ∧ (k = 6 ∧ p = 0 ∨ k = 37)) m m') := by
  unfold f_X6_append
  rw [pw_bo]
  refine pl_for (fun k s => s.1 = lb8 k ∧ tpC s.2 (adN x L k) ∧ kp (fun k i p => i = 0 ∧ (k = 6 ∧ p = 0 ∨ k = 37)) m s.2) 8 (by omega) ⟨rfl, h, kp.rf⟩ ?_
  rintro k ⟨l, m1⟩ hk ⟨a1, a2, a3⟩
  simp only at a1 a2 a3
  subst a1
  unfold f_X6_append_B3
  simp only [pw_if, pw_some, lr_r]
  by_cases e8 : k = 8
  · subst e8
    refine ⟨fun _ => ?_, fun x => absurd (by decide) x⟩
    unfold f_X6_append_K3
    rw [pw_some]
    exact ⟨a2, a3⟩
  · have hk : k < 8 := by omega
    obtain ⟨q1, q2, q3⟩ := lb8_s k hk
    refine ⟨fun x => absurd x q2, fun _ => ?_⟩
    have hs := byt_lt x (56 - 8 * k)
    have fin : ∀ m2, tpC m2 (adN x L (k + 1)) → kp (fun k i p => i = 0 ∧ (k = 6 ∧ p = 0 ∨ k = 37)) m m2 → wo (f_X6_append_J70 (lb8 k) m2) (lr (fun s' => k < 8 ∧ s'.1 = lb8 (k + 1) ∧ tpC s'.2 (adN x L (k + 1)) ∧ kp (fun k i p => i = 0 ∧ (k = 6 ∧ p = 0 ∨ k = 37)) m s'.2) (fun e => wo (f_X6_append_K3 e) (fun m' => tpC m' (adN x L 8) ∧ kp (fun k i p => i = 0 ∧ (k = 6 ∧ p = 0 ∨ k = 37)) m m'))) := by
      intro m2 b1 b2
      unfold f_X6_append_J70
      rw [pw_some, lr_l]
      exact ⟨hk, q1, b1, b2⟩
    have hL1 := adN_ok (x := x) hL k
    have gd : okS (byt x (56 - 8 * k)) → wo (f_X6_append_J36 (lb8 k) m1 (n32 (byt x (56 - 8 * k)))) (lr (fun s' => k < 8 ∧ s'.1 = lb8 (k + 1) ∧ tpC s'.2 (adN x L (k + 1)) ∧ kp (fun k i p => i = 0 ∧ (k = 6 ∧ p = 0 ∨ k = 37)) m s'.2) (fun e => wo (f_X6_append_K3 e) (fun m' => tpC m' (adN x L 8) ∧ kp (fun k i p => i = 0 ∧ (k = 6 ∧ p = 0 ∨ k = 37)) m m'))) := by
      intro ok
      have h0 := hL1.1
      unfold f_X6_append_J36
      rw [a2.1]
      simp (disch := omega) only [pw_if, n32_Lle, pw_g, pw_let, n32_in, n32_cl]
      refine ⟨fun hz => fin m1 ?_ a3, fun hz => ⟨by omega, ?_⟩⟩
      · rw [show adN x L (k + 1) = adT (adN x L k) (byt x (56 - 8 * k)) from rfl]
        unfold adT
        rw [if_neg (by omega)]
        exact a2
      · rw [nar_8 _ (by unfold okS at ok; omega), rI_ne (by omega), a2.1, n32_al]
        refine fin _ ?_ ((a3.wI ⟨rfl, Or.inr rfl⟩).wI ⟨rfl, Or.inl ⟨rfl, rfl⟩⟩)
        rw [show adN x L (k + 1) = adT (adN x L k) (byt x (56 - 8 * k)) from rfl]
        unfold adT
        rw [if_pos ⟨ok, by omega⟩]
        exact snoc_c a2 (by omega)
    have bad : ¬ okS (byt x (56 - 8 * k)) → tpC m1 (adN x L (k + 1)) := by
      intro no
      rw [show adN x L (k + 1) = adT (adN x L k) (byt x (56 - 8 * k)) from rfl]
      unfold adT
      rw [if_neg (fun z => no z.1)]
      exact a2
    rw [pw_let, q3, byt_c (by omega), ← q3]
    simp (disch := omega) only [pw_if, n32_eqL]
    refine ⟨fun z => gd (Or.inl z), fun z => ?_⟩
    rw [pc_within, pw_bo, pw_some]
    simp (disch := omega) only [n32_Lle, n32_le]
    rw [show (126 : Int32) = n32 126 from rfl]
    simp (disch := omega) only [n32_le]
    by_cases g : 32 ≤ byt x (56 - 8 * k) ∧ byt x (56 - 8 * k) ≤ 126
    · rw [if_pos g, if_neg (by decide)]
      exact gd (Or.inr g)
    · rw [if_neg g, if_pos rfl]
      exact fin m1 (bad (fun o => o.elim z g)) a3
theorem pm_lay {x : Int64} {m : mi_M} {L : List Nat} (h : tpM m L) (hL : okL L) : wo (f_X12_lay x m) (fun m' => tpM m' (adN x L 8) ∧ kp (fun k i p => i = 0 ∧ (k = 12 ∧ p = 2 ∨ k = 51)) m m') := by
  unfold f_X12_lay
  rw [pw_bo]
  refine pl_for (fun k s => s.1 = lb8 k ∧ tpM s.2 (adN x L k) ∧ kp (fun k i p => i = 0 ∧ (k = 12 ∧ p = 2 ∨ k = 51)) m s.2) 8 (by omega) ⟨rfl, h, kp.rf⟩ ?_
  rintro k ⟨l, m1⟩ hk ⟨a1, a2, a3⟩
  simp only at a1 a2 a3
  subst a1
  unfold f_X12_lay_B3
  simp only [pw_if, pw_some, lr_r]
  by_cases e8 : k = 8
  · subst e8
    refine ⟨fun _ => ?_, fun x => absurd (by decide) x⟩
    unfold f_X12_lay_K3
    rw [pw_some]
    exact ⟨a2, a3⟩
  · have hk : k < 8 := by omega
    obtain ⟨q1, q2, q3⟩ := lb8_s k hk
    refine ⟨fun x => absurd x q2, fun _ => ?_⟩
    have hs := byt_lt x (56 - 8 * k)
    have fin : ∀ m2, tpM m2 (adN x L (k + 1)) → kp (fun k i p => i = 0 ∧ (k = 12 ∧ p = 2 ∨ k = 51)) m m2 → wo (f_X12_lay_J69 (lb8 k) m2) (lr (fun s' => k < 8 ∧ s'.1 = lb8 (k + 1) ∧ tpM s'.2 (adN x L (k + 1)) ∧ kp (fun k i p => i = 0 ∧ (k = 12 ∧ p = 2 ∨ k = 51)) m s'.2) (fun e => wo (f_X12_lay_K3 e) (fun m' => tpM m' (adN x L 8) ∧ kp (fun k i p => i = 0 ∧ (k = 12 ∧ p = 2 ∨ k = 51)) m m'))) := by
      intro m2 b1 b2
      unfold f_X12_lay_J69
      rw [pw_some, lr_l]
      exact ⟨hk, q1, b1, b2⟩
    have hL1 := adN_ok (x := x) hL k
    have gd : okS (byt x (56 - 8 * k)) → wo (f_X12_lay_J38 (lb8 k) m1 (n32 (byt x (56 - 8 * k)))) (lr (fun s' => k < 8 ∧ s'.1 = lb8 (k + 1) ∧ tpM s'.2 (adN x L (k + 1)) ∧ kp (fun k i p => i = 0 ∧ (k = 12 ∧ p = 2 ∨ k = 51)) m s'.2) (fun e => wo (f_X12_lay_K3 e) (fun m' => tpM m' (adN x L 8) ∧ kp (fun k i p => i = 0 ∧ (k = 12 ∧ p = 2 ∨ k = 51)) m m'))) := by
      intro ok
      have h0 := hL1.1
      unfold f_X12_lay_J38
      rw [a2.1]
      simp (disch := omega) only [pw_if, n32_Lle, pw_g, pw_let, n32_in, n32_cl]
      refine ⟨fun hz => fin m1 ?_ a3, fun hz => ⟨by omega, ?_⟩⟩
      · rw [show adN x L (k + 1) = adT (adN x L k) (byt x (56 - 8 * k)) from rfl]
        unfold adT
        rw [if_neg (by omega)]
        exact a2
      · rw [rI_ne (by omega), a2.1, n32_al]
        refine fin _ ?_ ((a3.wI ⟨rfl, Or.inr rfl⟩).wI ⟨rfl, Or.inl ⟨rfl, rfl⟩⟩)
        rw [show adN x L (k + 1) = adT (adN x L k) (byt x (56 - 8 * k)) from rfl]
        unfold adT
        rw [if_pos ⟨ok, by omega⟩]
        exact snoc_m a2 (by omega)
    have bad : ¬ okS (byt x (56 - 8 * k)) → tpM m1 (adN x L (k + 1)) := by
      intro no
      rw [show adN x L (k + 1) = adT (adN x L k) (byt x (56 - 8 * k)) from rfl]
      unfold adT
      rw [if_neg (fun z => no z.1)]
      exact a2
    rw [pw_let, q3, byt_r (by omega), ← q3]
    simp (disch := omega) only [pw_if, n32_eqL, n32_Llt, n32_ltL]
    refine ⟨fun z => gd (Or.inl z), fun z => ⟨fun z2 => fin m1 (bad (fun o => by unfold okS at o; omega)) a3, fun z2 => ⟨fun z3 => fin m1 (bad (fun o => by unfold okS at o; omega)) a3, fun z3 => gd (Or.inr ⟨by omega, by omega⟩)⟩⟩⟩
theorem pTape.out {m : mi_M} (h : pTape m) : ∃ L, okL L ∧ tpC m L ∧ tpM m L := by
  obtain ⟨n, h1, h2, h3, h4⟩ := h
  have : ∃ f : Nat → Nat, ∀ i, i < n → okS (f i) ∧ m.1 37 0 i = n32 (f i) ∧ m.1 51 0 i = n32 (f i) := by
    refine ⟨fun i => if hi : i < n then (h4 i hi).choose else 0, fun i hi => ?_⟩
    simp only [dif_pos hi]
    exact (h4 i hi).choose_spec
  obtain ⟨f, hf⟩ := this
  refine ⟨(List.range n).map f, ⟨by simp; exact h1, fun s hs => ?_⟩, ⟨by simp; exact h2, fun i hi => ?_⟩, ⟨by simp; exact h3, fun i hi => ?_⟩⟩
  · obtain ⟨i, x1, x2⟩ := List.mem_map.mp hs
    rw [← x2]
    exact (hf i (List.mem_range.mp x1)).1
  · simp at hi ⊢; exact (hf i hi).2.1
  · simp at hi ⊢; exact (hf i hi).2.2
theorem pTape.mk {m : mi_M} {L : List Nat} (h : okL L) (hc : tpC m L) (hm : tpM m L) : pTape m :=
  ⟨L.length, h.1, hc.1, hm.1, fun i hi => ⟨L[i], h.2 _ (List.getElem_mem hi), hc.2 i hi, hm.2 i hi⟩⟩
theorem tpC.mv {m m' : mi_M} {L : List Nat} {P : Nat → Nat → Nat → Prop} (h : tpC m L) (hk : kp P m m') (hp : ∀ p, ¬ P 37 0 p) (h6 : ¬ P 6 0 0) : tpC m' L :=
  ⟨by rw [hk.1 6 0 0 h6]; exact h.1, fun i hi => by rw [hk.1 37 0 i (hp i)]; exact h.2 i hi⟩
theorem tpM.mv {m m' : mi_M} {L : List Nat} {P : Nat → Nat → Nat → Prop} (h : tpM m L) (hk : kp P m m') (hp : ∀ p, ¬ P 51 0 p) (h6 : ¬ P 12 0 2) : tpM m' L :=
  ⟨by rw [hk.1 12 0 2 h6]; exact h.1, fun i hi => by rw [hk.1 51 0 i (hp i)]; exact h.2 i hi⟩
theorem po_feed : ob_feed Rel := by
  rintro a0 a1 a2 mem ⟨T, cd, c, y, hR⟩
  obtain ⟨h1, h2, h3, h4, h5, h6, h7, h8, h9, h10⟩ := id hR
  obtain ⟨L, l1, l2, l3⟩ := h4.out
  have L1 := adN_ok (x := a0) l1 8
  have L2 := adN_ok (x := a1) L1 8
  have L3 := adN_ok (x := a2) L2 8
  obtain ⟨m1, e1, x1, y1⟩ := pc_append (x := a0) l2 l1
  obtain ⟨m2, e2, x2, y2⟩ := pc_append (x := a1) x1 L1
  obtain ⟨m3, e3, x3, y3⟩ := pc_append (x := a2) x2 L2
  have kc := (y1.tr y2).tr y3
  have kw : kp (fun k i p => k = 12 ∧ i = 0 ∧ p = 0) m3 (mi_wI m3 12 0 0 0) := kp.rf.wI ⟨rfl, rfl, rfl⟩
  have t3 : tpM (mi_wI m3 12 0 0 0) L := (l3.mv kc (fun p x => by omega) (by omega)).mv kw (fun p x => by omega) (by omega)
  obtain ⟨m4, e4, x4, y4⟩ := pm_lay (x := a0) t3 l1
  obtain ⟨m5, e5, x5, y5⟩ := pm_lay (x := a1) x4 L1
  obtain ⟨m6, e6, x6, y6⟩ := pm_lay (x := a2) x5 L2
  have km := (y4.tr y5).tr y6
  have kk : kp (fun k i p => i = 0 ∧ (k = 6 ∧ p = 0 ∨ k = 37 ∨ k = 12 ∧ (p = 0 ∨ p = 2) ∨ k = 51)) mem m6 := ((kc.mo (fun k i p a => by omega)).tr (kw.mo (fun k i p a => by omega))).tr (km.mo (fun k i p a => by omega))
  refine ⟨n32 (adN a2 (adN a1 (adN a0 L 8) 8) 8).length, m3, m6, ?_, ?_, T, cd, c, y, ?_⟩
  · unfold f_X11_feed
    rw [e1, pe_bo, e2, pe_bo, e3, pe_bo, x3.1]
  · unfold f_X12_feed
    rw [pe_let, e4, pe_bo, e5, pe_bo, e6, pe_bo, x6.1]
  · have t6 := (x3.mv kw (fun p x => by omega) (by omega)).mv km (fun p x => by omega) (by omega)
    exact ⟨h1.mv kk (by omega), h2.mv kk (fun k i p a b => by unfold cTk at b; omega), h3.mv kk (fun k i p a b d => by omega), pTape.mk L3 t6 x6, h5.mv kk (fun i p a => by omega), h6.mv kk (fun k i p a b => by omega), h7.mv kk (fun k i p a b => by omega), h8.mv kk (fun k i p a b => by omega), h9.mv kk (fun k i p a b => by omega), h10.mv kk (fun k i p a b => by omega)⟩
