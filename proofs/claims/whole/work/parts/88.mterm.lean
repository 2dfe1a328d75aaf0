/-! ===== the reference's terms ===== -/
abbrev kE (q k i p : Nat) : Prop := i = 0 ∧ (k = 12 ∧ (p = 7 ∨ p = 8 ∨ p = 13) ∨ (k = 57 ∨ k = 58) ∧ 1100 + q ≤ p)
def emC (m : mi_M) (q : Nat) (l : List Int32) : Prop := m.1 12 0 13 = n32 (q + l.length) ∧ ∀ k (h : k < l.length), m.1 57 0 (1100 + (q + k)) = (opc l[k]).1 ∧ m.1 58 0 (1100 + (q + k)) = (opc l[k]).2
theorem emC.app {m1 m2 : mi_M} {q : Nat} {c1 c2 : List Int32} (h1 : emC m1 q c1) (h2 : emC m2 (q + c1.length) c2) (hk : kp (fun k i p => kE (q + c1.length) k i p) m1 m2) : emC m2 q (c1 ++ c2) := by
  refine ⟨by rw [h2.1, List.length_append, Nat.add_assoc], fun k hk2 => ?_⟩
  by_cases x : k < c1.length
  · rw [List.getElem_append_left x, hk.1 57 0 _ (by omega), hk.1 58 0 _ (by omega)]
    exact h1.2 k x
  · rw [List.length_append] at hk2
    rw [List.getElem_append_right (by omega)]
    have := h2.2 (k - c1.length) (by omega)
    rw [show q + c1.length + (k - c1.length) = q + k by omega] at this
    exact this
theorem pm_emit {m : mi_M} {q : Nat} {a b : Int32} (h : m.1 12 0 13 = n32 q) (hq : q < 1100) : wo (f_X12_emit a b m) (fun m' => m'.1 12 0 13 = n32 (q + 1) ∧ m'.1 57 0 (1100 + q) = a ∧ m'.1 58 0 (1100 + q) = b ∧ kp (fun k i p => i = 0 ∧ (k = 12 ∧ p = 13 ∨ (k = 57 ∨ k = 58) ∧ p = 1100 + q)) m m') := by
  unfold f_X12_emit
  have e1 : (mi_wI (mi_wI m 57 0 (1100 + q) a) 58 0 (1100 + q) b).1 12 0 13 = n32 q := by rw [rI_ne (by omega), rI_ne (by omega)]; exact h
  rw [h, n32_la, pw_g, pw_let, n32_cl (by omega), rI_ne (by omega), h, n32_la, pw_g, pw_let, n32_cl (by omega), pw_let, e1, n32_al, pw_some, n32_in (by omega)]
  refine ⟨by omega, by omega, rI_eq, ?_, ?_, ((kp.rf.wI ⟨rfl, by omega⟩).wI ⟨rfl, by omega⟩).wI ⟨rfl, by omega⟩⟩
  · rw [rI_ne (by omega), rI_ne (by omega), rI_eq]
  · rw [rI_ne (by omega), rI_eq]
theorem emC.put {m : mi_M} {q : Nat} {s a b : Int32} {c1 : List Int32} (h : emC m q c1) (hq : q + c1.length < 1100) (hs : opc s = (a, b)) : wo (f_X12_emit a b m) (fun m' => emC m' q (c1 ++ [s]) ∧ kp (fun k i p => i = 0 ∧ (k = 12 ∧ p = 13 ∨ (k = 57 ∨ k = 58) ∧ p = 1100 + (q + c1.length))) m m') := by
  refine pw_mono (pm_emit h.1 hq) ?_
  rintro m' ⟨a1, a2, a3, a4⟩
  refine ⟨h.app (c2 := [s]) ⟨a1, fun k hk => ?_⟩ (a4.mo (fun k i p a => by omega)), a4⟩
  have hk : k < 1 := hk
  have : k = 0 := by omega
  subst this
  show _ = (opc s).1 ∧ _ = (opc s).2
  rw [hs]
  exact ⟨a2, a3⟩
def tM (L : List Nat) (c n q : Nat) (m : mi_M) (r : (Nat × Nat) ⊕ (Nat × List Int32)) (m' : mi_M) : Prop := (∀ k nf, r = .inl (k, nf) → rS m' L c nf (k + 16 * plT L nf) ∧ ∃ q', q ≤ q' ∧ q' ≤ q + (nf - n) ∧ m'.1 12 0 13 = n32 q') ∧ (∀ n1 c1, r = .inr (n1, c1) → rS m' L c n1 0 ∧ emC m' q c1) ∧ kp (fun k i p => kE q k i p) m m'
theorem tM_l {L : List Nat} {c n q k nf : Nat} {m m' : mi_M} (h1 : rS m' L c nf (k + 16 * plT L nf)) (h2 : ∃ q', q ≤ q' ∧ q' ≤ q + (nf - n) ∧ m'.1 12 0 13 = n32 q') (h3 : kp (fun k i p => kE q k i p) m m') : tM L c n q m (.inl (k, nf)) m' := by
  refine ⟨fun k' nf' z => ?_, fun n1 c1 z => (by cases z), h3⟩
  have z := Sum.inl.inj z
  have e1 : k = k' := congrArg Prod.fst z
  have e2 : nf = nf' := congrArg Prod.snd z
  subst e1 e2
  exact ⟨h1, h2⟩
theorem tM_r {L : List Nat} {c n q n1 : Nat} {c1 : List Int32} {m m' : mi_M} (h1 : rS m' L c n1 0) (h2 : emC m' q c1) (h3 : kp (fun k i p => kE q k i p) m m') : tM L c n q m (.inr (n1, c1)) m' := by
  refine ⟨fun k' nf' z => (by cases z), fun n1' c1' z => ?_, h3⟩
  have z := Sum.inr.inj z
  have e1 : n1 = n1' := congrArg Prod.fst z
  have e2 : c1 = c1' := congrArg Prod.snd z
  subst e1 e2
  exact ⟨h1, h2⟩
theorem tM.app {L : List Nat} {c n q n1 : Nat} {c1 : List Int32} {m m1 m' : mi_M} {r2 r : (Nat × Nat) ⊕ (Nat × List Int32)} (h1 : emC m1 q c1) (hk : kp (fun k i p => kE q k i p) m m1) (h2 : tM L c n1 (q + c1.length) m1 r2 m') (hn : ∀ k nf, r2 = .inl (k, nf) → n1 ≤ nf) (hl1 : c1.length ≤ n1 - n) (hn1 : n ≤ n1) (hl : ∀ x, r2 = .inl x → r = .inl x) (hr : ∀ n2 c2, r2 = .inr (n2, c2) → r = .inr (n2, c1 ++ c2)) : tM L c n q m r m' := by
  have kk : kp (fun k i p => kE q k i p) m m' := hk.tr (h2.2.2.mo (fun k i p a => by omega))
  match r2, h2, hn, hl, hr with
  | .inl (k, nf), h2, hn, hl, _ =>
    rw [hl _ rfl]
    obtain ⟨a1, q', a2, a3, a4⟩ := h2.1 k nf rfl
    have := hn k nf rfl
    exact tM_l a1 ⟨q', by omega, by omega, a4⟩ kk
  | .inr (n2, c2), h2, _, _, hr =>
    rw [hr _ _ rfl]
    obtain ⟨a1, a2⟩ := h2.2.1 n2 c2 rfl
    exact tM_r a1 (h1.app a2 h2.2.2) kk
theorem pm_isSign0 {m : mi_M} {L : List Nat} {c n ch : Nat} (h : rS m L c n 0) (hL : tkN L c) (hc : ch < 127) : f_X12_isSign (n32 ch) m = some (if kD L n = 4 ∧ vL L n = ch then 1 else 0) := by
  rw [pm_isSign h hL hc]
  simp only [true_and]
theorem pm_isWord0 {m : mi_M} {L : List Nat} {c n w : Nat} (h : rS m L c n 0) (hL : tkN L c) (hw : w < 26) : f_X12_isWord (n32 w) m = some (if wX L n = w then 1 else 0) := by
  rw [pm_isWord h hL hw]
  simp only [true_and]
/-- the reference's five -/
noncomputable def md5 (g md : Nat) : Int32 → mi_M → Option mi_M := if md = 0 then (fg_X12_all g).1 else if md = 1 then (fg_X12_all g).2.2.2.2 else if md = 2 then (fg_X12_all g).2.2.1 else if md = 3 then (fg_X12_all g).2.1 else (fg_X12_all g).2.2.2.1
noncomputable def bdM (g q : Nat) : Int32 → mi_M → Option (mi_M ⊕ mi_M) := if q = 0 then f_X12_all_B5 (fg_X12_all g) else if q = 2 then f_X12_sums_B5 (fg_X12_all g) else f_X12_products_B5 (fg_X12_all g)
noncomputable def tsM (g : Nat) (p0 : Int32) (m1 : mi_M) : Option mi_M := mi_bo (f_X12_isSign (60 : Int32) m1) fun v2 => mi_b (f_X12_hasSign (60 : Int32) m1) fun v3 m4 => if v3 = 0 then mi_b (f_X12_hasSign (61 : Int32) m4) fun v11 m12 => if v11 = 0 then f_X12_test_J51 m12 else f_X12_test_J30 (fg_X12_all g) p0 v2 m12 else f_X12_test_J30 (fg_X12_all g) p0 v2 m4
noncomputable def lpM (g q : Nat) (d : Int32) (fu : Nat) (m : mi_M) : Option mi_M := if q = 1 then tsM g d m else mi_lp (bdM g q d) fu m
theorem bd_exit {L : List Nat} {c g q n v : Nat} {d : Int32} {m : mi_M} (hq : q = 0 ∨ q = 2 ∨ q = 3) (h : rS m L c n v) (hL : tkN L c) (hv : v ≠ 0 ∨ jo L q n = 0) : wo (bdM g q d m) (fun x => ∃ m', x = .inr m' ∧ rP L c m (n, v) m') := by
  rcases hq with rfl | rfl | rfl
  · unfold bdM f_X12_all_B5
    rw [if_pos rfl]
    have a1 : ¬ (v = 0 ∧ wX L n = 21) := fun x => by
      rcases hv with y | y
      · exact y x.1
      · unfold jo at y
        rw [if_pos rfl, if_pos x.2] at y
        exact absurd y (by decide)
    have a2 : ¬ (v = 0 ∧ wX L n = 22) := fun x => by
      rcases hv with y | y
      · exact y x.1
      · unfold jo at y
        rw [if_pos rfl, if_neg (by omega), if_pos x.2] at y
        exact absurd y (by decide)
    rw [show f_X12_isWord 21 m = _ from pm_isWord (w := 21) h hL (by decide), pe_bo, if_neg a1, if_pos rfl, show f_X12_isWord 22 m = _ from pm_isWord (w := 22) h hL (by decide), pe_bo, if_neg a2, if_pos rfl, pw_some]
    exact ⟨m, rfl, rp_id h⟩
  · unfold bdM f_X12_sums_B5
    rw [if_neg (by decide), if_pos rfl]
    have a1 : ¬ (v = 0 ∧ kD L n = 4 ∧ vL L n = 43) := fun x => by
      rcases hv with y | y
      · exact y x.1
      · unfold jo at y
        rw [if_neg (by decide), if_neg (by decide), if_pos rfl, if_pos x.2] at y
        exact absurd y (by decide)
    have a2 : ¬ (v = 0 ∧ kD L n = 4 ∧ vL L n = 45) := fun x => by
      rcases hv with y | y
      · exact y x.1
      · unfold jo at y
        rw [if_neg (by decide), if_neg (by decide), if_pos rfl, if_neg (by omega), if_pos x.2] at y
        exact absurd y (by decide)
    rw [show f_X12_isSign 43 m = _ from pm_isSign (ch := 43) h hL (by decide), pe_bo, if_neg a1, if_pos rfl, show f_X12_isSign 45 m = _ from pm_isSign (ch := 45) h hL (by decide), pe_bo, if_neg a2, if_pos rfl, pw_some]
    exact ⟨m, rfl, rp_id h⟩
  · unfold bdM f_X12_products_B5
    rw [if_neg (by decide), if_neg (by decide), pw_b]
    have a1 : ¬ (v = 0 ∧ kD L n = 4 ∧ vL L n = 42) := fun x => by
      rcases hv with y | y
      · exact y x.1
      · unfold jo at y
        rw [if_neg (by decide), if_neg (by decide), if_neg (by decide), if_pos x.2] at y
        exact absurd y (by decide)
    refine pw_mono (show wo (f_X12_hasSign 42 m) _ from pm_hasSign (ch := 42) h hL (by decide)) ?_
    rintro ⟨r, m1⟩ ⟨b1, b2⟩
    simp only at b1 b2
    rw [if_neg a1] at b1 b2
    rw [if_pos b1, pw_some]
    exact ⟨m1, rfl, b2⟩
theorem ts_exit {L : List Nat} {c g n v : Nat} {d : Int32} {m : mi_M} (h : rS m L c n v) (hL : tkN L c) (hv : v ≠ 0 ∨ jo L 1 n = 0) : wo (tsM g d m) (fun m' => rP L c m (n, v) m') := by
  have a1 : ¬ (v = 0 ∧ kD L n = 4 ∧ vL L n = 60) := fun x => by
    rcases hv with y | y
    · exact y x.1
    · unfold jo at y
      rw [if_neg (by decide), if_pos rfl, if_pos x.2] at y
      exact absurd y (by decide)
  have a2 : ¬ (v = 0 ∧ kD L n = 4 ∧ vL L n = 61) := fun x => by
    rcases hv with y | y
    · exact y x.1
    · unfold jo at y
      rw [if_neg (by decide), if_pos rfl, if_neg (by omega), if_pos x.2] at y
      exact absurd y (by decide)
  unfold tsM
  rw [show f_X12_isSign 60 m = _ from pm_isSign (ch := 60) h hL (by decide), pe_bo, pw_b]
  refine pw_mono (show wo (f_X12_hasSign 60 m) _ from pm_hasSign (ch := 60) h hL (by decide)) ?_
  rintro ⟨r, m1⟩ ⟨b1, b2⟩
  simp only at b1 b2
  rw [if_neg a1] at b1 b2
  rw [if_pos b1, pw_b]
  refine pw_mono (show wo (f_X12_hasSign 61 m1) _ from pm_hasSign (ch := 61) b2.1 hL (by decide)) ?_
  rintro ⟨r2, m2⟩ ⟨e1, e2⟩
  simp only at e1 e2
  rw [if_neg a2] at e1 e2
  rw [if_pos e1]
  unfold f_X12_test_J51
  rw [pw_some]
  exact b2.tr e2
theorem lp_exit {L : List Nat} {c g q n v fu : Nat} {d : Int32} {m : mi_M} (hq : q < 4) (h : rS m L c n v) (hL : tkN L c) (hv : v ≠ 0 ∨ jo L q n = 0) (hf : 1 ≤ fu) : wo (lpM g q d fu m) (fun m' => rP L c m (n, v) m') := by
  unfold lpM
  by_cases q1 : q = 1
  · subst q1
    rw [if_pos rfl]
    exact ts_exit h hL hv
  · rw [if_neg q1]
    obtain ⟨fu', rfl⟩ : ∃ fu', fu = fu' + 1 := ⟨fu - 1, by omega⟩
    apply pl_one
    refine pw_mono (bd_exit (by omega) h hL hv) ?_
    rintro x ⟨m', rfl, hx⟩
    exact hx
theorem bd_step {L : List Nat} {c g q n : Nat} {d : Int32} {m : mi_M} {Q : mi_M ⊕ mi_M → Prop} (hq : q = 0 ∨ q = 2 ∨ q = 3) (h : rS m L c n 0) (hL : tkN L c) (hj : jo L q n ≠ 0) (hQ : ∀ m1, rP L c m (n + 1, 0) m1 → wo (mi_bo (md5 g (q + 1) d m1) fun m7 => f_X12_emit (opc (jo L q n)).1 (opc (jo L q n)).2 m7) (fun m9 => Q (.inl m9))) : wo (bdM g q d m) Q := by
  have nc := hL.k h.2.2.1 (jo_ok hj).1
  have r1 := rp_at h (show n + 1 ≤ c by omega)
  rcases hq with rfl | rfl | rfl
  · unfold bdM f_X12_all_B5 f_X12_all_J23 f_X12_all_J57
    rw [if_pos rfl]
    rw [show f_X12_isWord 21 m = _ from pm_isWord0 (w := 21) h hL (by decide), show f_X12_isWord 22 m = _ from pm_isWord0 (w := 22) h hL (by decide), pe_bo]
    have hQ := hQ _ r1
    unfold jo at hQ hj
    rw [if_pos rfl] at hQ hj
    by_cases a : wX L n = 21
    · rw [if_pos a] at hQ
      rw [if_pos a, if_neg (by decide), pe_bo, pw_let, pw_bo]
      rw [pw_bo] at hQ
      refine pw_mono hQ ?_
      intro m7 h7
      rw [if_neg (by decide), pw_bo]
      exact pw_mono h7 (fun m9 h9 => pw_some.mpr h9)
    · rw [if_neg a] at hQ hj
      by_cases b : wX L n = 22
      · rw [if_pos b] at hQ
        rw [if_neg a, if_pos rfl, pe_bo, if_pos b, if_neg (by decide), pe_bo, pw_let, pw_bo]
        rw [pw_bo] at hQ
        refine pw_mono hQ ?_
        intro m7 h7
        rw [if_pos rfl, pw_bo]
        exact pw_mono h7 (fun m9 h9 => pw_some.mpr h9)
      · rw [if_neg b] at hj
        exact absurd rfl hj
  · unfold bdM f_X12_sums_B5 f_X12_sums_J23 f_X12_sums_J55
    rw [if_neg (by decide), if_pos rfl]
    rw [show f_X12_isSign 43 m = _ from pm_isSign0 (ch := 43) h hL (by decide), show f_X12_isSign 45 m = _ from pm_isSign0 (ch := 45) h hL (by decide), pe_bo]
    have hQ := hQ _ r1
    unfold jo at hQ hj
    rw [if_neg (by decide), if_neg (by decide), if_pos rfl] at hQ hj
    by_cases a : kD L n = 4 ∧ vL L n = 43
    · rw [if_pos a] at hQ
      rw [if_pos a, if_neg (by decide), pe_bo, pw_let, pw_bo]
      rw [pw_bo] at hQ
      refine pw_mono hQ ?_
      intro m7 h7
      rw [if_neg (by decide), pw_bo]
      exact pw_mono h7 (fun m9 h9 => pw_some.mpr h9)
    · rw [if_neg a] at hQ hj
      by_cases b : kD L n = 4 ∧ vL L n = 45
      · rw [if_pos b] at hQ
        rw [if_neg a, if_pos rfl, pe_bo, if_pos b, if_neg (by decide), pe_bo, pw_let, pw_bo]
        rw [pw_bo] at hQ
        refine pw_mono hQ ?_
        intro m7 h7
        rw [if_pos rfl, pw_bo]
        exact pw_mono h7 (fun m9 h9 => pw_some.mpr h9)
      · rw [if_neg b] at hj
        exact absurd rfl hj
  · unfold bdM f_X12_products_B5
    rw [if_neg (by decide), if_neg (by decide), pw_b]
    unfold jo at hQ hj
    rw [if_neg (by decide), if_neg (by decide), if_neg (by decide)] at hj
    by_cases a : kD L n = 4 ∧ vL L n = 42
    · refine pw_mono (show wo (f_X12_hasSign 42 m) _ from pm_hasSign (ch := 42) h hL (by decide)) ?_
      rintro ⟨r, m1⟩ ⟨b1, b2⟩
      simp only [true_and] at b1 b2
      rw [if_pos a] at b1 b2
      have hQ := hQ _ b2
      rw [if_neg (by decide), if_neg (by decide), if_neg (by decide), if_pos a, pw_bo] at hQ
      dsimp only
      rw [b1, if_neg (by decide), pw_bo]
      refine pw_mono hQ ?_
      intro m7 h7
      rw [pw_bo]
      exact pw_mono h7 (fun m9 h9 => pw_some.mpr h9)
    · rw [if_neg a] at hj
      exact absurd rfl hj
theorem ts_step {L : List Nat} {c g n : Nat} {d : Int32} {m : mi_M} {Q : mi_M → Prop} (h : rS m L c n 0) (hL : tkN L c) (hj : jo L 1 n ≠ 0) (hQ : ∀ m1, rP L c m (n + 1, 0) m1 → wo (mi_bo (md5 g 2 d m1) fun m7 => f_X12_emit (opc (jo L 1 n)).1 (opc (jo L 1 n)).2 m7) Q) : wo (tsM g d m) Q := by
  unfold tsM f_X12_test_J30 f_X12_test_J47 f_X12_test_J51
  rw [show f_X12_isSign 60 m = _ from pm_isSign0 (ch := 60) h hL (by decide), pe_bo, pw_b]
  unfold jo at hQ hj
  rw [if_neg (by decide), if_pos rfl] at hj
  refine pw_mono (show wo (f_X12_hasSign 60 m) _ from pm_hasSign (ch := 60) h hL (by decide)) ?_
  rintro ⟨r, m1⟩ ⟨b1, b2⟩
  simp only [true_and] at b1 b2
  dsimp only
  rw [b1]
  by_cases a : kD L n = 4 ∧ vL L n = 60
  · rw [if_pos a] at b2
    have hQ := hQ _ b2
    rw [if_neg (by decide), if_pos rfl, if_pos a, pw_bo] at hQ
    rw [if_pos a, if_neg (by decide), pw_bo]
    refine pw_mono hQ ?_
    intro m7 h7
    rw [if_neg (by decide), pw_bo]
    exact pw_mono h7 (fun m9 h9 => pw_some.mpr h9)
  · rw [if_neg a] at b2 hj
    rw [if_neg a, if_pos rfl, pw_b]
    refine pw_mono (show wo (f_X12_hasSign 61 m1) _ from pm_hasSign (ch := 61) b2.1 hL (by decide)) ?_
    rintro ⟨r2, m2⟩ ⟨e1, e2⟩
    simp only [true_and] at e1 e2
    dsimp only
    rw [e1]
    by_cases b : kD L n = 4 ∧ vL L n = 61
    · rw [if_pos b] at e2
      have hQ := hQ _ (b2.tr e2)
      rw [if_neg (by decide), if_pos rfl, if_neg a, if_pos b, pw_bo] at hQ
      rw [if_pos b, if_neg (by decide), pw_bo]
      refine pw_mono hQ ?_
      intro m7 h7
      rw [if_pos rfl, pw_bo]
      exact pw_mono h7 (fun m9 h9 => pw_some.mpr h9)
    · rw [if_neg b] at hj
      exact absurd rfl hj
