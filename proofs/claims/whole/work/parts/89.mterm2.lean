theorem tM.pre {L : List Nat} {c n q : Nat} {m m1 m' : mi_M} {r : (Nat × Nat) ⊕ (Nat × List Int32)} (h : tM L c n q m1 r m') (hk : kp (fun k i p => kE q k i p) m m1) : tM L c n q m r m' := ⟨h.1, h.2.1, hk.tr h.2.2⟩
def rmp (r : (Nat × Nat) ⊕ (Nat × List Int32)) (s : Int32) : (Nat × Nat) ⊕ (Nat × List Int32) :=
  match r with
  | .inl e => .inl e
  | .inr (n1, c1) => .inr (n1, c1 ++ [s])
def rA (L : List Nat) (c f : Nat) : Prop := ∀ (md d n : Nat) (r : (Nat × Nat) ⊕ (Nat × List Int32)) (m : mi_M) (q g : Nat), md ≤ 4 → d ≤ 5 → n ≤ c → pt L f md d n = some r → rS m L c n 0 → m.1 12 0 13 = n32 q → q ≤ n → 5 * (5 - d) + 5 - md ≤ g → wo (md5 g md (n32 d) m) (tM L c n q m r)
def rC (L : List Nat) (c f : Nat) : Prop := ∀ (qq d n : Nat) (r : (Nat × Nat) ⊕ (Nat × List Int32)) (m : mi_M) (q g fu : Nat), qq < 4 → d ≤ 5 → n ≤ c → pt L f (qq + 5) d n = some r → rS m L c n 0 → m.1 12 0 13 = n32 q → q ≤ n → 5 * (5 - d) + 4 - qq ≤ g → c - n + 2 ≤ fu → wo (lpM g qq (n32 d) fu m) (tM L c n q m r)
theorem rS.em {m m' : mi_M} {L : List Nat} {c n v x : Nat} (h : rS m L c n v) (hk : kp (fun k i p => i = 0 ∧ (k = 12 ∧ p = 13 ∨ (k = 57 ∨ k = 58) ∧ p = x)) m m') : rS m' L c n v := h.mv hk (by omega) (by omega) (fun p => by omega) (fun i p a => by omega)
theorem pm_opnd {L : List Nat} {c f md d n q g : Nat} {r1 : (Nat × Nat) ⊕ (Nat × List Int32)} {m1 : mi_M} {s a b : Int32} (hL : tkN L c) (i1 : rA L c f) (hm : md ≤ 4) (hd : d ≤ 5) (hn : n + 1 ≤ c) (hp : pt L f md d (n + 1) = some r1) (h : rS m1 L c (n + 1) 0) (hq : m1.1 12 0 13 = n32 q) (hqn : q ≤ n) (hg : 5 * (5 - d) + 5 - md ≤ g) (hs : opc s = (a, b)) : wo (mi_bo (md5 g md (n32 d) m1) fun m7 => f_X12_emit a b m7) (tM L c n q m1 (rmp r1 s)) := by
  have hc := hL.c
  have ob := (pt_b hL f).1 _ _ _ _ hm hd hn hp
  rw [pw_bo]
  refine pw_mono (i1 md d (n + 1) r1 m1 q g hm hd hn hp h hq (by omega) hg) ?_
  intro m7 h7
  match r1, ob, h7 with
  | .inl (k, nf), ob, h7 =>
    obtain ⟨o1, o2, o3, o4⟩ := ob.1 k nf rfl
    obtain ⟨a1, q', a2, a3, a4⟩ := h7.1 k nf rfl
    refine pw_mono (pm_emit a4 (by omega)) ?_
    rintro m9 ⟨b1, b2, b3, b4⟩
    exact tM_l (a1.em b4) ⟨q' + 1, by omega, by omega, b1⟩ (h7.2.2.tr (b4.mo (fun k i p a => by omega)))
  | .inr (n1, c1), ob, h7 =>
    obtain ⟨o1, o2, o3, o4, o5⟩ := ob.2 n1 c1 rfl
    obtain ⟨a1, a2⟩ := h7.2.1 n1 c1 rfl
    refine pw_mono (a2.put (by omega) hs) ?_
    rintro m9 ⟨b1, b2⟩
    exact tM_r (a1.em b2) b1 (h7.2.2.tr (b2.mo (fun k i p a => by omega)))
theorem pm_loop1 {L : List Nat} {c f : Nat} (hL : tkN L c) (i1 : rA L c f) (i3 : rC L c f) : rC L c (f + 1) := by
  intro qq d n r m q g fu hq h2 h3 h hr hu hqn hg hf
  have hc := hL.c
  rw [pt_l] at h
  by_cases j : jo L qq n = 0
  · rw [if_pos j] at h
    rw [← Option.some.inj h]
    refine pw_mono (lp_exit hq hr hL (Or.inr j) (by omega)) ?_
    intro m' hm
    exact tM_r hm.1 ⟨by rw [hm.2.1 12 0 13 (by omega)]; exact hu, fun k hk => absurd hk (Nat.not_lt_zero _)⟩ (hm.2.mo (fun k i p a => by omega))
  · rw [if_neg j] at h
    have nc := hL.k h3 (jo_ok j).1
    have gd : ∀ m1, rP L c m (n + 1, 0) m1 → ∃ r1, pt L f (qq + 1) d (n + 1) = some r1 ∧ (∀ x, r1 = .inl x → r = .inl x) ∧ (qq = 1 → r = rmp r1 (jo L qq n)) ∧ (qq ≠ 1 → ∀ n1 c1, r1 = .inr (n1, c1) → ∃ r2, pt L f (qq + 5) d n1 = some r2 ∧ (∀ x, r2 = .inl x → r = .inl x) ∧ ∀ n2 c2, r2 = .inr (n2, c2) → r = .inr (n2, (c1 ++ [jo L qq n]) ++ c2)) ∧ wo (mi_bo (md5 g (qq + 1) (n32 d) m1) fun m7 => f_X12_emit (opc (jo L qq n)).1 (opc (jo L qq n)).2 m7) (tM L c n q m1 (rmp r1 (jo L qq n))) := by
      intro m1 hm
      have u1 : m1.1 12 0 13 = n32 q := by rw [hm.2.1 12 0 13 (by omega)]; exact hu
      rcases bn_inv h with ⟨x, a1, a2⟩ | ⟨n1, c1, a1, a2⟩
      · exact ⟨_, a1, fun y hy => (by rw [a2, Sum.inl.inj hy]), fun _ => a2, fun _ n1 c1 hy => (by cases hy), pm_opnd hL i1 (by omega) h2 (by omega) a1 hm.1 u1 hqn (by omega) rfl⟩
      · refine ⟨_, a1, fun y hy => (by cases hy), fun q1 => ?_, fun q1 n2 c2 hy => ?_, pm_opnd hL i1 (by omega) h2 (by omega) a1 hm.1 u1 hqn (by omega) rfl⟩
        · rw [if_pos q1] at a2
          exact (Option.some.inj a2).symm
        · have hy := Sum.inr.inj hy
          have y1 : n1 = n2 := congrArg Prod.fst hy
          have y2 : c1 = c2 := congrArg Prod.snd hy
          subst y1 y2
          rw [if_neg q1] at a2
          rcases bn_inv a2 with ⟨x, a3, a4⟩ | ⟨n2, c2, a3, a4⟩
          · exact ⟨_, a3, fun y hy => (by rw [a4, Sum.inl.inj hy]), fun n2 c2 hy => (by cases hy)⟩
          · refine ⟨_, a3, fun y hy => (by cases hy), fun n3 c3 hy => ?_⟩
            have hy := Sum.inr.inj hy
            have y1 : n2 = n3 := congrArg Prod.fst hy
            have y2 : c2 = c3 := congrArg Prod.snd hy
            subst y1 y2
            exact (Option.some.inj a4).symm
    by_cases q1 : qq = 1
    · subst q1
      unfold lpM
      rw [if_pos rfl]
      refine ts_step hr hL j (fun m1 hm => ?_)
      obtain ⟨r1, b1, b2, b3, -, b5⟩ := gd m1 hm
      rw [b3 rfl]
      exact pw_mono b5 (fun m9 h9 => h9.pre (hm.2.mo (fun k i p a => by omega)))
    · obtain ⟨fu', rfl⟩ : ∃ fu', fu = fu' + 1 := ⟨fu - 1, by omega⟩
      have el : ∀ fu m, lpM g qq (n32 d) fu m = mi_lp (bdM g qq (n32 d)) fu m := fun fu m => if_neg q1
      rw [el]
      apply pl_one
      refine bd_step (by omega) hr hL j (fun m1 hm => ?_)
      obtain ⟨r1, b1, b2, -, b4, b5⟩ := gd m1 hm
      refine pw_mono b5 ?_
      intro m9 h9
      have h9 := h9.pre (hm.2.mo (fun k i p a => by omega) : kp (fun k i p => kE q k i p) m m1)
      rw [lr_l, ← el]
      have ob := (pt_b hL f).1 _ _ _ _ (by omega) h2 (by omega) b1
      match r1, ob, b1, b2, b4, h9 with
      | .inl (k, nf), ob, b1, b2, b4, h9 =>
        obtain ⟨o1, o2, o3, o4⟩ := ob.1 k nf rfl
        obtain ⟨e1, q', e2, e3, e4⟩ := h9.1 k nf rfl
        rw [b2 _ rfl]
        refine pw_mono (lp_exit hq e1 hL (Or.inl (by omega)) (by omega)) ?_
        intro m' hm'
        exact tM_l hm'.1 ⟨q', e2, e3, by rw [hm'.2.1 12 0 13 (by omega)]; exact e4⟩ (h9.2.2.tr (hm'.2.mo (fun k i p a => by omega)))
      | .inr (n1, c1), ob, b1, b2, b4, h9 =>
        obtain ⟨o1, o2, o3, o4, o5⟩ := ob.2 n1 c1 rfl
        obtain ⟨e1, e2⟩ := h9.2.1 n1 _ rfl
        obtain ⟨r2, f1, f2, f3⟩ := b4 q1 n1 c1 rfl
        have l1 : (c1 ++ [jo L qq n]).length = c1.length + 1 := by rw [List.length_append]; rfl
        refine pw_mono (i3 qq d n1 r2 m9 (q + (c1 ++ [jo L qq n]).length) g fu' hq h2 o2 f1 e1 e2.1 (by rw [l1]; omega) hg (by omega)) ?_
        intro m' hm'
        exact tM.app e2 h9.2.2 hm' (fun k nf hk => by
          subst hk
          exact (((pt_b hL f).2 _ _ _ _ hq h2 o2 f1).1 k nf rfl).1) (by rw [l1]; omega) (by omega) f2 f3
theorem rk_step {md g : Nat} {d : Int32} {m : mi_M} {Q : mi_M → Prop} (hm : md < 4) (h : wo (mi_bo (md5 g (md + 1) d m) fun m1 => lpM g md d mi_fu m1) Q) : wo (md5 (g + 1) md d m) Q := by
  have : md = 0 ∨ md = 1 ∨ md = 2 ∨ md = 3 := by omega
  rcases this with rfl | rfl | rfl | rfl
  · have e : md5 (g + 1) 0 d m = f_X12_all_ (fg_X12_all g) d m := rfl
    rw [e]
    unfold f_X12_all_
    have e1 : md5 g (0 + 1) d m = (fg_X12_all g).2.2.2.2 d m := rfl
    rw [pw_bo, e1] at h
    rw [pw_bo]
    refine pw_mono h ?_
    intro m1 h1
    have e2 : lpM g 0 d mi_fu m1 = mi_lp (f_X12_all_B5 (fg_X12_all g) d) mi_fu m1 := if_neg (by decide)
    rw [e2] at h1
    rw [pw_bo]
    exact pw_mono h1 (fun x hx => pw_some.mpr hx)
  · have e : md5 (g + 1) 1 d m = f_X12_test_ (fg_X12_all g) d m := rfl
    rw [e]
    unfold f_X12_test_
    have e1 : md5 g (1 + 1) d m = (fg_X12_all g).2.2.1 d m := rfl
    rw [pw_bo, e1] at h
    rw [pw_bo]
    refine pw_mono h ?_
    intro m1 h1
    have e2 : lpM g 1 d mi_fu m1 = tsM g d m1 := if_pos rfl
    rw [e2] at h1
    exact h1
  · have e : md5 (g + 1) 2 d m = f_X12_sums_ (fg_X12_all g) d m := rfl
    rw [e]
    unfold f_X12_sums_
    have e1 : md5 g (2 + 1) d m = (fg_X12_all g).2.1 d m := rfl
    rw [pw_bo, e1] at h
    rw [pw_bo]
    refine pw_mono h ?_
    intro m1 h1
    have e2 : lpM g 2 d mi_fu m1 = mi_lp (f_X12_sums_B5 (fg_X12_all g) d) mi_fu m1 := if_neg (by decide)
    rw [e2] at h1
    rw [pw_bo]
    exact pw_mono h1 (fun x hx => pw_some.mpr hx)
  · have e : md5 (g + 1) 3 d m = f_X12_products_ (fg_X12_all g) d m := rfl
    rw [e]
    unfold f_X12_products_
    have e1 : md5 g (3 + 1) d m = (fg_X12_all g).2.2.2.1 d m := rfl
    rw [pw_bo, e1] at h
    rw [pw_bo]
    refine pw_mono h ?_
    intro m1 h1
    have e2 : lpM g 3 d mi_fu m1 = mi_lp (f_X12_products_B5 (fg_X12_all g) d) mi_fu m1 := if_neg (by decide)
    rw [e2] at h1
    rw [pw_bo]
    exact pw_mono h1 (fun x hx => pw_some.mpr hx)
