/-! ===== need: the fewest lamps ===== -/
def alB (P : Nat → Bool) : Nat → Bool
  | 0 => true
  | n + 1 => alB P n && P n
theorem alB_f {P : Nat → Bool} {k : Nat} (hk : P k = false) : ∀ {n : Nat}, k < n → alB P n = false
  | 0, h => absurd h (by omega)
  | n + 1, h => by
    unfold alB
    by_cases e : k = n
    · subst e; simp [hk]
    · rw [alB_f hk (by omega)]; rfl
theorem alB_t {P : Nat → Bool} : ∀ {n : Nat}, (∀ k, k < n → P k = true) → alB P n = true
  | 0, _ => rfl
  | n + 1, h => by
    unfold alB
    rw [alB_t (fun k hk => h k (by omega)), h n (by omega)]
    rfl
/-- no walk is dark -/
def ndP (T : Nat → Nat) (b k : Nat) : Bool := decide (cst T b (T (81 + 2 * k)) (T (82 + 2 * k)) < 1024 ∨ XX ≤ cst T b (T (81 + 2 * k)) (T (82 + 2 * k)))
def ndB (T : Nat → Nat) (b : Nat) : Bool := alB (ndP T b) (T 3)
theorem pc_noDark {c b : Nat} {m : mi_M} {T : Nat → Nat} {cd : Nat → List Int32} (h : cT m c T cd) (hb : b < 64) : wo (f_X9_leavesNoWalkDark c (n32 b) m) (fun r => r.1 = (if ndB T b then 1 else 0) ∧ cT r.2 c T cd ∧ kp (fun k i _ => pcE c k i) m r.2) := by
  have hT := h.1.2.1
  have h4 := hT.1.2.2.1
  have h60 := hT.1.1
  have hX : XX = 1048576 := rfl
  unfold f_X9_leavesNoWalkDark
  rw [pw_bo]
  refine pl_for (fun k s => s.1 = n32 k ∧ alB (ndP T b) k = true ∧ cT s.2 c T cd ∧ kp (fun k i _ => pcE c k i) m s.2) (T 3) (by omega) ⟨rfl, rfl, h, kp.rf⟩ ?_
  rintro k ⟨l5, m1⟩ hk ⟨e1, e2, e3, e4⟩
  simp only at e1 e2 e3 e4
  subst e1
  unfold f_X9_leavesNoWalkDark_B2 f_X9_leavesNoWalkDark_J43
  simp (disch := omega) only [pw_if, pw_some, pw_g, pw_b, e3.1.1.1.2.2.2.2.2, n32_le, lr_r, lr_l, n32_in, n32_cl, n32_al]
  refine ⟨fun hz => ?_, fun hz => ⟨by omega, by omega, ?_⟩⟩
  · have : k = T 3 := by omega
    subst this
    unfold f_X9_leavesNoWalkDark_K2
    simp only [pw_g, pw_some]
    refine ⟨by decide, ?_, e3, e4⟩
    rw [show ndB T b = true from e2]
    rfl
  · have hk : k < T 3 := by omega
    obtain ⟨a1, a2⟩ := hT.2.2.2.1 k hk
    rw [(e3.1.1.2.2.2 k hk).1, (e3.1.1.2.2.2 k hk).2]
    refine pw_mono (pc_cost e3 hb (by omega) (by omega)) ?_
    rintro ⟨v, m2⟩ ⟨g1, g2, g3⟩
    simp only at g1 g2 g3
    subst g1
    have hl := cst_le hT.2.2.2.2 b (T (81 + 2 * k)) (T (82 + 2 * k))
    have nxt : ndP T b k = true → k < T 3 ∧ True ∧ alB (ndP T b) (k + 1) = true ∧ cT m2 c T cd ∧ kp (fun k i _ => pcE c k i) m m2 := by
      intro hp
      refine ⟨hk, trivial, ?_, g2, e4.tr g3⟩
      unfold alB
      rw [e2, hp]; rfl
    simp (disch := omega) only [n32_ltL, n32_Lle]
    refine ⟨fun x => nxt (decide_eq_true (Or.inl x)), fun x => ⟨fun z => nxt (decide_eq_true (Or.inr (by omega))), fun z => ?_⟩⟩
    unfold f_X9_leavesNoWalkDark_K2
    simp only [pw_g, pw_some]
    refine ⟨by decide, ?_, g2, e4.tr g3⟩
    have : ndB T b = false := alB_f (k := k) (decide_eq_false (by omega)) hk
    rw [this]
    rfl
theorem pm_allLit {m : mi_M} {T : Nat → Nat} {b : Nat} (h : mTw m T) (hT : tOK T) (hb : b < 64) : wo (f_X12_allLit (n32 b) m) (fun r => r.1 = (if ndB T b then 1 else 0) ∧ kp (fun k i _ => pmE k i) m r.2) := by
  have h60 := hT.1.1
  have h4 := hT.1.2.2.1
  have hX : XX = 1048576 := rfl
  unfold f_X12_allLit
  rw [pw_bo]
  refine pw_mono (pm_lays hT.2.2.2.2 h60 hb h) ?_
  rintro m1 ⟨a1, a2, -⟩
  have h1 : mTw m1 T := h.mv a1 (fun p _ x => by omega)
  have k1 : kp (fun k i _ => pmE k i) m m1 := a1.mo (fun k i p a => by omega)
  rw [pw_bo]
  refine pl_for (fun k s => s = ((if alB (ndP T b) k then (1 : Int32) else 0), n32 k)) (T 3) (by omega) rfl ?_
  rintro k s hk rfl
  unfold f_X12_allLit_B9 f_X12_allLit_J69 f_X12_allLit_J73 f_X12_allLit_J74
  simp (disch := omega) only [pm_walks h1, pw_if, pw_some, pw_g, pw_let, pw_bo, n32_le, lr_r, lr_l, n32_lm, n32_la, n32_in, n32_cl, n32_al]
  refine ⟨fun hx => ?_, fun hx => ⟨by omega, by omega, ?_⟩⟩
  · have : k = T 3 := by omega
    subst this
    unfold f_X12_allLit_K9
    rw [pw_g, pw_some]
    exact ⟨by split <;> decide, rfl, k1⟩
  · have hk : k < T 3 := by omega
    obtain ⟨b1, b2⟩ := hT.2.2.2.1 k hk
    rw [show 81 + 2 * k + 1 = 82 + 2 * k by omega, h1 _ (by omega) (by omega), h1 _ (by omega) (by omega)]
    simp (disch := omega) only [n32_lm, n32_add, n32_in, n32_cl]
    have hd := (a2 (6 * T (81 + 2 * k) + T (82 + 2 * k)) (by omega)).1
    rw [show (6 * T (81 + 2 * k) + T (82 + 2 * k)) / 6 = T (81 + 2 * k) by omega, show (6 * T (81 + 2 * k) + T (82 + 2 * k)) % 6 = T (82 + 2 * k) by omega] at hd
    have hl := cst_le hT.2.2.2.2 b (T (81 + 2 * k)) (T (82 + 2 * k))
    have hdl := dO_lt hl
    have d0 : dO (cst T b (T (81 + 2 * k)) (T (82 + 2 * k))) = 0 ↔ cst T b (T (81 + 2 * k)) (T (82 + 2 * k)) < 1024 := by
      unfold dO
      split <;> omega
    rw [hd, show (1000000 : Int32) = n32 1000000 from rfl, n32_lt (by omega) (by omega), show (0 : Int32) = n32 0 from rfl, n32_eq (by omega) (by omega), d0]
    have es : alB (ndP T b) (k + 1) = (alB (ndP T b) k && ndP T b k) := rfl
    rw [es]
    have no : ∀ {u : Bool}, u = false → k < T 3 ∧ (n32 0, n32 (k + 1)) = ((if u then (1 : Int32) else n32 0), n32 (k + 1)) := by
      rintro u rfl
      exact ⟨hk, rfl⟩
    have yes : ∀ {u : Bool}, u = true → k < T 3 ∧ ((1 : Int32), n32 (k + 1)) = ((if u then (1 : Int32) else n32 0), n32 (k + 1)) := by
      rintro u rfl
      exact ⟨hk, rfl⟩
    by_cases ea : alB (ndP T b) k = true
    · rw [ea, Bool.true_and]
      refine ⟨by omega, fun x => absurd x (by decide), fun _ => ⟨fun x => yes (decide_eq_true (Or.inl x)), fun x => ⟨fun z => no (decide_eq_false (by omega)), fun z => yes (decide_eq_true (Or.inr (by omega)))⟩⟩⟩
    · have ea : alB (ndP T b) k = false := by simpa using ea
      rw [ea, Bool.false_and]
      refine ⟨by omega, fun _ => no rfl, fun x => absurd rfl x⟩
theorem pm_bits {s : Nat} {m : mi_M} (hs : s < 256) : f_X12_bits (n32 s) m = some (n32 (pcN s)) := by
  unfold f_X12_bits
  apply pw_eq
  rw [pw_bo]
  refine pl_for (fun k s' => s' = (n32 (sumN (fun j => (s.testBit j).toNat) k), n32 k)) 30 (by omega) rfl ?_
  rintro k s' hk rfl
  unfold f_X12_bits_B4
  simp (disch := omega) only [pw_if, pw_some, pw_let, n32_Lle, lr_r, lr_l, n32_al]
  refine ⟨fun hx => ?_, fun hx => ⟨by omega, ?_⟩⟩
  · have : k = 30 := by omega
    subst this
    unfold f_X12_bits_K4
    rw [pw_some]
    have : ∀ s, s < 256 → sumN (fun j => (s.testBit j).toNat) 30 = pcN s := by decide +kernel
    rw [this s hs]
  · rw [tb_n32 (by omega)]
    show (n32 _ + _, _) = (n32 (sumN (fun j => (s.testBit j).toNat) k + (s.testBit k).toNat), _)
    rw [← n32_add (sumN (fun j => (s.testBit j).toNat) k)]
    cases s.testBit k <;> rfl
/-- the developers' best so far, and the reference's -/
def ndC (T : Nat → Nat) : Nat → Nat
  | 0 => 2 ^ T 0 - 1
  | s + 1 => if pcN s < pcN (ndC T s) ∧ ndB T s = true then s else ndC T s
def ndM (T : Nat → Nat) : Nat → Option Nat
  | 0 => none
  | s + 1 => match ndM T s with
    | none => if ndB T s then some s else none
    | some b => if pcN s < pcN b ∧ ndB T s = true then some s else some b
theorem pc_full : ∀ P, P ≤ 6 → pcN (2 ^ P - 1) = P ∧ ∀ s, s < 2 ^ P - 1 → pcN s < P := by decide +kernel
theorem full_tb : ∀ P, P ≤ 6 → ∀ i, i < P → (2 ^ P - 1).testBit i = true := by decide +kernel
theorem nd_full {T : Nat → Nat} (hT : tOK T) : ndB T (2 ^ T 0 - 1) = true := by
  have h60 := hT.1.1
  refine alB_t (fun k hk => decide_eq_true ?_)
  obtain ⟨b1, b2⟩ := hT.2.2.2.1 k hk
  by_cases e : XX ≤ cst T (2 ^ T 0 - 1) (T (81 + 2 * k)) (T (82 + 2 * k))
  · exact Or.inr e
  · refine Or.inl ?_
    have hW : flW 0 (lanQ T (2 ^ T 0 - 1)) := by
      intro i j
      refine ⟨((lanQ_ok hT.2.2.2.2 _) i j).1, fun hl => ?_⟩
      unfold lanQ at hl ⊢
      by_cases hij : i < 6 ∧ j < 6
      · rw [if_pos hij] at hl ⊢
        unfold lanW at hl ⊢
        by_cases h0 : T (21 + 6 * i + j) = 0
        · rw [if_pos h0] at hl; exact absurd hl (Nat.lt_irrefl _)
        · rw [if_neg h0]
          have hi : i < T 0 := by
            by_cases q : i < T 0
            · exact q
            · exact absurd ((hT.2.2.2.2 i j hij.1 hij.2).2 (Or.inl (by omega))) h0
          rw [if_pos (by rw [full_tb _ h60 i hi]; rfl)]
          exact ⟨0, _, by omega, by omega, (hT.2.2.2.2 i j hij.1 hij.2).1⟩
      · rw [if_neg hij] at hl; exact absurd hl (Nat.lt_irrefl _)
    obtain ⟨d, f, x1, x2, x3⟩ := fl_df hW (Nat.le_refl 6) (show T (81 + 2 * k) < 6 by omega) (show T (82 + 2 * k) < 6 by omega) (show fl (lanQ T (2 ^ T 0 - 1)) 6 _ _ < XX from Nat.lt_of_not_le e)
    show fl (lanQ T (2 ^ T 0 - 1)) 6 _ _ < 1024
    omega
theorem nd_rel {T : Nat → Nat} (hT : tOK T) : ∀ s, s ≤ 2 ^ T 0 - 1 → (ndM T s = none ∧ ndC T s = 2 ^ T 0 - 1) ∨ ∃ b, b < 2 ^ T 0 - 1 ∧ ndM T s = some b ∧ ndC T s = b
  | 0, _ => Or.inl ⟨rfl, rfl⟩
  | s + 1, hs => by
    have h60 := hT.1.1
    obtain ⟨p1, p2⟩ := pc_full _ h60
    have ps := p2 s (by omega)
    rcases nd_rel hT s (by omega) with ⟨e1, e2⟩ | ⟨b, hb, e1, e2⟩
    · unfold ndM ndC
      rw [e1, e2, p1]
      by_cases e : ndB T s = true
      · refine Or.inr ⟨s, by omega, ?_, ?_⟩
        · simp [e]
        · rw [if_pos ⟨ps, e⟩]
      · refine Or.inl ⟨?_, ?_⟩
        · simp [e]
        · rw [if_neg (fun x => e x.2)]
    · unfold ndM ndC
      rw [e1, e2]
      by_cases e : pcN s < pcN b ∧ ndB T s = true
      · exact Or.inr ⟨s, by omega, by simp [e], by rw [if_pos e]⟩
      · refine Or.inr ⟨b, hb, ?_, by rw [if_neg e]⟩
        simp only [if_neg e]
theorem nd_end {T : Nat → Nat} (hT : tOK T) : ndM T (2 ^ T 0) = some (ndC T (2 ^ T 0)) := by
  have h60 := hT.1.1
  have hp : 0 < 2 ^ T 0 := Nat.two_pow_pos _
  obtain ⟨p1, p2⟩ := pc_full _ h60
  have hf := nd_full hT
  have e : 2 ^ T 0 = (2 ^ T 0 - 1) + 1 := by omega
  rw [e]
  unfold ndM ndC
  rcases nd_rel hT (2 ^ T 0 - 1) (Nat.le_refl _) with ⟨e1, e2⟩ | ⟨b, hb, e1, e2⟩
  · rw [e1, e2, if_neg (show ¬ (pcN (2 ^ T 0 - 1) < pcN (2 ^ T 0 - 1) ∧ ndB T (2 ^ T 0 - 1) = true) by omega)]
    simp only [hf, if_true]
  · have := p2 b hb
    rw [e1, e2, if_neg (show ¬ (pcN (2 ^ T 0 - 1) < pcN b ∧ ndB T (2 ^ T 0 - 1) = true) by omega)]
    simp only [if_neg (show ¬ (pcN (2 ^ T 0 - 1) < pcN b ∧ ndB T (2 ^ T 0 - 1) = true) by omega)]
theorem ndC_lt {T : Nat → Nat} (hT : tOK T) : ∀ s, s ≤ 2 ^ T 0 → ndC T s < 2 ^ T 0
  | 0, _ => by
    have := Nat.two_pow_pos (T 0)
    show 2 ^ T 0 - 1 < _
    omega
  | s + 1, h => by
    unfold ndC
    split
    · omega
    · exact ndC_lt hT s (by omega)
theorem ndM_lt {T : Nat → Nat} : ∀ s b, ndM T s = some b → b < s
  | 0, b, h => by cases h
  | s + 1, b, h => by
    unfold ndM at h
    cases hm : ndM T s with
    | none =>
      rw [hm] at h
      simp only at h
      split at h
      · cases h; omega
      · cases h
    | some b0 =>
      rw [hm] at h
      simp only at h
      have := ndM_lt s b0 hm
      split at h
      · cases h; omega
      · cases h; omega
theorem pow6 {P : Nat} (h : P ≤ 6) : 2 ^ P ≤ 64 := by
  have := Nat.pow_le_pow_right (show 0 < 2 by omega) h
  omega
theorem pow8 {P : Nat} (h : P ≤ 8) : 2 ^ P ≤ 256 := by
  have := Nat.pow_le_pow_right (show 0 < 2 by omega) h
  omega
theorem sh_1 {P : Nat} (h : P < 31) : (1 : Int32) <<< (n32 P &&& 31) = n32 (2 ^ P) := bt_eq P h
theorem po_need : ob_need Rel := by
  rintro mem ⟨T, cd, c, y, hR⟩
  obtain ⟨h1, h2, h3, h4, h5, h6, h7, h8, h9, h10⟩ := id hR
  have hT := h2.1.2.1
  have h60 := hT.1.1
  have hp6 := pow6 h60
  have hp0 := Nat.two_pow_pos (T 0)
  refine ob_ev (f1 := f_X11_need) (f2 := f_X12_need) hR (n32 (ndC T (2 ^ T 0))) ?_ ?_
  · unfold f_X11_need f_X9_fewestLamps
    rw [h1.2.2.1, pe_g (n8 h1.1), pe_g (n8 h1.1), h2.1.1.1.1, sh_1 (by omega)]
    simp (disch := omega) only [pw_b, pw_let, pw_bo, pw_some, n32_sl]
    refine pl_for (fun k s => s.1 = n32 (ndC T k) ∧ s.2.1 = n32 k ∧ cT s.2.2 c T cd ∧ kp (fun k i _ => pcE c k i) mem s.2.2) (2 ^ T 0) (by omega) ⟨rfl, rfl, h2, kp.rf⟩ ?_
    rintro k ⟨l4, l5, m1⟩ hk ⟨e1, e2, e3, e4⟩
    simp only at e1 e2 e3 e4
    subst e1 e2
    have hl := ndC_lt hT k hk
    unfold f_X9_fewestLamps_B8 f_X9_fewestLamps_J36
    simp (disch := omega) only [sh_1, pw_if, pw_some, pw_b, pw_bo, pc_bits, n32_le, lr_r, lr_l, n32_al]
    refine ⟨fun hz => ?_, fun hz => ?_⟩
    · have : k = 2 ^ T 0 := by omega
      subst this
      unfold f_X9_fewestLamps_K8
      simp only [pw_some]
      exact ⟨by trivial, e3, e4.mo (fun k i p a => Or.inl a)⟩
    · have pb : ∀ s, pcN s ≤ 8 := by
        intro s
        unfold pcN
        have key : ∀ b : Bool, b.toNat ≤ 1 := fun b => by cases b <;> simp
        have k0 := key (s.testBit 0)
        have k1 := key (s.testBit 1)
        have k2 := key (s.testBit 2)
        have k3 := key (s.testBit 3)
        have k4 := key (s.testBit 4)
        have k5 := key (s.testBit 5)
        have k6 := key (s.testBit 6)
        have k7 := key (s.testBit 7)
        omega
      have p1 := pb k
      have p2 := pb (ndC T k)
      rw [n32_le (by omega) (by omega)]
      refine ⟨fun hy => ⟨by omega, ?_, by trivial, e3, e4⟩, fun hy => ?_⟩
      · rw [show ndC T (k + 1) = if pcN k < pcN (ndC T k) ∧ ndB T k = true then k else ndC T k from rfl, if_neg (by omega)]
      · refine pw_mono (pc_noDark e3 (show k < 64 by omega)) ?_
        rintro ⟨v, m2⟩ ⟨b1, b2, b3⟩
        simp only at b1 b2 b3
        by_cases hb : ndB T k = true
        · rw [hb] at b1
          subst b1
          refine ⟨fun x => absurd (show (1 : Int32) = 0 from x) (by decide), fun _ => ⟨by omega, ?_, by trivial, b2, e4.tr b3⟩⟩
          rw [show ndC T (k + 1) = if pcN k < pcN (ndC T k) ∧ ndB T k = true then k else ndC T k from rfl, if_pos ⟨by omega, hb⟩]
        · rw [if_neg hb] at b1
          subst b1
          refine ⟨fun _ => ⟨by omega, ?_, by trivial, b2, e4.tr b3⟩, fun x => absurd rfl x⟩
          rw [show ndC T (k + 1) = if pcN k < pcN (ndC T k) ∧ ndB T k = true then k else ndC T k from rfl, if_neg (fun x => hb x.2)]
  · intro m1 R1 hmm
    obtain ⟨r1, r2, r3, -⟩ := R1
    unfold f_X12_need
    rw [pe_let, pw_bo]
    refine pl_for (fun k s => s.1 = (match ndM T k with | none => -1 | some b => n32 b) ∧ s.2.1 = n32 k ∧ kp (fun k i p => pXm k i p) m1 s.2.2) (2 ^ T 0) (by omega) ⟨rfl, rfl, kp_thr⟩ ?_
    rintro k ⟨l4, l5, m2⟩ hk ⟨e1, e2, e4⟩
    simp only at e1 e2 e4
    subst e2
    have t2 : mTw m2 T := r3.1.1.mv e4 (fun p _ x => by omega)
    have j34 : (∀ (b : Bool), b = ndB T k → ndM T (k + 1) = if b then some k else ndM T k) → k < 2 ^ T 0 → wo (f_X12_need_J34 l4 (n32 k) m2) (lr (fun s' => k < 2 ^ T 0 ∧ s'.1 = (match ndM T (k + 1) with | none => -1 | some b => n32 b) ∧ s'.2.1 = n32 (k + 1) ∧ kp (fun k i p => pXm k i p) m1 s'.2.2) (fun e => wo (f_X12_need_K9 e) (fun r => r.1 = n32 (ndC T (2 ^ T 0)) ∧ kp (fun k i p => pXm k i p) m1 r.2))) := by
      intro hn hk2
      unfold f_X12_need_J34 f_X12_need_J46 f_X12_need_J47
      simp only [pw_b, pw_if, pw_some, lr_l, n32_al]
      refine pw_mono (pm_allLit t2 hT (show k < 64 by omega)) ?_
      rintro ⟨v, m3⟩ ⟨b1, b3⟩
      simp only at b1 b3
      have k3 : kp (fun k i p => pXm k i p) m1 m3 := e4.tr (b3.mo (fun k i p a => by omega))
      have hn := hn _ rfl
      by_cases hb : ndB T k = true
      · rw [hb] at b1 hn
        subst b1
        refine ⟨fun x => absurd (show (1 : Int32) = 0 from x) (by decide), fun _ => ⟨hk2, ?_, by trivial, k3⟩⟩
        rw [hn]; rfl
      · rw [if_neg hb] at b1 hn
        subst b1
        refine ⟨fun _ => ⟨hk2, ?_, by trivial, k3⟩, fun x => absurd rfl x⟩
        rw [hn]; exact e1
    unfold f_X12_need_B9
    simp (disch := omega) only [pm_people t2, sh_1, pw_if, pw_some, pw_bo, n32_le, lr_r]
    refine ⟨fun hz => ?_, fun hz => ?_⟩
    · have : k = 2 ^ T 0 := by omega
      subst this
      unfold f_X12_need_K9
      simp only [pw_some]
      refine ⟨?_, e4⟩
      rw [e1, nd_end hT]
    · have hk : k < 2 ^ T 0 := by omega
      have es : ndM T (k + 1) = (match ndM T k with | none => if ndB T k then some k else none | some b => if pcN k < pcN b ∧ ndB T k = true then some k else some b) := rfl
      cases hm : ndM T k with
      | none =>
        rw [hm] at e1 es
        have e1 : l4 = -1 := e1
        refine ⟨fun _ => j34 ?_ hk, fun x => absurd (by rw [e1]; decide) x⟩
        intro b hb
        rw [es, hb, hm]
      | some b =>
        rw [hm] at e1 es
        have e1 : l4 = n32 b := e1
        have hbl := ndM_lt k b hm
        refine ⟨fun x => ?_, fun _ => ?_⟩
        · rw [e1] at x
          exact absurd x (n32_nn (by omega)).mp
        · have pb : ∀ s, pcN s ≤ 8 := by
            intro s
            unfold pcN
            have key : ∀ b : Bool, b.toNat ≤ 1 := fun b => by cases b <;> simp
            have k0 := key (s.testBit 0)
            have k1 := key (s.testBit 1)
            have k2 := key (s.testBit 2)
            have k3 := key (s.testBit 3)
            have k4 := key (s.testBit 4)
            have k5 := key (s.testBit 5)
            have k6 := key (s.testBit 6)
            have k7 := key (s.testBit 7)
            omega
          have p1 := pb k
          have p2 := pb b
          have e1' := e1
          rw [e1, pm_bits (show k < 256 by omega), pw_some, pm_bits (show b < 256 by omega), pw_some, n32_le (by omega) (by omega)]
          refine ⟨fun hy => ?_, fun hy => ?_⟩
          · unfold f_X12_need_J46 f_X12_need_J47
            simp only [pw_some, lr_l, n32_al]
            refine ⟨hk, ?_, by trivial, e4⟩
            rw [es]
            simp only [if_neg (show ¬ (pcN k < pcN b ∧ ndB T k = true) by omega)]
          · rw [← e1']
            refine j34 ?_ hk
            intro u hu
            rw [es, hu, hm]
            by_cases hb : ndB T k = true
            · simp only [hb, if_pos (show pcN k < pcN b ∧ True by exact ⟨by omega, trivial⟩), if_true]
            · simp only [hb, and_false, if_false, Bool.false_eq_true]
