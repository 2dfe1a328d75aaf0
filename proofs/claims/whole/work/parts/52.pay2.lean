/-! ===== pay: the reference ===== -/
theorem pm_costOf {m : mi_M} {T : Nat → Nat} {S : Nat → Int32} {s : Nat} (h : mTw m T) (hT : tOK T) (hS : mSt m 0 S) (hs : sOK T S) : wo (f_X12_costOf (n32 s) m) (fun r => r.1 = (if pyB T S s then n32 (cstN T S s (T 2)) else -1) ∧ kp (fun k i _ => k = 69 ∧ i = 0) m r.2) := by
  have h82 := hT.1.2.1
  have h60 := hT.1.1
  unfold f_X12_costOf
  rw [pw_bo]
  refine pl_for (fun k s' => s'.1 = n32 k ∧ (∀ p, p < k → s'.2.1 69 0 p = 0) ∧ kp (fun k i _ => k = 69 ∧ i = 0) m s'.2) 6 (by omega) ⟨rfl, fun w hw => absurd hw (by omega), kp.rf⟩ ?_
  rintro k ⟨l36, m1⟩ hk ⟨e1, e3, e4⟩
  simp only at e1 e3 e4
  subst e1
  unfold f_X12_costOf_B2
  simp (disch := omega) only [pw_if, pw_some, pw_g, pw_let, n32_Lle, lr_r, lr_l, n32_in, n32_cl, n32_al]
  refine ⟨fun hz => ?_, fun hz => ⟨by omega, by omega, by trivial, fun p hp => ?_, e4.wI ⟨rfl, rfl⟩⟩⟩
  · have : k = 6 := by omega
    subst this
    unfold f_X12_costOf_K2
    rw [pw_bo]
    refine pl_for (fun k s' => s'.1 = n32 (cstN T S s k) ∧ s'.2.1 = (if alB (pyP T S s) k then (1 : Int32) else 0) ∧ s'.2.2.1 = n32 k ∧ (∀ p, p < 6 → s'.2.2.2.1 69 0 p = n32 (spN T S s p k)) ∧ kp (fun k i _ => k = 69 ∧ i = 0) m s'.2.2.2) (T 2) (by omega) ⟨rfl, rfl, rfl, fun p hp => e3 p hp, e4⟩ ?_
    clear e3 e4 hz hk m1
    rintro k ⟨l7, l8, l9, m1⟩ hk ⟨e1, e2, e3, e4, e5⟩
    simp only at e1 e2 e3 e4 e5
    subst e1 e2 e3
    have t1 : mTw m1 T := h.mv e5 (fun p _ x => by omega)
    have S1 : mSt m1 0 S := hS.mv e5 (fun p a b d => by omega)
    have es : ∀ p, spN T S s p (k + 1) = spN T S s p k + (if s.testBit k = true ∧ byA T k = p then prW T S k else 0) := fun p => rfl
    have ec : cstN T S s (k + 1) = cstN T S s k + (if s.testBit k then prW T S k else 0) := rfl
    have ea : alB (pyP T S s) (k + 1) = (alB (pyP T S s) k && pyP T S s k) := rfl
    unfold f_X12_costOf_B28
    simp (disch := omega) only [pm_wrongs t1, pw_if, pw_some, pw_g, pw_let, pw_bo, n32_le, lr_r, n32_la, n32_in, n32_cl, tb_1]
    refine ⟨fun hz => ?_, fun hz => ⟨fun ht => ⟨by omega, ?_⟩, fun ht => ?_⟩⟩
    · have : k = T 2 := by omega
      subst this
      unfold f_X12_costOf_K28 f_X12_costOf_J166
      simp only [pw_if, pw_some]
      by_cases hb : alB (pyP T S s) (T 2) = true
      · rw [if_pos hb, show pyB T S s = true from hb]
        exact ⟨fun x => absurd x (by decide), fun _ => ⟨rfl, e5⟩⟩
      · rw [if_neg hb, if_neg (show ¬ pyB T S s = true from hb)]
        exact ⟨fun _ => ⟨rfl, e5⟩, fun x => absurd rfl x⟩
    · have hk : k < T 2 := by omega
      obtain ⟨b1, b2, b3, b4, b5⟩ := hT.2.2.1 k hk
      obtain ⟨esn, lsn⟩ := sN_eq hs (show k < 8 by omega)
      have lb := barA_le hT k
      have e14 := S1 (14 + k) (by omega)
      rw [Nat.zero_add] at e14
      rw [pm_barOf t1 hT hk, pw_some, e14, esn]
      have j77 : ∀ u : Int32, u = n32 (prW T S k) → wo (f_X12_costOf_J77 (n32 (cstN T S s k)) (if alB (pyP T S s) k then (1 : Int32) else 0) (n32 k) m1 u) (lr (fun s' => k < T 2 ∧ s'.1 = n32 (cstN T S s (k + 1)) ∧ s'.2.1 = (if alB (pyP T S s) (k + 1) then (1 : Int32) else 0) ∧ s'.2.2.1 = n32 (k + 1) ∧ (∀ p, p < 6 → s'.2.2.2.1 69 0 p = n32 (spN T S s p (k + 1))) ∧ kp (fun k i _ => k = 69 ∧ i = 0) m s'.2.2.2) (fun e => wo (f_X12_costOf_K28 e) (fun r => r.1 = (if pyB T S s then n32 (cstN T S s (T 2)) else -1) ∧ kp (fun k i _ => k = 69 ∧ i = 0) m r.2))) := by
        rintro u rfl
        unfold f_X12_costOf_J77 f_X12_costOf_J149 f_X12_costOf_J150 f_X12_costOf_J151
        rw [pm_by t1 (by omega), pe_bo]
        simp (disch := omega) only [pw_g, pw_let, n32_in, n32_cl, e4 (byA T k) (show byA T k < 6 by omega), n32_add]
        refine ⟨by omega, by omega, ?_⟩
        have kw : kp (fun k i _ => k = 69 ∧ i = 0) m1 (mi_wI m1 69 0 (byA T k) (n32 (spN T S s (byA T k) k + prW T S k))) := kp.rf.wI ⟨rfl, rfl⟩
        have t2 : mTw (mi_wI m1 69 0 (byA T k) (n32 (spN T S s (byA T k) k + prW T S k))) T := t1.mv kw (fun p _ x => by omega)
        have S2 : mSt (mi_wI m1 69 0 (byA T k) (n32 (spN T S s (byA T k) k + prW T S k))) 0 S := S1.mv kw (fun p a b d => by omega)
        have k2 : kp (fun k i _ => k = 69 ∧ i = 0) m (mi_wI m1 69 0 (byA T k) (n32 (spN T S s (byA T k) k + prW T S k))) := e5.tr kw
        have o2 : ∀ p, p < 6 → (mi_wI m1 69 0 (byA T k) (n32 (spN T S s (byA T k) k + prW T S k))).1 69 0 p = n32 (spN T S s p (k + 1)) := by
          intro p hp
          rw [rI, es, ht]
          by_cases ep : p = byA T k
          · subst ep
            rw [if_pos ⟨rfl, rfl, rfl⟩, if_pos ⟨rfl, rfl⟩]
          · rw [if_neg (fun x => ep x.2.2), if_neg (fun x => ep x.2.symm), e4 p hp, Nat.add_zero]
        have o3 := o2 (byA T k) (by omega)
        generalize mi_wI m1 69 0 (byA T k) (n32 (spN T S s (byA T k) k + prW T S k)) = m2 at t2 S2 k2 o2 o3 ⊢
        have ecc : n32 (cstN T S s k + prW T S k) = n32 (cstN T S s (k + 1)) := by rw [ec, ht]; rfl
        obtain ⟨ecn, lcn⟩ := cN_eq hs (show byA T k < 6 by omega)
        have e8 := S2 (8 + byA T k) (by omega)
        rw [Nat.zero_add] at e8
        have lsp := spN_le (s := s) (p := byA T k) hT hs (n := k + 1) (by omega)
        rw [show f_X12_isOpen 0 (n32 k) m2 = _ from pm_isOpen (b := 0) t2 hT S2 (Nat.zero_le _) hk, pm_by t2 (by omega)]
        simp (disch := omega) only [pw_if, pw_some, pw_bo, pw_g, lr_l, n32_al, n32_la, n32_in, n32_cl, e8, ecn, o3, n32_lt]
        have fin : ∀ u : Int32, u = (if alB (pyP T S s) (k + 1) then (1 : Int32) else 0) → k < T 2 ∧ n32 (cstN T S s k + prW T S k) = n32 (cstN T S s (k + 1)) ∧ u = (if alB (pyP T S s) (k + 1) then (1 : Int32) else 0) ∧ True ∧ (∀ p, p < 6 → m2.1 69 0 p = n32 (spN T S s p (k + 1))) ∧ kp (fun k i _ => k = 69 ∧ i = 0) m m2 := fun u hu => ⟨hk, ecc, hu, trivial, o2, k2⟩
        by_cases ha : alB (pyP T S s) k = true
        · rw [ha] at ea ⊢
          rw [Bool.true_and] at ea
          rw [ea] at fin
          rw [ea]
          unfold pyP at fin ⊢
          rw [ht] at fin ⊢
          refine ⟨fun x => absurd x (by decide), fun _ => ?_⟩
          by_cases h0 : S (22 + k) = 0
          · rw [if_pos h0]
            refine ⟨fun x => absurd x (by decide), fun _ => ⟨by omega, by omega, fun x => fin 0 ?_, fun x => fin 1 ?_⟩⟩
            · rw [if_neg]; simp [h0]; omega
            · rw [if_pos]; simp [h0]; omega
          · rw [if_neg h0]
            exact ⟨fun _ => fin 0 (by rw [if_neg]; simp [h0]), fun x => absurd (by trivial) x⟩
        · have ha : alB (pyP T S s) k = false := by simpa using ha
          rw [ha] at ea ⊢
          rw [Bool.false_and] at ea
          rw [ea] at fin
          rw [ea]
          exact ⟨fun _ => fin 0 rfl, fun x => absurd rfl x⟩
      have esub : (n32 (sN S k) - n32 (barA T k)).toInt = (sN S k : Int) - barA T k := by
        rw [Int32.toInt_sub, n32_int (by omega), n32_int (by omega), Int.bmod_eq_of_le] <;> omega
      refine ⟨fun x => j77 _ ?_, fun x => j77 _ ?_⟩
      · rw [i32_le, esub, show (0 : Int32).toInt = 0 by decide] at x
        rw [n32_sub (by omega)]; rfl
      · rw [i32_le, esub, show (0 : Int32).toInt = 0 by decide] at x
        unfold prW
        rw [show sN S k - barA T k = 0 by omega]; rfl
    · have ht : s.testBit k = false := by simpa using ht
      unfold f_X12_costOf_J151
      rw [pw_some, lr_l, n32_al]
      refine ⟨by omega, ?_, ?_, rfl, fun p hp => ?_, e5⟩
      · rw [ec, ht]; simp
      · rw [ea]
        unfold pyP
        rw [ht]
        simp
      · show m1.1 69 0 p = _
        rw [e4 p hp, es, ht]; simp
  · rw [rI]
    by_cases ep : p = k
    · subst ep
      rw [if_pos ⟨rfl, rfl, rfl⟩]
    · rw [if_neg (fun x => ep x.2.2)]; exact e3 p (by omega)
theorem pm_lampsWith {m : mi_M} {T : Nat → Nat} {cd : Nat → List Int32} {S : Nat → Int32} {s : Nat} (h : mT m T cd) (hS : mSt m 0 S) (hs : sOK T S) : wo (f_X12_lampsWith (n32 s) m) (fun r => r.1 = n32 (bbA T cd S s (T 2)) ∧ kp (fun k i _ => pmE k i) m r.2) := by
  have hT := h.1.2.1
  have h82 := hT.1.2.1
  have h60 := hT.1.1
  unfold f_X12_lampsWith
  rw [show f_X12_lampsOf 0 m = _ from pm_lampsOf (b := 0) h.1.1 hT hS hs (Nat.zero_le _), pe_bo, pw_bo]
  refine pl_for (fun k s' => s'.1 = n32 (bbA T cd S s k) ∧ s'.2.1 = n32 k ∧ kp (fun k i _ => pmE k i) m s'.2.2) (T 2) (by omega) ⟨rfl, rfl, kp.rf⟩ ?_
  rintro k ⟨l4, l5, m1⟩ hk ⟨e1, e2, e3⟩
  simp only at e1 e2 e3
  subst e1 e2
  have t1 : mT m1 T cd := h.fr e3
  have S1 : mSt m1 0 S := hS.fr e3
  have es : bbA T cd S s (k + 1) = if s.testBit k = true ∧ 0 < loW T cd S k then bbA T cd S s k ||| 2 ^ toA T k else bbA T cd S s k := rfl
  unfold f_X12_lampsWith_B8
  simp (disch := omega) only [pm_wrongs t1.1.1, pw_if, pw_some, pw_g, pw_bo, n32_le, lr_r, n32_la, n32_in, n32_cl]
  refine ⟨fun hz => ?_, fun hz => ⟨by omega, ?_⟩⟩
  · have : k = T 2 := by omega
    subst this
    unfold f_X12_lampsWith_K8
    simp only [pw_some]
    exact ⟨by trivial, e3⟩
  · have hk : k < T 2 := by omega
    obtain ⟨b1, b2, b3, b4, b5⟩ := hT.2.2.1 k hk
    obtain ⟨esn, lsn⟩ := sN_eq hs (show k < 8 by omega)
    have lb := barA_le hT k
    have e14 := S1 (14 + k) (by omega)
    rw [Nat.zero_add] at e14
    have e0 := S1 0 (by omega)
    rw [Nat.zero_add] at e0
    have fin : ∀ m2 (u : Bool), u = decide (s.testBit k = true ∧ 0 < loW T cd S k) → mTw m2 T → kp (fun k i _ => pmE k i) m m2 → wo (f_X12_lampsWith_J82 (n32 (bbA T cd S s k)) (n32 k) (if u then 1 else 0) m2) (lr (fun s' => k < T 2 ∧ s'.1 = n32 (bbA T cd S s (k + 1)) ∧ s'.2.1 = n32 (k + 1) ∧ kp (fun k i _ => pmE k i) m s'.2.2) (fun e => wo (f_X12_lampsWith_K8 e) (fun r => r.1 = n32 (bbA T cd S s (T 2)) ∧ kp (fun k i _ => pmE k i) m r.2))) := by
      intro m2 u hu t2 k2
      unfold f_X12_lampsWith_J82 f_X12_lampsWith_J102
      rw [pm_to t2 (by omega), es]
      simp only [pe_bo, pw_if, pw_let, pw_some, lr_l, n32_al]
      cases u with
      | true =>
        refine ⟨fun x => absurd x (by decide), fun _ => ⟨hk, ?_, by trivial, k2⟩⟩
        rw [if_pos (of_decide_eq_true hu.symm), bb_or (by omega)]
      | false =>
        refine ⟨fun _ => ⟨hk, ?_, by trivial, k2⟩, fun x => absurd rfl x⟩
        rw [if_neg (of_decide_eq_false hu.symm), Int32.or_zero]
    have j50 : ∀ u : Int32, u = n32 (min (sN S k) (barA T k)) → wo (f_X12_lampsWith_J50 (n32 s) (n32 (bbA T cd S s k)) (n32 k) m1 u) (lr (fun s' => k < T 2 ∧ s'.1 = n32 (bbA T cd S s (k + 1)) ∧ s'.2.1 = n32 (k + 1) ∧ kp (fun k i _ => pmE k i) m s'.2.2) (fun e => wo (f_X12_lampsWith_K8 e) (fun r => r.1 = n32 (bbA T cd S s (T 2)) ∧ kp (fun k i _ => pmE k i) m r.2))) := by
      rintro u rfl
      unfold f_X12_lampsWith_J50 f_X12_lampsWith_J81
      simp (disch := omega) only [tb_1, pw_if, pw_g, pw_b, n32_lin, n32_lcl, e0]
      refine ⟨fun ht => ⟨by omega, ?_⟩, fun ht => ?_⟩
      · refine pw_mono (pm_burnOf t1 hk) ?_
        rintro ⟨v, m2⟩ ⟨d1, d2⟩
        simp only at d1 d2
        have d3 : kp (fun k i _ => pmE k i) m1 m2 := d2.mo (fun k i p a => by omega)
        have d1 : v = loW T cd S k := d1
        subst d1
        refine ⟨fun x => ?_, fun x => ?_⟩
        · exact fin m2 false (by rw [eq_comm]; exact decide_eq_false (fun z => absurd z.2 (i32_nlt.mpr x))) (t1.1.1.mv d3 (fun p _ x => by omega)) (e3.tr d3)
        · exact fin m2 true (by rw [eq_comm]; exact decide_eq_true ⟨ht, i32_nle.mp x⟩) (t1.1.1.mv d3 (fun p _ x => by omega)) (e3.tr d3)
      · exact fin m1 false (by rw [eq_comm]; exact decide_eq_false (fun z => ht z.1)) t1.1.1 e3
    rw [pm_barOf t1.1.1 hT hk, pw_some, e14, esn, n32_le (by omega) (by omega)]
    refine ⟨fun x => ?_, fun x => ⟨by omega, j50 _ ?_⟩⟩
    · rw [pw_some]
      exact j50 _ (by rw [show min (sN S k) (barA T k) = barA T k by omega])
    · rw [show min (sN S k) (barA T k) = sN S k by omega]
theorem po_pay : ob_pay Rel := by
  rintro a0 a1 a2 mem ⟨T, cd, c, y, hR⟩
  obtain ⟨h1, h2, h3, h4, h5, h6, ⟨S, hc, hm, hs⟩, h8, h9, h10⟩ := id hR
  have hT := h2.1.2.1
  have h60 := hT.1.1
  have h82 := hT.1.2.1
  have h256 := pow8 h82
  rcases two_or (T 0) a0 a1 with ⟨i, j, hi, hj, hij, rfl, rfl⟩ | hx
  · by_cases hw : (0 : Int32) ≤ a2 ∧ a2 ≤ 1
    · obtain ⟨w, g1, g2, rfl⟩ := wi_of (lo := 0) (hi := 1) (by omega) (by omega) hw
      refine ob_ev (f1 := f_X11_pay (n32 i) (n32 j) (n32 w)) (f2 := f_X12_pay (n32 i) (n32 j) (n32 w)) hR (if w = 0 then o1 (pyA T cd S i j (2 ^ T 2)) else o2 (pyA T cd S i j (2 ^ T 2))) ?_ ?_
      · unfold f_X11_pay
        rw [h1.2.2.1, pe_g (n8 h1.1), pc_two h2.1.1 hT hi hj hij, pe_bo, if_neg (by decide), pc_within, wi_y hw, pe_bo, if_neg (by decide), pe_g (n8 h1.1)]
        simp only [pw_b, pw_some]
        exact pc_pay h2 hc hs (by omega) (by omega) (by omega)
      · intro m1 R1 hmm
        obtain ⟨r1, r2, r3, -⟩ := R1
        have gm := hmm S 0 hm
        have q1 : mTw (mi_wI m1 12 0 0 0) T := r3.1.1.mv kp_thr (fun p _ x => by omega)
        unfold f_X12_pay
        rw [pe_let, pm_two q1 hT hi hj hij, pe_bo, if_neg (by decide), pm_within, wi_y hw, pe_bo, if_neg (by decide), pw_bo]
        refine pl_for (fun k s => s.1 = o2 (pyA T cd S i j k) ∧ s.2.1 = o1 (pyA T cd S i j k) ∧ s.2.2.1 = n32 k ∧ kp (fun k i p => pXm k i p) m1 s.2.2.2) (2 ^ T 2) (by omega) ⟨rfl, rfl, rfl, kp_thr⟩ ?_
        rintro k ⟨l9, l10, l11, m2⟩ hk ⟨e1, e2, e3, e4⟩
        simp only at e1 e2 e3 e4
        subst e1 e2 e3
        have t2 : mT m2 T cd := r3.mv e4 (fun k i p a b d => by omega)
        have S2 : mSt m2 0 S := gm.mv e4 (fun p a b d => by omega)
        unfold f_X12_pay_B34
        simp (disch := omega) only [pm_wrongs t2.1.1, sh_1, pw_if, pw_some, pw_b, pw_bo, n32_le, lr_r]
        refine ⟨fun hz => ?_, fun hz => ?_⟩
        · have : k = 2 ^ T 2 := by omega
          subst this
          unfold f_X12_pay_K34 f_X12_pay_J110
          simp only [pw_if, pw_some]
          refine ⟨fun x => ⟨?_, e4⟩, fun x => ⟨?_, e4⟩⟩
          · rw [show (0 : Int32) = n32 0 from rfl, n32_eq (by omega) (by omega)] at x
            rw [if_pos x]
          · rw [show (0 : Int32) = n32 0 from rfl, n32_eq (by omega) (by omega)] at x
            rw [if_neg x]
        · have hk : k < 2 ^ T 2 := by omega
          have es : pyA T cd S i j (k + 1) = if pyB T S k = true ∧ lessO (pyA T cd S i j k) (cstN T S k (T 2)) = true ∧ cst T (bbA T cd S k (T 2)) i j < 1024 then some (cstN T S k (T 2), k) else pyA T cd S i j k := rfl
          have lc := cstN_le (T := T) (s := k) hs h82
          refine pw_mono (pm_costOf (s := k) t2.1.1 hT S2 hs) ?_
          rintro ⟨v, m3⟩ ⟨b1, b3⟩
          simp only at b1 b3
          have k3 : kp (fun k i p => pXm k i p) m1 m3 := e4.tr (b3.mo (fun k i p a => by omega))
          have t3 : mT m3 T cd := r3.mv k3 (fun k i p a b d => by omega)
          have S3 : mSt m3 0 S := gm.mv k3 (fun p a b d => by omega)
          have skip : ∀ m4, pyA T cd S i j (k + 1) = pyA T cd S i j k → kp (fun k i p => pXm k i p) m1 m4 → wo (f_X12_pay_J93 (n32 k) (o2 (pyA T cd S i j k)) (o1 (pyA T cd S i j k)) m4) (lr (fun s' => k < 2 ^ T 2 ∧ s'.1 = o2 (pyA T cd S i j (k + 1)) ∧ s'.2.1 = o1 (pyA T cd S i j (k + 1)) ∧ s'.2.2.1 = n32 (k + 1) ∧ kp (fun k i p => pXm k i p) m1 s'.2.2.2) (fun e => wo (f_X12_pay_K34 (n32 w) e) (fun r => r.1 = (if w = 0 then o1 (pyA T cd S i j (2 ^ T 2)) else o2 (pyA T cd S i j (2 ^ T 2))) ∧ kp (fun k i p => pXm k i p) m1 r.2))) := by
            intro m4 he k4
            unfold f_X12_pay_J93
            rw [pw_some, lr_l, he]
            exact ⟨hk, rfl, rfl, by rw [n32_al], k4⟩
          by_cases hb : pyB T S k = true
          · rw [if_pos hb] at b1
            subst b1
            have j70 : lessO (pyA T cd S i j k) (cstN T S k (T 2)) = true → wo (f_X12_pay_J70 (n32 i) (n32 j) (o2 (pyA T cd S i j k)) (o1 (pyA T cd S i j k)) (n32 k) (n32 (cstN T S k (T 2))) m3) (lr (fun s' => k < 2 ^ T 2 ∧ s'.1 = o2 (pyA T cd S i j (k + 1)) ∧ s'.2.1 = o1 (pyA T cd S i j (k + 1)) ∧ s'.2.2.1 = n32 (k + 1) ∧ kp (fun k i p => pXm k i p) m1 s'.2.2.2) (fun e => wo (f_X12_pay_K34 (n32 w) e) (fun r => r.1 = (if w = 0 then o1 (pyA T cd S i j (2 ^ T 2)) else o2 (pyA T cd S i j (2 ^ T 2))) ∧ kp (fun k i p => pXm k i p) m1 r.2))) := by
              intro hl0
              unfold f_X12_pay_J70
              rw [pw_b]
              refine pw_mono (pm_lampsWith (s := k) t3 S3 hs) ?_
              rintro ⟨v, m4⟩ ⟨d1, d2⟩
              simp only at d1 d2
              subst d1
              have k4 : kp (fun k i p => pXm k i p) m1 m4 := k3.tr (d2.mo (fun k i p a => Or.inr (Or.inl a)))
              have t4 : mT m4 T cd := r3.mv k4 (fun k i p a b d => by omega)
              rw [pw_b]
              refine pw_mono (pm_isLit t4.1.1 hT (bbA_lt hT (T 2) (Nat.le_refl _)) (show i < 6 by omega) (show j < 6 by omega)) ?_
              rintro ⟨v, m5⟩ ⟨f1, f2⟩
              simp only at f1 f2
              have k5 : kp (fun k i p => pXm k i p) m1 m5 := k4.tr (f2.mo (fun k i p a => Or.inr (Or.inl a)))
              by_cases hl : cst T (bbA T cd S k (T 2)) i j < 1024
              · rw [if_pos hl] at f1
                subst f1
                rw [if_neg (show ¬ (1 : Int32) = 0 by decide)]
                unfold f_X12_pay_J93
                rw [pw_some, lr_l, es, if_pos ⟨hb, hl0, hl⟩]
                exact ⟨hk, rfl, rfl, by rw [n32_al], k5⟩
              · rw [if_neg hl] at f1
                subst f1
                rw [if_pos (show (0 : Int32) = 0 from rfl)]
                exact skip m5 (by rw [es, if_neg (fun x => hl x.2.2)]) k5
            refine ⟨fun x => absurd x (n32_nn (by omega)).mp, fun _ => ⟨fun x => j70 ?_, fun x => ⟨fun z => skip m3 ?_ k3, fun z => j70 ?_⟩⟩⟩
            · cases hp : pyA T cd S i j k with
              | none => rfl
              | some v =>
                rw [hp] at x
                have := (pyA_lt (cd := cd) hT hs k v hp).2
                exact absurd x (n32_nn (by omega)).mp
            · cases hp : pyA T cd S i j k with
              | none => rw [hp] at x; exact absurd (by decide) x
              | some v =>
                rw [hp] at z
                have lv := (pyA_lt (cd := cd) hT hs k v hp).1
                have z : n32 v.1 ≤ n32 (cstN T S k (T 2)) := z
                rw [n32_le (by omega) (by omega)] at z
                rw [es, hp, if_neg]
                rintro ⟨-, q, -⟩
                have q : cstN T S k (T 2) < v.1 := of_decide_eq_true q
                omega
            · cases hp : pyA T cd S i j k with
              | none => rfl
              | some v =>
                rw [hp] at z
                have lv := (pyA_lt (cd := cd) hT hs k v hp).1
                have z : ¬ n32 v.1 ≤ n32 (cstN T S k (T 2)) := z
                rw [n32_le (by omega) (by omega)] at z
                exact decide_eq_true (show cstN T S k (T 2) < v.1 by omega)
          · rw [if_neg hb] at b1
            subst b1
            exact ⟨fun _ => skip m3 (by rw [es, if_neg (fun x => hb x.1)]) k3, fun x => absurd (show (-1 : Int32) < 0 by decide) x⟩
    · refine ob_no (f1 := f_X11_pay (n32 i) (n32 j) a2) (f2 := f_X12_pay (n32 i) (n32 j) a2) (v := -1) hR ?_ ?_
      · unfold f_X11_pay f_X11_pay_J21
        rw [h1.2.2.1, pe_g (n8 h1.1), pc_two h2.1.1 hT hi hj hij, pe_bo, if_neg (by decide), pc_within, wi_n hw, pe_bo, if_pos rfl]
      · have q1 : mTw (mi_wI mem 12 0 0 0) T := h3.1.1.mv kp_thr (fun p _ x => by omega)
        unfold f_X12_pay f_X12_pay_J23
        rw [pe_let, pm_two q1 hT hi hj hij, pe_bo, if_neg (by decide), pm_within, wi_n hw, pe_bo, if_pos rfl]
  · refine ob_no (f1 := f_X11_pay a0 a1 a2) (f2 := f_X12_pay a0 a1 a2) (v := -1) hR ?_ ?_
    · unfold f_X11_pay f_X11_pay_J21
      rw [h1.2.2.1, pe_g (n8 h1.1), pc_two_n h2.1.1 hT hx, pe_bo, if_pos rfl]
    · have q1 : mTw (mi_wI mem 12 0 0 0) T := h3.1.1.mv kp_thr (fun p _ x => by omega)
      unfold f_X12_pay f_X12_pay_J23
      rw [pe_let, pm_two_n q1 hT hx, pe_bo, if_pos rfl]
