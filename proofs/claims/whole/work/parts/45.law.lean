/-! ===== law, and what does not ask for the harm so far ===== -/
def eq1 (S S' : Nat → Int32) : Prop := ∀ q, q ≠ 1 → S q = S' q
theorem eq1.ls {S S' : Nat → Int32} (h : eq1 S S') (n : Nat) : lsA S n = lsA S' n := by
  unfold lsA
  refine bs_congr (fun p hp => ?_)
  rw [h (2 + p) (by omega)]
theorem eq1.sleep {T : Nat → Nat} {cd : Nat → List Int32} {S S' : Nat → Int32} (h : eq1 S S') : eq1 (aSleep T cd S) (aSleep T cd S') := by
  intro q hq
  unfold aSleep
  rw [if_neg hq, if_neg hq, h 0 (by omega), h q hq, h (q + 8) (by omega)]
theorem eq1.up {S S' : Nat → Int32} {x : Nat} {v v' : Int32} (h : eq1 S S') (hv : v = v') : eq1 (fu S x v) (fu S' x v') := by
  intro q hq
  subst hv
  unfold fu
  split
  · rfl
  · exact h q hq
theorem eq1.say {T : Nat → Nat} {cd : Nat → List Int32} {S S' : Nat → Int32} {w : Nat} (h : eq1 S S') : eq1 (aSay T cd S w) (aSay T cd S' w) := by
  unfold aSay
  exact (h.up (by rw [h (14 + w) (by omega), h 0 (by omega)])).up rfl
theorem eq1.give {T : Nat → Nat} {S S' : Nat → Int32} {w : Nat} {g : Int32} (h : eq1 S S') : eq1 (aGive T S w g) (aGive T S' w g) := by
  unfold aGive
  exact ((h.up (by rw [h (8 + byA T w) (by omega)])).up (by rw [h (8 + toA T w) (by omega)])).up (by rw [h (14 + w) (by omega)])
theorem eq1.ask {T : Nat → Nat} {cd : Nat → List Int32} {S S' : Nat → Int32} {w : Nat} {more : Int32} (h : eq1 S S') : eq1 (aAsk T cd S w more) (aAsk T cd S' w more) := by
  unfold aAsk
  rw [h (14 + w) (by omega)]
  split
  · exact (h.up rfl).up (by rw [h (2 + toA T w) (by omega), h 0 (by omega)])
  · exact h.up rfl
theorem eq1.ok {T : Nat → Nat} {S S' : Nat → Int32} (h : eq1 S S') (hs : sOK T S) : sOK T S' := by
  obtain ⟨h1, h2, ⟨C, hC1, hC2⟩, h4, h5, h6⟩ := hs
  refine ⟨fun p hp => ?_, fun p hp hp2 => ?_, ⟨C, hC1, fun p hp => ?_⟩, fun w hw => ?_, fun w hw => ?_, fun w hw hw2 => ?_⟩
  · rw [← h (2 + p) (by omega)]; exact h1 p hp
  · rw [← h (2 + p) (by omega), ← h (8 + p) (by omega)]; exact h2 p hp hp2
  · rw [← h (8 + p) (by omega)]; exact hC2 p hp
  · rw [← h (14 + w) (by omega)]; exact h4 w hw
  · rw [← h (22 + w) (by omega), ← h (30 + w) (by omega)]; exact h5 w hw
  · rw [← h (22 + w) (by omega), ← h (30 + w) (by omega)]; exact h6 w hw hw2
theorem eq1.sy {S S' : Nat → Int32} (h : eq1 S S') : eq1 S' S := fun q hq => (h q hq).symm
theorem eq1_0 (S : Nat → Int32) (v : Int32) : eq1 (fu S 1 v) S := fun q hq => fu_ne hq
theorem ask_1 {T : Nat → Nat} {cd : Nat → List Int32} {S : Nat → Int32} {w : Nat} {more : Int32} : aAsk T cd S w more 1 = S 1 := by
  unfold aAsk
  split
  · rw [fu_ne (by omega), fu_ne (by omega)]
  · rw [fu_ne (by omega)]
/-- each that would not be refused is asked for -/
def asA (T : Nat → Nat) (cd : Nat → List Int32) (more : Int32) (S : Nat → Int32) : Nat → Nat → Int32
  | 0 => S
  | w + 1 => if asA T cd more S w (22 + w) = 0 ∧ asA T cd more S w (14 + w) ≤ n32 (barA T w) then aAsk T cd (asA T cd more S w) w more else asA T cd more S w
def lawA (T : Nat → Nat) (cd : Nat → List Int32) (more : Int32) (S : Nat → Int32) : Nat → Nat → Int32
  | 0 => S
  | k + 1 => aSleep T cd (asA T cd more (lawA T cd more S k) (T 2))
theorem asA_ok {T : Nat → Nat} {cd : Nat → List Int32} {more : Int32} {S : Nat → Int32} (hT : tOK T) (h : sOK T S) : ∀ w, w ≤ T 2 → sOK T (asA T cd more S w)
  | 0, _ => h
  | w + 1, hw => by
    have ih := asA_ok (cd := cd) (more := more) hT h w (by omega)
    unfold asA
    split
    · exact aAsk_ok hT ih (by omega)
    · exact ih
theorem lawA_ok {T : Nat → Nat} {cd : Nat → List Int32} {more : Int32} {S : Nat → Int32} (hT : tOK T) (h : sOK T S) : ∀ k, sOK T (lawA T cd more S k)
  | 0 => h
  | k + 1 => aSleep_ok hT (asA_ok hT (lawA_ok hT h k) (T 2) (Nat.le_refl _))
theorem asA_1 {T : Nat → Nat} {cd : Nat → List Int32} {more : Int32} {S : Nat → Int32} : ∀ w, asA T cd more S w 1 = S 1
  | 0 => rfl
  | w + 1 => by
    unfold asA
    split
    · rw [ask_1, asA_1 w]
    · exact asA_1 w
theorem cSt_h {m : mi_M} {i : Nat} {S : Nat → Int32} {v : Int32} (h : cSt m i S) : cSt (mi_wI m 5 i 1 v) i (fu S 1 v) := by
  refine ⟨⟨?_, ?_, ?_, ?_⟩, fun p hp => ?_, fun p hp => ?_, fun w hw => ?_⟩
  · rw [rI_ne (by omega), fu_ne (by omega)]; exact h.1.1
  · rw [rI_eq, fu_eq]
  · rw [rI_ne (by omega), h.1.2.2.1]
    refine congrArg n32 (bs_congr (fun w hw => ?_))
    rw [fu_ne (by omega)]
  · rw [rI_ne (by omega), h.1.2.2.2]
    refine congrArg n32 (bs_congr (fun w hw => ?_))
    rw [fu_ne (by omega)]
  · rw [rI_ne (by omega), fu_ne (by omega)]; exact h.2.1 p hp
  · rw [rI_ne (by omega), fu_ne (by omega)]; exact h.2.2.1 p hp
  · rw [rI_ne (by omega), fu_ne (by omega)]; exact h.2.2.2 w hw
/-- the developers' trial: the state as it stands, without harm -/
theorem pc_trial {mem : mi_M} {T : Nat → Nat} {cd : Nat → List Int32} {c : Nat} {S : Nat → Int32} (h2 : cT mem c T cd) (hc : cSt mem 0 S) : wo (f_X5_become 21 0 mem) (fun m1 => cT (mi_wI m1 5 21 1 0) c T cd ∧ cSt (mi_wI m1 5 21 1 0) 21 (fu S 1 0) ∧ kp (fun k j _ => pcE c k j ∨ pcS 21 k j) mem (mi_wI m1 5 21 1 0)) := by
  refine pw_mono (pc_become (i := 21) hc) ?_
  rintro m1 ⟨a1, a2⟩
  have k1 : kp (fun k j _ => pcE c k j ∨ pcS 21 k j) mem (mi_wI m1 5 21 1 0) := (a2.mo (fun k i p a => Or.inr a)).wI (Or.inr ⟨Or.inl rfl, rfl⟩)
  exact ⟨h2.mv (P := fun k j _ => pcS 21 k j) (a2.wI ⟨Or.inl rfl, rfl⟩) (fun k i p a b => by unfold cTk at b; omega), cSt_h a1, k1⟩
theorem po_law : ob_law Rel := by
  rintro a0 a1 mem ⟨T, cd, c, y, hR⟩
  obtain ⟨h1, h2, h3, h4, h5, h6, ⟨S, hc, hm, hs⟩, h8, h9, h10⟩ := id hR
  have hT := h2.1.2.1
  have h82 := hT.1.2.1
  by_cases hg : (1 : Int32) ≤ a0 ∧ a0 ≤ 30
  · by_cases hg2 : (0 : Int32) ≤ a1 ∧ a1 ≤ 9
    · obtain ⟨N, g1, g2, rfl⟩ := wi_of (lo := 1) (hi := 30) (by omega) (by omega) hg
      obtain ⟨M, g3, g4, rfl⟩ := wi_of (lo := 0) (hi := 9) (by omega) (by omega) hg2
      have hs0 : sOK T (fu S 1 0) := (eq1_0 S 0).sy.ok hs
      refine ob_ev (f1 := f_X11_law (n32 N) (n32 M)) (f2 := f_X12_law (n32 N) (n32 M)) hR (lawA T cd (n32 M) (fu S 1 0) N 1) ?_ ?_
      · unfold f_X11_law f_X0_harmByLaw
        rw [pc_within, wi_y hg, pe_bo, if_neg (by decide), pc_within, wi_y hg2, pe_bo, if_neg (by decide), h1.2.2.1, pe_g (n8 h1.1)]
        simp only [pw_b, pw_bo, pw_let, pw_some]
        refine pw_mono (pc_trial h2 hc) ?_
        rintro m1 ⟨a1, a2, a3⟩
        generalize mi_wI m1 5 21 1 0 = m1' at a1 a2 a3 ⊢
        refine pl_for (fun k s => s.1 = n32 k ∧ cT s.2 c T cd ∧ cSt s.2 21 (lawA T cd (n32 M) (fu S 1 0) k) ∧ kp (fun k j _ => pcE c k j ∨ pcS 21 k j) mem s.2) N (by omega) ⟨rfl, a1, a2, a3⟩ ?_
        rintro k ⟨l4, m2⟩ hk ⟨e1, e2, e3, e4⟩
        simp only at e1 e2 e3 e4
        subst e1
        have ok := lawA_ok (cd := cd) (more := n32 M) hT hs0 k
        unfold f_X0_harmByLaw_B19
        simp (disch := omega) only [pw_if, pw_some, pw_bo, n32_le, lr_r]
        refine ⟨fun hz => ?_, fun hz => ?_⟩
        · have : k = N := by omega
          subst this
          unfold f_X0_harmByLaw_K19
          rw [pw_some]
          exact ⟨e3.1.2.1, e2, e4.mo (fun k i p a => by omega)⟩
        · refine pl_for (fun w s => s.1 = n32 w ∧ cT s.2 c T cd ∧ cSt s.2 21 (asA T cd (n32 M) (lawA T cd (n32 M) (fu S 1 0) k) w) ∧ kp (fun k j _ => pcE c k j ∨ pcS 21 k j) mem s.2) (T 2) (by omega) ⟨rfl, e2, e3, e4⟩ ?_
          clear e2 e3 e4 m2
          rintro w ⟨l8, m2⟩ hw ⟨e1, e2, e3, e4⟩
          simp only at e1 e2 e3 e4
          subst e1
          have okw := asA_ok (cd := cd) (more := n32 M) hT ok w hw
          unfold f_X0_harmByLaw_B28 f_X0_harmByLaw_J62
          simp (disch := omega) only [pw_if, pw_some, pw_bo, e2.1.1.1.2.1, n32_le, lr_r, lr_l, n32_al]
          refine ⟨fun hy => ?_, fun hy => ?_⟩
          · have : w = T 2 := by omega
            subst this
            unfold f_X0_harmByLaw_K28
            simp only [pw_bo, pw_some, lr_l]
            refine pw_mono (pc_sleep e2 e3 okw) ?_
            rintro m3 ⟨b1, b2, b3⟩
            exact ⟨by omega, by rw [n32_al], b2, b1, e4.tr b3⟩
          · have hw : w < T 2 := by omega
            rw [pc_isRipe e2.1.1 hT e3 okw hw, pw_some]
            by_cases hr : asA T cd (n32 M) (lawA T cd (n32 M) (fu S 1 0) k) w (22 + w) = 0 ∧ asA T cd (n32 M) (lawA T cd (n32 M) (fu S 1 0) k) w (14 + w) ≤ n32 (barA T w)
            · rw [if_pos hr]
              refine ⟨fun x => absurd x (by decide), fun _ => ?_⟩
              refine pw_mono (pc_beg e2 e3 okw hw (show M ≤ 99 by omega) hr.1) ?_
              rintro m3 ⟨b1, b2, b3⟩
              refine ⟨hw, by trivial, b2, ?_, e4.tr b3⟩
              unfold asA
              rw [if_pos hr]
              exact b1
            · rw [if_neg hr]
              refine ⟨fun _ => ⟨hw, by trivial, e2, ?_, e4⟩, fun x => absurd (by trivial) x⟩
              unfold asA
              rw [if_neg hr]
              exact e3
      · intro m1 R1 hmm
        obtain ⟨r1, r2, r3, -⟩ := R1
        have gm := hmm S 0 hm
        unfold f_X12_law
        rw [pe_let, pm_within, wi_y hg, pe_bo, if_neg (by decide), pm_within, wi_y hg2, pe_bo, if_neg (by decide)]
        simp only [pw_bo, pw_let]
        refine pw_mono (pm_trial (b := 1323) (Or.inl rfl) r3 gm) ?_
        rintro m2 ⟨a1, a2, a3⟩
        have kx : kp (fun k i p => pXm k i p ∨ (k = 12 ∧ i = 0 ∧ p = 24)) m1 (mi_wI m2 12 0 24 (n32 M)) := (a3.mo (fun k i p a => Or.inl a)).wI (Or.inr ⟨rfl, rfl, rfl⟩)
        refine pl_for (fun k s => s.1 = lawA T cd (n32 M) (fu S 1 0) k 1 ∧ s.2.1 = n32 k ∧ mT s.2.2 T cd ∧ (∃ V, mSt s.2.2 1323 V ∧ eq1 V (lawA T cd (n32 M) (fu S 1 0) k)) ∧ s.2.2.1 12 0 24 = n32 M ∧ kp (fun k i p => pXm k i p ∨ (k = 12 ∧ i = 0 ∧ p = 24)) m1 s.2.2) N (by omega) ⟨rfl, rfl, r3.mv kx (fun k i p a b d => by omega), ⟨S, a2.mv (kp.rf.wI (P := fun k i p => k = 12) rfl) (fun p a b d => by omega), (eq1_0 S 0).sy⟩, rI_eq, kx⟩ ?_
        clear kx a1 a2 a3 m2
        rintro k ⟨l9, l10, m2⟩ hk ⟨e1, e2, e3, ⟨V, e4, e5⟩, e6, e7⟩
        simp only at e1 e2 e3 e4 e6 e7
        subst e1 e2
        have ok := lawA_ok (cd := cd) (more := n32 M) hT hs0 k
        unfold f_X12_law_B47
        simp (disch := omega) only [pw_if, pw_some, pw_bo, n32_le, lr_r]
        refine ⟨fun hz => ?_, fun hz => ?_⟩
        · have : k = N := by omega
          subst this
          unfold f_X12_law_K47
          simp only [pw_let, pw_some]
          refine ⟨by trivial, ?_⟩
          refine ⟨fun k i p hn => ?_, fun k i p hn => ?_, e7.2.2⟩
          · rw [rI]
            by_cases ez : k = 12 ∧ i = 0 ∧ p = 24
            · obtain ⟨rfl, rfl, rfl⟩ := ez
              rw [if_pos ⟨rfl, rfl, rfl⟩]
              exact r1.2.2.2.2.2.2.symm
            · rw [if_neg ez]
              exact e7.1 k i p (by omega)
          · exact e7.2.1 k i p (by omega)
        · refine pl_for (fun w s => s.1 = n32 w ∧ mT s.2 T cd ∧ (∃ V, mSt s.2 1323 V ∧ eq1 V (asA T cd (n32 M) (lawA T cd (n32 M) (fu S 1 0) k) w)) ∧ s.2.1 12 0 24 = n32 M ∧ kp (fun k i p => pXm k i p ∨ (k = 12 ∧ i = 0 ∧ p = 24)) m1 s.2) (T 2) (by omega) ⟨rfl, e3, ⟨V, e4, e5⟩, e6, e7⟩ ?_
          clear e3 e4 e5 e6 e7 V m2
          rintro w ⟨l16, m2⟩ hw ⟨e2, e3, ⟨V, e4, e5⟩, e6, e7⟩
          simp only at e2 e3 e4 e6 e7
          subst e2
          have okw := asA_ok (cd := cd) (more := n32 M) hT ok w hw
          have okV : sOK T V := e5.sy.ok okw
          unfold f_X12_law_B56 f_X12_law_J87
          simp (disch := omega) only [pw_if, pw_some, pw_bo, pw_b, pm_wrongs e3.1.1, n32_le, lr_r, lr_l, n32_al]
          refine ⟨fun hy => ?_, fun hy => ?_⟩
          · have : w = T 2 := by omega
            subst this
            unfold f_X12_law_K56
            simp only [pw_b, pw_let, pw_some, lr_l]
            refine pw_mono (pm_passes (b := 1323) e3 e4 okV (by omega)) ?_
            rintro ⟨v, m3⟩ ⟨b1, b2, b3⟩
            simp only at b1 b2 b3
            subst b1
            refine ⟨by omega, ?_, by rw [n32_al], e3.mv b3 (fun k i p a b d => by omega), ⟨_, b2, e5.sleep⟩, ?_, e7.tr (b3.mo (fun k i p a => by omega))⟩
            · show _ = aSleep T cd (asA T cd (n32 M) (lawA T cd (n32 M) (fu S 1 0) k) (T 2)) 1
              rw [aS_1, asA_1, e5.ls]
            · rw [b3.1 12 0 24 (by omega)]; exact e6
          · have hw : w < T 2 := by omega
            rw [show f_X12_isRipe 1323 (n32 w) m2 = _ from pm_isRipe (b := 1323) e3.1.1 hT e4 (by omega) hw, pw_some, e5 (22 + w) (by omega), e5 (14 + w) (by omega)]
            by_cases hr : asA T cd (n32 M) (lawA T cd (n32 M) (fu S 1 0) k) w (22 + w) = 0 ∧ asA T cd (n32 M) (lawA T cd (n32 M) (fu S 1 0) k) w (14 + w) ≤ n32 (barA T w)
            · rw [if_pos hr]
              refine ⟨fun x => absurd x (by decide), fun _ => ?_⟩
              refine pw_mono (pm_asks (b := 1323) e3 e4 (by omega) hw (by rw [e5 (22 + w) (by omega)]; exact hr.1)) ?_
              rintro ⟨v, m3⟩ ⟨b1, b2, b3⟩
              simp only at b1 b2 b3
              refine ⟨hw, by trivial, e3.mv b3 (fun k i p a b d => by omega), ⟨_, b2, ?_⟩, ?_, e7.tr (b3.mo (fun k i p a => by omega))⟩
              · unfold asA
                rw [if_pos hr, e6]
                exact e5.ask
              · rw [b3.1 12 0 24 (by omega)]; exact e6
            · rw [if_neg hr]
              refine ⟨fun _ => ⟨hw, by trivial, e3, ⟨V, e4, ?_⟩, e6, e7⟩, fun x => absurd (by trivial) x⟩
              unfold asA
              rw [if_neg hr]
              exact e5
    · refine ob_no (f1 := f_X11_law a0 a1) (f2 := f_X12_law a0 a1) (v := -1) hR ?_ ?_
      · unfold f_X11_law f_X11_law_J20
        rw [pc_within, wi_y hg, pe_bo, if_neg (by decide), pc_within, wi_n hg2, pe_bo, if_pos rfl]
      · unfold f_X12_law f_X12_law_J25
        rw [pe_let, pm_within, wi_y hg, pe_bo, if_neg (by decide), pm_within, wi_n hg2, pe_bo, if_pos rfl]
  · refine ob_no (f1 := f_X11_law a0 a1) (f2 := f_X12_law a0 a1) (v := -1) hR ?_ ?_
    · unfold f_X11_law f_X11_law_J20
      rw [pc_within, wi_n hg, pe_bo, if_pos rfl]
    · unfold f_X12_law f_X12_law_J25
      rw [pe_let, pm_within, wi_n hg, pe_bo, if_pos rfl]
