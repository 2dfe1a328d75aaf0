theorem pm_readOnce {L : List Nat} {c n : Nat} {m : mi_M} {P : PS} (hL : tkN L c) (hn : n ≤ c) (h : rS m L c n 0) (hp : mP m L P n) : wo (mi_bo (f_X12_readOnce m) fun m36 => f_X12_takeSign (59 : Int32) m36) (mQ L c m (if 7 ≤ wX L n ∧ wX L n ≤ 11 then lnO L n (wX L n - 7) P else ((n, 1 + 16 * plT L n), P))) := by
  have hc := hL.c
  have wk : wX L n < 26 → kD L n = 2 := wX_k
  have hw : f_X12_wordHere 7 5 m = some (if 7 ≤ wX L n ∧ wX L n ≤ 11 then n32 (wX L n - 7) else -1) := by
    rw [show f_X12_wordHere 7 5 m = _ from pm_wordHere (f := 7) (k := 5) h hL (by omega)]
    by_cases z : 7 ≤ wX L n ∧ wX L n ≤ 11
    · rw [if_pos z, if_pos (by omega)]
    · rw [if_neg z, if_neg (by omega)]
  unfold f_X12_readOnce
  rw [pw_bo, hw, pe_bo]
  have bad : ∀ (e : Nat) (v1 : Int32) (x : (Nat × Nat) × PS), e ≠ 0 → e < 10 → x.1 = (n, e + 16 * plT L n) → wo (mi_bo (f_X12_wrong (n32 e) m) fun m20 => f_X12_readOnce_J37 v1 m20) (fun a => wo (f_X12_takeSign 59 a) (mQ L c m x)) := by
    intro e v1 x he he2 hx
    rw [pw_bo]
    refine pw_mono (pm_wrong (e := e) h hL he2) ?_
    intro m2 h2
    unfold f_X12_readOnce_J37
    rw [if_neg (fun y => absurd (h2.1.f0.2.mp y) (by show e + 16 * plT L n ≠ 0; omega)), pw_some]
    exact mq_bad hL h2.1 (by show e + 16 * plT L n ≠ 0; omega) hx (h2.2.mo (fun k i p a => by omega))
  by_cases a7 : 7 ≤ wX L n ∧ wX L n ≤ 11
  · rw [if_pos a7, if_pos a7, if_pos (n32_ge0 (by omega))]
    have nc := hL.k hn (by rw [wk (by omega)]; decide)
    have b5 : wX L n - 7 < 5 := by omega
    generalize wX L n - 7 = b at b5
    have ton : ((m.1 12 0 17 >>> (n32 b &&& 31)) &&& (1 : Int32)) = 1 ↔ P.2.2.1 b = true := by
      rw [hp.2.2.1, tb_1 (by omega), bs_tb]
      simp [b5]
    unfold lnO
    by_cases o : P.2.2.1 b = true
    · rw [if_pos o, if_pos (ton.mpr o)]
      exact bad 3 _ _ (by decide) (by decide) rfl
    rw [if_neg o, if_neg (fun x => o (ton.mp x))]
    unfold f_X12_readOnce_J37 f_X12_readOnce_J126
    rw [if_pos (h.f0.2.mpr rfl), pw_let, hp.2.2.1, bs_up b5, pw_let]
    have ka : kp (fun k i p => k = 12 ∧ i = 0 ∧ p = 17) m (mi_wI m 12 0 17 (n32 (bs (upB P.2.2.1 b) 5))) := kp.rf.wI ⟨rfl, rfl, rfl⟩
    have wa : (mi_wI m 12 0 17 (n32 (bs (upB P.2.2.1 b) 5))).1 12 0 17 = n32 (bs (upB P.2.2.1 b) 5) := rI_eq
    generalize mi_wI m 12 0 17 (n32 (bs (upB P.2.2.1 b) 5)) = m1 at ka wa
    have r1 : rS m1 L c n 0 := h.mv ka (by omega) (by omega) (fun p => by omega) (fun i p a => by omega)
    have r2 := rp_at r1 (show n + 1 ≤ c by omega)
    generalize mi_wI m1 12 0 7 (m1.1 12 0 7 + 1) = m2 at r2
    have k2 : kp (fun k i p => k = 12 ∧ i = 0 ∧ (p = 7 ∨ p = 8 ∨ p = 17)) m m2 := (ka.mo (fun k i p a => by omega)).tr (r2.2.mo (fun k i p a => by omega))
    have w2 : m2.1 12 0 17 = n32 (bs (upB P.2.2.1 b) 5) := by rw [r2.2.1 12 0 17 (by omega)]; exact wa
    obtain ⟨q, q1, q2, q3⟩ := hp.2.2.2
    have q1' : m2.1 12 0 13 = n32 q := by rw [k2.1 12 0 13 (by omega)]; exact q1
    by_cases b2 : b < 2
    · rw [if_pos b2, if_neg (by rw [n32_Lle (by omega) (by decide)]; show ¬ 2 ≤ b; omega)]
      have num : ∀ hx : Nat, hx = (if b = 0 then 31 else 11) → wo (f_X12_readOnce_J93 (n32 b) m2 (n32 hx - 1)) (fun a => wo (f_X12_takeSign 59 a) (mQ L c m (lnB L n b P))) := by
        intro hx hhx
        unfold f_X12_readOnce_J93 f_X12_readOnce_J126
        rw [pw_b]
        have hx1 : hx < 100000 := by rw [hhx]; split <;> omega
        refine pw_mono (show wo (f_X12_takeNumber 0 (n32 hx - 1) m2) _ from pm_takeNumber (lo := 0) (hx := hx) r2.1 hL (by decide) hx1) ?_
        rintro ⟨v, m3⟩ ⟨r3, ev⟩
        simp only at r3 ev
        dsimp only
        rw [n32_la, pw_g, pw_let, n32_cl (by omega), pw_some]
        refine ⟨vin (by omega) (by decide), ?_⟩
        have k3 : kp (fun k i p => k = 12 ∧ i = 0 ∧ (p = 7 ∨ p = 8 ∨ p = 17) ∨ k = 56 ∧ i = 0 ∧ p = 104 + b) m (mi_wI m3 56 0 (104 + b) v) := ((k2.mo (fun k i p a => Or.inl a)).tr (r3.2.mo (fun k i p a => by omega))).wI (by omega)
        have w3 : (mi_wI m3 56 0 (104 + b) v).1 12 0 17 = n32 (bs (upB P.2.2.1 b) 5) := by rw [rI_ne (by omega), r3.2.1 12 0 17 (by omega)]; exact w2
        have w4 : (mi_wI m3 56 0 (104 + b) v).1 56 0 (104 + b) = v := rI_eq
        have r3' : rS (mi_wI m3 56 0 (104 + b) v) L c (sx L (eN L 0 hx) (n + 1, 0)).1 (sx L (eN L 0 hx) (n + 1, 0)).2 := rp56 r3.1
        generalize mi_wI m3 56 0 (104 + b) v = m4 at k3 w3 w4 r3'
        have hx0 : (lnB L n b P).1 = sx L (eS L 59) (sx L (eN L 0 hx) (n + 1, 0)) := by rw [hhx]; rfl
        refine mq_end hL r3' hx0 (fun z => ?_) (k3.mo (fun k i p a => by omega))
        rw [if_pos z] at ev
        refine ⟨fun x hx h2 => ?_, ?_, w3, ?_⟩
        · show m4.1 56 0 (100 + x) = n32 (upT P.1 (4 + b) (vL L (n + 1)) x)
          by_cases y : x = 4 + b
          · rw [y, up_e, show 100 + (4 + b) = 104 + b by omega, w4, ev]
          · rw [up_n y, k3.1 56 0 _ (by omega)]
            exact hp.1 x hx h2
        · show namM m4 L P.2.1 (upT P.1 (4 + b) (vL L (n + 1)) 0)
          rw [up_n (by omega)]
          exact hp.2.1.mv k3 (by omega) (fun p => by omega)
        · refine ⟨q, by rw [k3.1 12 0 13 (by omega)]; exact q1, ?_, fun l hl => ?_⟩
          · rw [(sx_0 z).2.2]
            show q ≤ n + 1 + 1
            omega
          · have ub : upB P.2.2.1 b (2 + l) = P.2.2.1 (2 + l) := if_neg (by omega)
            show (upB P.2.2.1 b (2 + l) = false ∧ _) ∨ (upB P.2.2.1 b (2 + l) = true ∧ _)
            rw [ub, k3.1 56 0 _ (by omega)]
            rcases q3 l hl with ⟨c1, c2, c3⟩ | ⟨c1, f, c2, c3, c4, c5⟩
            · exact Or.inl ⟨c1, c2, c3⟩
            · refine Or.inr ⟨c1, f, c2, c3, fun k hk => ?_, by rw [k3.1 57 0 _ (by omega)]; exact c5⟩
              rw [k3.1 57 0 _ (by omega), k3.1 58 0 _ (by omega)]
              exact c4 k hk
      by_cases b0 : b = 0
      · rw [if_pos (by rw [b0]; rfl)]
        exact num 31 (by rw [if_pos b0])
      · rw [if_neg (by rw [show (0 : Int32) = n32 0 from rfl, n32_eq (by omega) (by omega)]; exact b0)]
        exact num 11 (by rw [if_neg b0])
    · rw [if_neg b2, if_pos (by rw [n32_Lle (by omega) (by decide)]; show 2 ≤ b; omega), n32_la, show n32 (106 + b) - 2 = n32 (106 + (b - 2)) by rw [show (2 : Int32) = n32 2 from rfl, n32_sub (by omega)]; congr 1; omega]
      rw [pw_g, pw_let, n32_cl (by omega), q1']
      refine ⟨vin (by omega) (by decide), ?_⟩
      have k3 : kp (fun k i p => k = 12 ∧ i = 0 ∧ (p = 7 ∨ p = 8 ∨ p = 17) ∨ k = 56 ∧ i = 0 ∧ p = 106 + (b - 2)) m (mi_wI m2 56 0 (106 + (b - 2)) (n32 q)) := (k2.mo (fun k i p a => Or.inl a)).wI (by omega)
      have w3 : (mi_wI m2 56 0 (106 + (b - 2)) (n32 q)).1 12 0 17 = n32 (bs (upB P.2.2.1 b) 5) := by rw [rI_ne (by omega)]; exact w2
      have w4 : (mi_wI m2 56 0 (106 + (b - 2)) (n32 q)).1 56 0 (106 + (b - 2)) = n32 q := rI_eq
      have q3' : (mi_wI m2 56 0 (106 + (b - 2)) (n32 q)).1 12 0 13 = n32 q := by rw [rI_ne (by omega)]; exact q1'
      have r3' : rS (mi_wI m2 56 0 (106 + (b - 2)) (n32 q)) L c (n + 1) 0 := rp56 r2.1
      generalize mi_wI m2 56 0 (106 + (b - 2)) (n32 q) = m3 at k3 w3 w4 q3' r3'
      obtain ⟨r, er⟩ := (pt_e hL 17000).1 0 0 (n + 1) (by omega) (by omega) (by omega) (by omega)
      have ob := (pt_b hL 17000).1 0 0 (n + 1) r (by omega) (by omega) (by omega) er
      rw [er, pw_bo]
      refine pw_mono (pm_all hL (by omega) er r3' q3' (by omega)) ?_
      intro m4 h4
      rw [pw_bo]
      match r, ob, h4 with
      | .inl (k, nf), ob, h4 =>
        obtain ⟨o1, o2, o3, o4⟩ := ob.1 k nf rfl
        obtain ⟨a1, q', a2, a3, a4⟩ := h4.1 k nf rfl
        refine pw_mono (pm_emit a4 (by omega)) ?_
        rintro m5 ⟨-, -, -, b4⟩
        rw [pw_some]
        exact mq_bad hL (a1.em b4) (by omega) rfl (((k3.mo (fun k i p a => by omega)).tr (h4.2.2.mo (fun k i p a => by omega))).tr (b4.mo (fun k i p a => by omega)))
      | .inr (n1, c1), ob, h4 =>
        obtain ⟨o1, o2, o3, o4, -⟩ := ob.2 n1 c1 rfl
        obtain ⟨a1, a2⟩ := h4.2.1 n1 c1 rfl
        refine pw_mono (pm_emit a2.1 (by omega)) ?_
        rintro m5 ⟨b1, b2, b3, b4⟩
        rw [pw_some]
        have kall : kp (fun k i p => k = 12 ∧ i = 0 ∧ (p = 7 ∨ p = 8 ∨ p = 17 ∨ p = 13) ∨ k = 56 ∧ i = 0 ∧ p = 106 + (b - 2) ∨ (k = 57 ∨ k = 58) ∧ i = 0 ∧ 1100 + q ≤ p) m m5 := ((k3.mo (fun k i p a => by omega)).tr (h4.2.2.mo (fun k i p a => by omega))).tr (b4.mo (fun k i p a => by omega))
        refine mq_end (s := (n1, 0)) hL (a1.em b4) rfl (fun _ => ?_) (kall.mo (fun k i p a => by omega))
        have e17 : m5.1 12 0 17 = n32 (bs (upB P.2.2.1 b) 5) := by rw [b4.1 12 0 17 (by omega), h4.2.2.1 12 0 17 (by omega)]; exact w3
        refine ⟨fun x hx h2 => ?_, hp.2.1.mv kall (by omega) (fun p => by omega), ?_, ?_⟩
        · rw [kall.1 56 0 _ (by omega)]
          exact hp.1 x hx h2
        · show m5.1 12 0 17 = n32 (bs (upB P.2.2.1 (2 + (b - 2))) 5)
          rw [show 2 + (b - 2) = b by omega]
          exact e17
        · refine ⟨q + c1.length + 1, b1, by show q + c1.length + 1 ≤ n1; omega, fun l hl => ?_⟩
          show (upB P.2.2.1 (2 + (b - 2)) (2 + l) = false ∧ _ ∧ upC P.2.2.2 (b - 2) c1 l = dfA l) ∨ (upB P.2.2.1 (2 + (b - 2)) (2 + l) = true ∧ ∃ f, _ ∧ f + (upC P.2.2.2 (b - 2) c1 l).length < _ ∧ (∀ k (h : k < (upC P.2.2.2 (b - 2) c1 l).length), m5.1 57 0 (1100 + (f + k)) = (opc (upC P.2.2.2 (b - 2) c1 l)[k]).1 ∧ m5.1 58 0 (1100 + (f + k)) = (opc (upC P.2.2.2 (b - 2) c1 l)[k]).2) ∧ m5.1 57 0 (1100 + (f + (upC P.2.2.2 (b - 2) c1 l).length)) = 0)
          by_cases z : l = b - 2
          · have z1 : upB P.2.2.1 (2 + (b - 2)) (2 + l) = true := if_pos (by omega)
            have z2 : upC P.2.2.2 (b - 2) c1 l = c1 := if_pos z
            rw [z1, z2]
            refine Or.inr ⟨rfl, q, ?_, by omega, fun k hk => ?_, b2⟩
            · rw [z, b4.1 56 0 _ (by omega), h4.2.2.1 56 0 _ (by omega)]; exact w4
            · rw [b4.1 57 0 _ (by omega), b4.1 58 0 _ (by omega)]
              exact a2.2 k hk
          · have z1 : upB P.2.2.1 (2 + (b - 2)) (2 + l) = P.2.2.1 (2 + l) := if_neg (by omega)
            have z2 : upC P.2.2.2 (b - 2) c1 l = P.2.2.2 l := if_neg z
            rw [z1, z2, kall.1 56 0 (106 + l) (by omega)]
            rcases q3 l hl with ⟨c1', c2, c3⟩ | ⟨c1', f, c2, c3, c4, c5⟩
            · exact Or.inl ⟨c1', c2, c3⟩
            · refine Or.inr ⟨c1', f, c2, by omega, fun k hk => ?_, by rw [kall.1 57 0 _ (by omega)]; exact c5⟩
              rw [kall.1 57 0 _ (by omega), kall.1 58 0 _ (by omega)]
              exact c4 k hk
  · rw [if_neg a7, if_neg a7, if_neg (show ¬ (0 : Int32) ≤ -1 by decide)]
    exact bad 1 _ _ (by decide) (by decide) rfl
theorem pm_readLine {L : List Nat} {c n : Nat} {m : mi_M} {P : PS} (hL : tkN L c) (hn : n ≤ c) (h : rS m L c n 0) (hp : mP m L P n) (hP : pOK P) : wo (mi_bo (f_X12_readLine m) fun m36 => f_X12_takeSign (59 : Int32) m36) (mQ L c m (ln L n P)) := by
  have wk : wX L n < 26 → kD L n = 2 := wX_k
  have bb : ∀ (f : mi_M → Option mi_M) (x : (Nat × Nat) × PS), wo (mi_bo (f m) fun m36 => f_X12_takeSign (59 : Int32) m36) (mQ L c m x) → wo (mi_bo (mi_bo (f m) fun m6 => f_X12_readLine_J65 m6) fun m36 => f_X12_takeSign (59 : Int32) m36) (mQ L c m x) := by
    intro f x hx
    rw [pw_bo] at hx
    rw [pw_bo, pw_bo]
    exact pw_mono hx (fun a ha => pw_some.mpr ha)
  unfold f_X12_readLine
  rw [show f_X12_isWord 0 m = _ from pm_isWord0 (w := 0) h hL (by decide), pe_bo, if01, show f_X12_isWord 2 m = _ from pm_isWord0 (w := 2) h hL (by decide), pe_bo, if01, show f_X12_isWord 3 m = _ from pm_isWord0 (w := 3) h hL (by decide), pe_bo, if01, show f_X12_isWord 6 m = _ from pm_isWord0 (w := 6) h hL (by decide), pe_bo, if01]
  unfold ln
  by_cases a0 : wX L n = 0
  · have nc := hL.k hn (by rw [wk (by omega)]; decide)
    rw [if_pos a0, if_pos a0]
    exact bb _ _ (pm_readPerson hL (by omega) h hp hP.1.1.1)
  rw [if_neg a0, if_neg a0]
  by_cases a2 : wX L n = 2
  · have nc := hL.k hn (by rw [wk (by omega)]; decide)
    rw [if_pos a2, if_pos a2]
    exact bb _ _ (pm_readLane hL (by omega) h hp hP)
  rw [if_neg a2, if_neg a2]
  by_cases a3 : wX L n = 3
  · have nc := hL.k hn (by rw [wk (by omega)]; decide)
    rw [if_pos a3, if_pos a3]
    exact bb _ _ (pm_readWrong hL (by omega) h hp hP)
  rw [if_neg a3, if_neg a3]
  by_cases a6 : wX L n = 6
  · have nc := hL.k hn (by rw [wk (by omega)]; decide)
    rw [if_pos a6, if_pos a6]
    exact bb _ _ (pm_readWalk hL (by omega) h hp hP)
  rw [if_neg a6, if_neg a6]
  exact bb _ _ (pm_readOnce hL hn h hp)
