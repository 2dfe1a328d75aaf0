/-! ===== what would come: ripe, price, law ===== -/
theorem aS_0 {T : Nat → Nat} {cd : Nat → List Int32} {S : Nat → Int32} : aSleep T cd S 0 = S 0 + 1 := rfl
theorem aS_1 {T : Nat → Nat} {cd : Nat → List Int32} {S : Nat → Int32} : aSleep T cd S 1 = S 1 + n32 (hmN T (lsA S 0)) := rfl
theorem aS_sore {T : Nat → Nat} {cd : Nat → List Int32} {S : Nat → Int32} {w : Nat} (hw : w < T 2) (h8 : w < 8) (h0 : S (22 + w) = 0) : aSleep T cd S (14 + w) = healA T cd w (S (14 + w)) (S 0) := by
  unfold aSleep
  rw [if_neg (show ¬ 14 + w = 0 by omega), if_neg (show ¬ 14 + w = 1 by omega), if_neg (show ¬ 14 + w < 8 by omega), if_neg (show ¬ 14 + w < 14 by omega), if_pos (show 14 + w < 22 by omega), if_pos ⟨by omega, by rw [show 14 + w + 8 = 22 + w by omega]; exact h0⟩, show 14 + w - 14 = w by omega]
theorem aS_over {T : Nat → Nat} {cd : Nat → List Int32} {S : Nat → Int32} {w : Nat} (h8 : w < 8) : aSleep T cd S (22 + w) = S (22 + w) := by
  unfold aSleep
  rw [if_neg (show ¬ 22 + w = 0 by omega), if_neg (show ¬ 22 + w = 1 by omega), if_neg (show ¬ 22 + w < 8 by omega), if_neg (show ¬ 22 + w < 14 by omega), if_neg (show ¬ 22 + w < 22 by omega), if_pos (show 22 + w < 30 by omega)]
theorem aS_said {T : Nat → Nat} {cd : Nat → List Int32} {S : Nat → Int32} {w : Nat} (h8 : w < 8) : aSleep T cd S (30 + w) = 0 := by
  unfold aSleep
  rw [if_neg (show ¬ 30 + w = 0 by omega), if_neg (show ¬ 30 + w = 1 by omega), if_neg (show ¬ 30 + w < 8 by omega), if_neg (show ¬ 30 + w < 14 by omega), if_neg (show ¬ 30 + w < 22 by omega), if_neg (show ¬ 30 + w < 30 by omega)]
def itS (T : Nat → Nat) (cd : Nat → List Int32) (S : Nat → Int32) : Nat → Nat → Int32
  | 0 => S
  | k + 1 => aSleep T cd (itS T cd S k)
theorem itS_ok {T : Nat → Nat} {cd : Nat → List Int32} {S : Nat → Int32} (hT : tOK T) (h : sOK T S) : ∀ k, sOK T (itS T cd S k)
  | 0 => h
  | k + 1 => aSleep_ok hT (itS_ok hT h k)
theorem itS_0 {T : Nat → Nat} {cd : Nat → List Int32} {S : Nat → Int32} : ∀ k, itS T cd S k 0 = S 0 + n32 k
  | 0 => by show S 0 = S 0 + n32 0; rw [show n32 0 = 0 from rfl, Int32.add_zero]
  | k + 1 => by
    show itS T cd S k 0 + 1 = _
    rw [itS_0 k, Int32.add_assoc, show (1 : Int32) = n32 1 from rfl, n32_add]
theorem itS_over {T : Nat → Nat} {cd : Nat → List Int32} {S : Nat → Int32} {w : Nat} (h8 : w < 8) : ∀ k, itS T cd S k (22 + w) = S (22 + w)
  | 0 => rfl
  | k + 1 => by
    show aSleep T cd (itS T cd S k) (22 + w) = _
    rw [aS_over h8, itS_over h8 k]
def fnd (P : Nat → Bool) : Nat → Nat → Int32
  | 0, _ => -1
  | n + 1, k => if P k then n32 k else fnd P n (k + 1)
theorem fnd_s {P : Nat → Bool} {n k : Nat} : fnd P (n + 1) k = if P k then n32 k else fnd P n (k + 1) := rfl
/-- the reference's trial: the state as it stands -/
theorem pm_trial {m1 : mi_M} {T : Nat → Nat} {cd : Nat → List Int32} {S : Nat → Int32} {b : Nat} (hb : b = 1323 ∨ b = 1386) (g3 : mT m1 T cd) (gm : mSt m1 0 S) : wo (f_X12_copies 0 (n32 b) 38 (mi_wI m1 12 0 0 0)) (fun m2 => mT m2 T cd ∧ mSt m2 b S ∧ kp (fun k i p => pXm k i p) m1 m2) := by
  refine pw_mono (pm_copies (a := 0) (b := b) (n := 38) (by omega) (by omega) (by omega)) ?_
  rintro m2 ⟨a1, a2⟩
  have k2 : kp (fun k i p => pXm k i p) m1 m2 := kp_thr.tr (a1.mo (fun k i p a => by omega))
  refine ⟨g3.mv k2 (fun k i p a b d => by omega), fun q hq => ?_, k2⟩
  rw [a2 q hq, rI_ne (by omega)]
  exact gm q hq
theorem po_ripe : ob_ripe Rel := by
  rintro a0 mem ⟨T, cd, c, y, hR⟩
  obtain ⟨h1, h2, h3, h4, h5, h6, ⟨S, hc, hm, hs⟩, h8, h9, h10⟩ := id hR
  have hT := h2.1.2.1
  have h82 := hT.1.2.1
  have q1 : mTw (mi_wI mem 12 0 0 0) T := h3.1.1.mv kp_thr (fun p _ x => by omega)
  have q2 : mSt (mi_wI mem 12 0 0 0) 0 S := hm.mv kp_thr (fun p a b d => by omega)
  rcases in_or (T 2) a0 with ⟨w, hw, rfl⟩ | hx
  · by_cases e : S (22 + w) = 0
    · obtain ⟨R0, hR0⟩ : ∃ R0, R0 = fnd (fun k => decide (itS T cd S k (14 + w) ≤ n32 (barA T w))) 61 0 := ⟨_, rfl⟩
      refine ob_ev (f1 := f_X11_ripe (n32 w)) (f2 := f_X12_ripe (n32 w)) hR R0 ?_ ?_
      · unfold f_X11_ripe f_X0_nightsUntilRipe
        rw [h1.2.2.1, pe_g (n8 h1.1), pc_hasWrong h2.1.1 hT hw, pe_bo, if_neg (by decide), pc_isForgiven hc hs (by omega), pe_bo, if_pos e, pe_g (n8 h1.1)]
        simp (disch := omega) only [pw_b, pw_bo, pw_g, pw_let, pw_some, n32_in, n32_cl]
        rw [hc.2.2.2 w (by omega)]
        refine ⟨by omega, ?_⟩
        refine pl_for (fun k s => s.1 = itS T cd S k (14 + w) ∧ s.2.1 = n32 k ∧ fnd (fun k => decide (itS T cd S k (14 + w) ≤ n32 (barA T w))) (61 - k) k = R0 ∧ cT s.2.2 c T cd ∧ kp (fun k i _ => k = 19 ∧ i = c) mem s.2.2) 61 (by omega) ⟨rfl, rfl, hR0.symm, h2, kp.rf⟩ ?_
        rintro k ⟨l6, l7, m1⟩ hk ⟨e1, e2, e3, e4, e5⟩
        simp only at e1 e2 e3 e4 e5
        subst e1 e2
        unfold f_X0_nightsUntilRipe_B11
        have r0 : m1.1 5 0 0 = S 0 := by rw [e5.1 5 0 0 (by omega)]; exact hc.1.1
        simp (disch := omega) only [pw_if, pw_some, pw_b, pw_bo, pc_barOf e4.1.1 hT hw, n32_Llt, lr_r]
        refine ⟨fun hz => ?_, fun hz => ?_⟩
        · have : k = 61 := by omega
          subst this
          unfold f_X0_nightsUntilRipe_K11
          simp only [pw_some]
          exact ⟨by rw [← e3]; rfl, e4, e5.mo (fun k i p a => by omega)⟩
        · rw [show 61 - k = (61 - (k + 1)) + 1 by omega, fnd_s] at e3
          refine ⟨fun hy => ?_, fun hy => ?_⟩
          · rw [if_neg (by simpa using i32_nle.mpr hy)] at e3
            obtain ⟨n, hn, en⟩ := (itS_ok (cd := cd) hT hs k).2.2.2.1 w (by omega)
            rw [en, r0]
            refine pw_mono (pc_heal (s := n) e4 hw) ?_
            rintro ⟨v, m2⟩ ⟨b1, b2, b3⟩
            simp only at b1 b2 b3
            rw [lr_l]
            refine ⟨by omega, ?_, by rw [n32_al], e3, b2, e5.tr b3⟩
            rw [b1, ← itS_0 (T := T) (cd := cd) k, ← en]
            exact (aS_sore hw (by omega) (by rw [itS_over (by omega), e])).symm
          · rw [if_pos (by simpa using i32_nlt.mp hy)] at e3
            unfold f_X0_nightsUntilRipe_K11
            simp only [lr_r, pw_some]
            exact ⟨e3, e4, e5.mo (fun k i p a => by omega)⟩
      · intro m1 R1 hmm
        obtain ⟨g1, g2, g3, -⟩ := R1
        have gm := hmm S 0 hm
        have z1 : mTw (mi_wI m1 12 0 0 0) T := g3.1.1.mv kp_thr (fun p _ x => by omega)
        have z2 : mSt (mi_wI m1 12 0 0 0) 0 S := gm.mv kp_thr (fun p a b d => by omega)
        unfold f_X12_ripe
        rw [pe_let, show f_X12_isOpen 0 (n32 w) (mi_wI m1 12 0 0 0) = _ from pm_isOpen (b := 0) z1 hT z2 (Nat.zero_le _) hw, pe_bo, if_pos e, if_neg (by decide), pw_bo]
        refine pw_mono (pm_trial (b := 1323) (Or.inl rfl) g3 gm) ?_
        rintro m2 ⟨a1, a2, a3⟩
        rw [pw_bo]
        refine pl_for (fun k s => s.1 = n32 k ∧ fnd (fun k => decide (itS T cd S k (14 + w) ≤ n32 (barA T w))) (61 - k) k = R0 ∧ mT s.2 T cd ∧ mSt s.2 1323 (itS T cd S k) ∧ kp (fun k i p => pXm k i p) m1 s.2) 61 (by omega) ⟨rfl, hR0.symm, a1, a2, a3⟩ ?_
        clear a1 a2 a3 m2
        rintro k ⟨l7, m2⟩ hk ⟨e1, e2, e3, e4, e5⟩
        simp only at e1 e2 e3 e4 e5
        subst e1
        have ok := itS_ok (cd := cd) hT hs k
        unfold f_X12_ripe_B28
        simp (disch := omega) only [pw_if, pw_some, pw_b, pw_bo, show f_X12_isRipe 1323 (n32 w) m2 = _ from pm_isRipe (b := 1323) e3.1.1 hT e4 (by omega) hw, n32_Llt, lr_r, itS_over (T := T) (cd := cd) (S := S) (show w < 8 by omega) k]
        refine ⟨fun hz => ?_, fun hz => ?_⟩
        · have : k = 61 := by omega
          subst this
          unfold f_X12_ripe_K28
          simp only [pw_some]
          exact ⟨by rw [← e2]; rfl, e5⟩
        · rw [show 61 - k = (61 - (k + 1)) + 1 by omega, fnd_s] at e2
          by_cases hy : itS T cd S k (14 + w) ≤ n32 (barA T w)
          · rw [if_pos ⟨e, hy⟩]
            rw [if_pos (by simpa using hy)] at e2
            refine ⟨fun x => absurd x (by decide), fun _ => ?_⟩
            unfold f_X12_ripe_K28
            simp only [pw_some]
            exact ⟨e2, e5⟩
          · rw [if_neg (fun x => hy x.2)]
            rw [if_neg (by simpa using hy)] at e2
            refine ⟨fun _ => ?_, fun x => absurd (by trivial) x⟩
            refine pw_mono (pm_passes (b := 1323) e3 e4 ok (by omega)) ?_
            rintro ⟨v, m3⟩ ⟨b1, b2, b3⟩
            rw [lr_l]
            exact ⟨by omega, by rw [n32_al], e2, e3.mv b3 (fun k i p a b d => by omega), b2, e5.tr (b3.mo (fun k i p a => by omega))⟩
    · refine ob_no (f1 := f_X11_ripe (n32 w)) (f2 := f_X12_ripe (n32 w)) (v := -1) hR ?_ ?_
      · unfold f_X11_ripe f_X11_ripe_J22
        rw [h1.2.2.1, pe_g (n8 h1.1), pc_hasWrong h2.1.1 hT hw, pe_bo, if_neg (by decide), pc_isForgiven hc hs (by omega), pe_bo, if_neg e]
      · unfold f_X12_ripe
        rw [pe_let, show f_X12_isOpen 0 (n32 w) (mi_wI mem 12 0 0 0) = _ from pm_isOpen (b := 0) q1 hT q2 (Nat.zero_le _) hw, pe_bo, if_neg e, if_pos rfl]
  · refine ob_no (f1 := f_X11_ripe a0) (f2 := f_X12_ripe a0) (v := -1) hR ?_ ?_
    · unfold f_X11_ripe f_X11_ripe_J22
      rw [h1.2.2.1, pe_g (n8 h1.1), pc_hasWrong_n h2.1.1 hT hx, pe_bo, if_pos rfl]
    · unfold f_X12_ripe
      rw [pe_let, pm_isOpen_n q1 hT hx, pe_bo, if_pos rfl]
/-! price -/
def prS (T : Nat → Nat) (cd : Nat → List Int32) (S : Nat → Int32) (w : Nat) : Nat → Nat → Int32
  | 0 => S
  | k + 1 => aSleep T cd (if prS T cd S w k (30 + w) = 0 then aSay T cd (prS T cd S w k) w else prS T cd S w k)
theorem prS_ok {T : Nat → Nat} {cd : Nat → List Int32} {S : Nat → Int32} {w : Nat} (hT : tOK T) (hw : w < T 2) (h : sOK T S) : ∀ k, sOK T (prS T cd S w k)
  | 0 => h
  | k + 1 => by
    have ih := prS_ok (cd := cd) hT hw h k
    refine aSleep_ok hT ?_
    split
    · exact aSay_ok hT ih hw
    · exact ih
theorem prS_0 {T : Nat → Nat} {cd : Nat → List Int32} {S : Nat → Int32} {w : Nat} : ∀ k, prS T cd S w k 0 = S 0 + n32 k
  | 0 => by show S 0 = S 0 + n32 0; rw [show n32 0 = 0 from rfl, Int32.add_zero]
  | k + 1 => by
    have e : prS T cd S w (k + 1) 0 = prS T cd S w k 0 + 1 := by
      show (if prS T cd S w k (30 + w) = 0 then aSay T cd (prS T cd S w k) w else prS T cd S w k) 0 + 1 = _
      split
      · unfold aSay
        rw [fu_ne (by omega), fu_ne (by omega)]
      · rfl
    rw [e, prS_0 k, Int32.add_assoc, show (1 : Int32) = n32 1 from rfl, n32_add]
theorem prS_over {T : Nat → Nat} {cd : Nat → List Int32} {S : Nat → Int32} {w : Nat} (h8 : w < 8) : ∀ k, prS T cd S w k (22 + w) = S (22 + w)
  | 0 => rfl
  | k + 1 => by
    show aSleep T cd (if prS T cd S w k (30 + w) = 0 then aSay T cd (prS T cd S w k) w else prS T cd S w k) (22 + w) = _
    rw [aS_over h8]
    split
    · unfold aSay
      rw [fu_ne (by omega), fu_ne (by omega), prS_over h8 k]
    · exact prS_over h8 k
theorem prS_said {T : Nat → Nat} {cd : Nat → List Int32} {S : Nat → Int32} {w k : Nat} (h8 : w < 8) (hk : 0 < k) : prS T cd S w k (30 + w) = 0 := by
  obtain ⟨j, rfl⟩ : ∃ j, k = j + 1 := ⟨k - 1, by omega⟩
  exact aS_said h8
theorem max0' {a b : Nat} (ha : a < 1000) (hb : b < 1000) : (if 0 < n32 a - n32 b then n32 a - n32 b else (0 : Int32)) = if 0 ≤ n32 a - n32 b then n32 a - n32 b else 0 := by
  have e : (n32 a - n32 b).toInt = (a : Int) - b := by
    rw [Int32.toInt_sub, n32_int (by omega), n32_int (by omega), Int.bmod_eq_of_le] <;> omega
  have e0 : (0 : Int32).toInt = 0 := by decide
  simp only [i32_lt, i32_le]
  repeat' split
  all_goals first | rfl | omega | (apply Int32.toInt_inj.mp; omega)
theorem barA_le {T : Nat → Nat} (hT : tOK T) (w : Nat) : barA T w ≤ 33 := by
  have := hT.1.2.2.2.1
  unfold barA
  split <;> omega
theorem po_price : ob_price Rel := by
  rintro a0 a1 mem ⟨T, cd, c, y, hR⟩
  obtain ⟨h1, h2, h3, h4, h5, h6, ⟨S, hc, hm, hs⟩, h8, h9, h10⟩ := id hR
  have hT := h2.1.2.1
  have h82 := hT.1.2.1
  have q1 : mTw (mi_wI mem 12 0 0 0) T := h3.1.1.mv kp_thr (fun p _ x => by omega)
  have q2 : mSt (mi_wI mem 12 0 0 0) 0 S := hm.mv kp_thr (fun p a b d => by omega)
  rcases in_or (T 2) a0 with ⟨w, hw, rfl⟩ | hx
  · by_cases e : S (22 + w) = 0
    · by_cases hg : (0 : Int32) ≤ a1 ∧ a1 ≤ 30
      · obtain ⟨N, g1, g2, rfl⟩ := wi_of (lo := 0) (hi := 30) (by omega) (by omega) hg
        have okN := prS_ok (cd := cd) hT hw hs N
        obtain ⟨sn, hsn, esn⟩ := okN.2.2.2.1 w (by omega)
        have hbar := barA_le hT w
        refine ob_ev (f1 := f_X11_price (n32 w) (n32 N)) (f2 := f_X12_price (n32 w) (n32 N)) hR (if 0 ≤ n32 sn - n32 (barA T w) then n32 sn - n32 (barA T w) else 0) ?_ ?_
        · unfold f_X11_price f_X0_priceBehindWords
          rw [h1.2.2.1, pe_g (n8 h1.1), pc_hasWrong h2.1.1 hT hw, pe_bo, if_neg (by decide), pc_isForgiven hc hs (by omega), pe_bo, if_pos e, pc_within, wi_y hg, pe_bo, if_neg (by decide), pe_g (n8 h1.1)]
          simp (disch := omega) only [pw_b, pw_bo, pw_g, pw_let, pw_some, n32_in, n32_cl]
          rw [hc.2.2.2 w (by omega)]
          refine ⟨by omega, ?_⟩
          refine pl_for (fun k s => s.1 = prS T cd S w k (14 + w) ∧ s.2.1 = n32 k ∧ cT s.2.2 c T cd ∧ kp (fun k i _ => k = 19 ∧ i = c) mem s.2.2) N (by omega) ⟨rfl, rfl, h2, kp.rf⟩ ?_
          rintro k ⟨l7, l8, m1⟩ hk ⟨e1, e2, e4, e5⟩
          simp only at e1 e2 e4 e5
          subst e1 e2
          have hc1 : cSt m1 0 S := hc.mv e5 (fun k j p a b d => by omega)
          have ok := prS_ok (cd := cd) hT hw hs k
          obtain ⟨n, hn, en⟩ := ok.2.2.2.1 w (by omega)
          unfold f_X0_priceBehindWords_B11
          simp (disch := omega) only [pw_if, pw_some, n32_le, lr_r]
          refine ⟨fun hz => ?_, fun hz => ?_⟩
          · have : k = N := by omega
            subst this
            unfold f_X0_priceBehindWords_K11
            simp only [pw_bo, pc_barOf e4.1.1 hT hw, pw_some, pw_let]
            refine ⟨?_, e4, e5.mo (fun k i p a => by omega)⟩
            rw [esn]
            exact max0' (by omega) (by omega)
          · have j47 : ∀ (u : Int32) (m2 : mi_M), u = (if prS T cd S w k (30 + w) = 0 then aSay T cd (prS T cd S w k) w else prS T cd S w k) (14 + w) → cT m2 c T cd → kp (fun k i _ => k = 19 ∧ i = c) mem m2 → wo (f_X0_priceBehindWords_J47 c 0 (n32 w) (n32 k) u m2) (lr (fun s' => k < N ∧ s'.1 = prS T cd S w (k + 1) (14 + w) ∧ s'.2.1 = n32 (k + 1) ∧ cT s'.2.2 c T cd ∧ kp (fun k i _ => k = 19 ∧ i = c) mem s'.2.2) (fun e => wo (f_X0_priceBehindWords_K11 c (n32 w) e) (fun r => r.1 = (if 0 ≤ n32 sn - n32 (barA T w) then n32 sn - n32 (barA T w) else 0) ∧ cT r.2 c T cd ∧ kp (fun k i _ => pXc c k i) mem r.2))) := by
              intro u m2 hu c2 k2
              unfold f_X0_priceBehindWords_J47
              have r0 : m2.1 5 0 0 = S 0 := by rw [k2.1 5 0 0 (by omega)]; exact hc.1.1
              rw [pw_b, r0]
              have ok2 : sOK T (if prS T cd S w k (30 + w) = 0 then aSay T cd (prS T cd S w k) w else prS T cd S w k) := by
                split
                · exact aSay_ok hT ok hw
                · exact ok
              obtain ⟨n2, hn2, en2⟩ := ok2.2.2.2.1 w (by omega)
              rw [hu, en2]
              refine pw_mono (pc_heal (s := n2) c2 hw) ?_
              rintro ⟨v, m3⟩ ⟨b1, b2, b3⟩
              simp only at b1 b2 b3
              rw [pw_some, lr_l]
              refine ⟨by omega, ?_, by rw [n32_al], b2, k2.tr b3⟩
              rw [b1, ← en2]
              have z0 : (if prS T cd S w k (30 + w) = 0 then aSay T cd (prS T cd S w k) w else prS T cd S w k) (22 + w) = 0 := by
                split
                · unfold aSay
                  rw [fu_ne (by omega), fu_ne (by omega), prS_over (by omega), e]
                · rw [prS_over (by omega), e]
              have z1 : (if prS T cd S w k (30 + w) = 0 then aSay T cd (prS T cd S w k) w else prS T cd S w k) 0 = S 0 + n32 k := by
                rw [← prS_0 (T := T) (cd := cd) (w := w) k]
                split
                · unfold aSay
                  rw [fu_ne (by omega), fu_ne (by omega)]
                · rfl
              rw [← z1]
              exact (aS_sore hw (by omega) z0).symm
            have j31 : prS T cd S w k (30 + w) = 0 → wo (f_X0_priceBehindWords_J31 c 0 (n32 w) (prS T cd S w k (14 + w)) (n32 k) m1) (lr (fun s' => k < N ∧ s'.1 = prS T cd S w (k + 1) (14 + w) ∧ s'.2.1 = n32 (k + 1) ∧ cT s'.2.2 c T cd ∧ kp (fun k i _ => k = 19 ∧ i = c) mem s'.2.2) (fun e => wo (f_X0_priceBehindWords_K11 c (n32 w) e) (fun r => r.1 = (if 0 ≤ n32 sn - n32 (barA T w) then n32 sn - n32 (barA T w) else 0) ∧ cT r.2 c T cd ∧ kp (fun k i _ => pXc c k i) mem r.2))) := by
              intro h0
              unfold f_X0_priceBehindWords_J31
              rw [pw_b, hc1.1.1, en]
              refine pw_mono (pc_words e4 hw hn) ?_
              rintro ⟨v, m2⟩ ⟨b1, b2, b3⟩
              simp only at b1 b2 b3
              refine j47 v m2 ?_ b2 (e5.tr b3)
              rw [if_pos h0]
              unfold aSay
              rw [fu_ne (by omega), fu_eq, b1, en, prS_0]
            refine ⟨fun hk0 => j31 (prS_said (by omega) ?_), fun hk0 => ?_⟩
            · rw [show (0 : Int32) = n32 0 from rfl, n32_lt (by omega) (by omega)] at hk0
              exact hk0
            · have hk0 : k = 0 := by
                rw [show (0 : Int32) = n32 0 from rfl, n32_lt (by omega) (by omega)] at hk0
                omega
              rw [pw_bo, pc_isSaid hc1 hs (by omega), pw_some, pw_if]
              have e30 : prS T cd S w k (30 + w) = S (30 + w) := by rw [hk0]; rfl
              refine ⟨fun hy => j31 (by rw [e30]; exact hy), fun hy => j47 _ m1 ?_ e4 e5⟩
              rw [if_neg (by rw [e30]; exact hy)]
        · intro m1 R1 hmm
          obtain ⟨g1, g2, g3, -⟩ := R1
          have gm := hmm S 0 hm
          have z1 : mTw (mi_wI m1 12 0 0 0) T := g3.1.1.mv kp_thr (fun p _ x => by omega)
          have z2 : mSt (mi_wI m1 12 0 0 0) 0 S := gm.mv kp_thr (fun p a b d => by omega)
          unfold f_X12_price
          rw [pe_let, show f_X12_isOpen 0 (n32 w) (mi_wI m1 12 0 0 0) = _ from pm_isOpen (b := 0) z1 hT z2 (Nat.zero_le _) hw, pe_bo, if_pos e, if_neg (by decide), pm_within, wi_y hg, pe_bo, if_neg (by decide), pw_bo]
          refine pw_mono (pm_trial (b := 1323) (Or.inl rfl) g3 gm) ?_
          rintro m2 ⟨a1, a2, a3⟩
          rw [pw_bo]
          refine pl_for (fun k s => s.1 = n32 k ∧ mT s.2 T cd ∧ mSt s.2 1323 (prS T cd S w k) ∧ kp (fun k i p => pXm k i p) m1 s.2) N (by omega) ⟨rfl, a1, a2, a3⟩ ?_
          clear a1 a2 a3 m2
          rintro k ⟨l7, m2⟩ hk ⟨e1, e3, e4, e5⟩
          simp only at e1 e3 e4 e5
          subst e1
          have ok := prS_ok (cd := cd) hT hw hs k
          unfold f_X12_price_B38
          simp (disch := omega) only [pw_if, pw_some, pw_b, pw_bo, show f_X12_maySay 1323 (n32 w) m2 = _ from pm_maySay (b := 1323) e3.1.1 hT e4 (by omega) hw, n32_le, lr_r, prS_over (T := T) (cd := cd) (S := S) (show w < 8 by omega) k, e]
          refine ⟨fun hz => ?_, fun hz => ?_⟩
          · have : k = N := by omega
            subst this
            unfold f_X12_price_K38 f_X12_price_J103
            simp (disch := omega) only [pw_g, pw_bo, pm_barOf e3.1.1 hT hw, pw_some, pw_let, pw_if, n32_la, n32_in, n32_cl]
            rw [show 1337 + w = 1323 + (14 + w) by omega, e4 (14 + w) (by omega), esn]
            exact ⟨by omega, fun x => ⟨by rw [if_pos x], e5⟩, fun x => ⟨by rw [if_neg x], e5⟩⟩
          · have j63 : ∀ m3, mT m3 T cd → mSt m3 1323 (if prS T cd S w k (30 + w) = 0 then aSay T cd (prS T cd S w k) w else prS T cd S w k) → kp (fun k i p => pXm k i p) m1 m3 → wo (f_X12_price_J63 (n32 k) m3) (lr (fun s' => k < N ∧ s'.1 = n32 (k + 1) ∧ mT s'.2 T cd ∧ mSt s'.2 1323 (prS T cd S w (k + 1)) ∧ kp (fun k i p => pXm k i p) m1 s'.2) (fun e => wo (f_X12_price_K38 (n32 w) e) (fun r => r.1 = (if 0 ≤ n32 sn - n32 (barA T w) then n32 sn - n32 (barA T w) else 0) ∧ kp (fun k i p => pXm k i p) m1 r.2))) := by
              intro m3 t3 s3 k3
              unfold f_X12_price_J63
              have ok2 : sOK T (if prS T cd S w k (30 + w) = 0 then aSay T cd (prS T cd S w k) w else prS T cd S w k) := by
                split
                · exact aSay_ok hT ok hw
                · exact ok
              rw [pw_b]
              refine pw_mono (pm_passes (b := 1323) t3 s3 ok2 (by omega)) ?_
              rintro ⟨v, m4⟩ ⟨b1, b2, b3⟩
              rw [pw_some, lr_l]
              exact ⟨by omega, by rw [n32_al], t3.mv b3 (fun k i p a b d => by omega), b2, k3.tr (b3.mo (fun k i p a => by omega))⟩
            by_cases hy : prS T cd S w k (30 + w) = 0
            · refine ⟨fun x => ?_, fun _ => ?_⟩
              · rw [if_pos ⟨by trivial, hy⟩] at x
                exact absurd x (by decide)
              · refine pw_mono (pm_says (b := 1323) e3 e4 (by omega) hw) ?_
                rintro ⟨v, m3⟩ ⟨b1, b2, b3⟩
                refine j63 m3 (e3.mv b3 (fun k i p a b d => by omega)) ?_ (e5.tr (b3.mo (fun k i p a => by omega)))
                rw [if_pos hy]
                exact b2
            · refine ⟨fun _ => ?_, fun x => ?_⟩
              · refine j63 m2 e3 ?_ e5
                rw [if_neg hy]
                exact e4
              · rw [if_neg (fun z => hy z.2)] at x
                exact absurd rfl x
      · refine ob_no (f1 := f_X11_price (n32 w) a1) (f2 := f_X12_price (n32 w) a1) (v := -1) hR ?_ ?_
        · unfold f_X11_price f_X11_price_J32
          rw [h1.2.2.1, pe_g (n8 h1.1), pc_hasWrong h2.1.1 hT hw, pe_bo, if_neg (by decide), pc_isForgiven hc hs (by omega), pe_bo, if_pos e, pc_within, wi_n hg, pe_bo, if_pos rfl]
        · unfold f_X12_price f_X12_price_J24
          rw [pe_let, show f_X12_isOpen 0 (n32 w) (mi_wI mem 12 0 0 0) = _ from pm_isOpen (b := 0) q1 hT q2 (Nat.zero_le _) hw, pe_bo, if_pos e, if_neg (by decide), pm_within, wi_n hg, pe_bo, if_pos rfl]
    · refine ob_no (f1 := f_X11_price (n32 w) a1) (f2 := f_X12_price (n32 w) a1) (v := -1) hR ?_ ?_
      · unfold f_X11_price f_X11_price_J32
        rw [h1.2.2.1, pe_g (n8 h1.1), pc_hasWrong h2.1.1 hT hw, pe_bo, if_neg (by decide), pc_isForgiven hc hs (by omega), pe_bo, if_neg e]
      · unfold f_X12_price f_X12_price_J24
        rw [pe_let, show f_X12_isOpen 0 (n32 w) (mi_wI mem 12 0 0 0) = _ from pm_isOpen (b := 0) q1 hT q2 (Nat.zero_le _) hw, pe_bo, if_neg e, if_pos rfl]
  · refine ob_no (f1 := f_X11_price a0 a1) (f2 := f_X12_price a0 a1) (v := -1) hR ?_ ?_
    · unfold f_X11_price f_X11_price_J32
      rw [h1.2.2.1, pe_g (n8 h1.1), pc_hasWrong_n h2.1.1 hT hx, pe_bo, if_pos rfl]
    · unfold f_X12_price f_X12_price_J24
      rw [pe_let, pm_isOpen_n q1 hT hx, pe_bo, if_pos rfl]
