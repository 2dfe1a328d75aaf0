/-! ===== say, give, ask; undo ===== -/
theorem pc_do_n {mem : mi_M} {c y : Nat} {d w g : Int32} (h1 : pRefs mem c y) (hm : f_X5_may 0 c d w g mem = some 0) : f_X11_doByHand d w g mem = some (0, mem) := by
  unfold f_X11_doByHand
  rw [h1.2.2.1, pe_g (n8 h1.1), hm, pe_bo, if_pos rfl, pe_g (by decide)]
theorem pc_do_y {mem : mi_M} {T : Nat → Nat} {cd : Nat → List Int32} {c y h nx : Nat} {S S' : Nat → Int32} {d w g : Int32} (h1 : pRefs mem c y) (h2 : cT mem c T cd) (hc : cSt mem 0 S) (u1 : h ≤ 16) (u2 : nx < 16) (u3 : mem.1 3 0 0 = n32 h) (u4 : mem.1 3 0 1 = n32 nx) (hm : f_X5_may 0 c d w g mem = some 1) (act : ∀ m1, cT m1 c T cd → cSt m1 0 S → m1.2.2 = mem.2.2 → wo (f_X5_act 0 c d w g m1) (fun m' => cSt m' 0 S' ∧ cT m' c T cd ∧ kp (fun k j _ => pcE c k j ∨ pcS 0 k j) m1 m')) :
    wo (f_X11_doByHand d w g mem) (fun r => r.1 = 1 ∧ cT r.2 c T cd ∧ cSt r.2 0 S' ∧ cSt r.2 (1 + nx) S ∧ r.2.1 3 0 0 = n32 (min 16 (h + 1)) ∧ r.2.1 3 0 1 = n32 ((nx + 1) % 16) ∧ kp (fun k i p => pHc c nx k i p) mem r.2) := by
  unfold f_X11_doByHand
  rw [h1.2.2.1, pe_g (n8 h1.1), hm, pe_bo, if_neg (by decide)]
  simp only [pw_let, pw_bo, pw_g, pw_some]
  refine pw_mono (pc_hand (f := f_X5_act 0 c d w g) h2 hc u1 u2 u3 u4 act) ?_
  rintro m1 ⟨a1, a2, a3⟩
  rw [a1, h1.2.2.1]
  refine ⟨n8 h1.1, pw_mono a3 ?_⟩
  rintro m2 ⟨b1, b2, b3, b4, b5, b6⟩
  exact ⟨by decide, by trivial, b1, b2, b3, b4, b5, b6⟩
theorem ob_hand {mem : mi_M} {T : Nat → Nat} {cd : Nat → List Int32} {c y h nx : Nat} {S S' : Nat → Int32} {val : Int32} {f1 f2 : mi_M → Option (Int32 × mi_M)} (hR : RelX mem T cd c y) (hm : mSt mem 0 S) (hs : sOK T S) (hs' : sOK T S') (u1 : h ≤ 16) (u2 : nx < 16) (u5 : mem.1 12 0 22 = n32 h) (u6 : ∀ j, j < h → pState mem T (1 + (nx + 16 - h + j) % 16) (63 * (5 + j)))
    (cls : wo (f1 mem) (fun r => r.1 = val ∧ cT r.2 c T cd ∧ cSt r.2 0 S' ∧ cSt r.2 (1 + nx) S ∧ r.2.1 3 0 0 = n32 (min 16 (h + 1)) ∧ r.2.1 3 0 1 = n32 ((nx + 1) % 16) ∧ kp (fun k i p => pHc c nx k i p) mem r.2))
    (mdl : ∀ m1, mT m1 T cd → mSt m1 0 S → m1.1 12 0 22 = n32 h → m1.1 12 0 24 = 0 → wo (f2 m1) (fun r => r.1 = val ∧ mSt r.2 0 S' ∧ r.2.1 12 0 22 = n32 (min 16 (h + 1)) ∧ (∀ q, q < 38 → r.2.1 64 0 (63 * (5 + min 15 h) + q) = S q) ∧ (h = 16 → ∀ j, j < 15 → ∀ q, q < 38 → r.2.1 64 0 (63 * (5 + j) + q) = m1.1 64 0 (63 * (5 + (j + 1)) + q)) ∧ (h < 16 → ∀ j, j < h → ∀ q, q < 38 → r.2.1 64 0 (63 * (5 + j) + q) = m1.1 64 0 (63 * (5 + j) + q)) ∧ kp (fun k i p => pHm k i p) m1 r.2)) : ∃ (r : Int32) (m1 m2 : mi_M), f1 mem = some (r, m1) ∧ f2 m1 = some (r, m2) ∧ Rel m2 := by
  obtain ⟨⟨r, m1⟩, e1, x1, x2, x3, x4, x5, x6, x7⟩ := cls
  simp only at x1 x2 x3 x4 x5 x6 x7
  subst x1
  obtain ⟨h1, h2, h3, -⟩ := id hR
  obtain ⟨⟨r2, m2⟩, e2, b1, b2, b3, b4, b5, b6, b7⟩ := mdl m1 (h3.mv x7 (fun k i p a b d => by omega)) (hm.mv x7 (fun p a b d => by omega)) (by rw [x7.1 12 0 22 (by omega)]; exact u5) (by rw [x7.1 12 0 24 (by omega)]; exact h1.2.2.2.2.2.2)
  simp only at b1 b2 b3 b4 b5 b6 b7
  subst b1
  exact ⟨_, m1, m2, e1, e2, T, cd, c, y, hand_rel hR hm hs hs' u1 u2 u6 x2 x3 x4 x5 x6 x7 b2 b3 b4 b5 b6 b7⟩
theorem ob_no {mem : mi_M} {T : Nat → Nat} {cd : Nat → List Int32} {c y : Nat} {f1 f2 : mi_M → Option (Int32 × mi_M)} {v : Int32} (hR : RelX mem T cd c y) (e1 : f1 mem = some (v, mem)) (e2 : f2 mem = some (v, mi_wI mem 12 0 0 0)) : ∃ (r : Int32) (m1 m2 : mi_M), f1 mem = some (r, m1) ∧ f2 m1 = some (r, m2) ∧ Rel m2 :=
  ⟨v, mem, _, e1, e2, T, cd, c, y, hR.sm kp_thr⟩
theorem po_say : ob_say Rel := by
  rintro a0 mem ⟨T, cd, c, y, hR⟩
  obtain ⟨h1, h2, h3, h4, h5, h6, ⟨S, hc, hm, hs⟩, h8, ⟨h, nx, u1, u2, u3, u4, u5, u6⟩, h10⟩ := id hR
  have hT := h2.1.2.1
  have h82 := hT.1.2.1
  have q1 : mTw (mi_wI mem 12 0 0 0) T := h3.1.1.mv kp_thr (fun p _ x => by omega)
  have q2 : mSt (mi_wI mem 12 0 0 0) 0 S := hm.mv kp_thr (fun p a b d => by omega)
  rcases in_or (T 2) a0 with ⟨w, hw, rfl⟩ | hx
  · have cm := pc_may0 (c := c) (g := 0) hc hs (show w < 8 by omega)
    by_cases e : S (22 + w) = 0 ∧ S (30 + w) = 0
    · rw [if_pos e] at cm
      refine ob_hand (f1 := f_X11_say (n32 w)) (f2 := f_X12_say (n32 w)) (S' := aSay T cd S w) (val := aSay T cd S w (14 + w)) hR hm hs (aSay_ok hT hs hw) u1 u2 u5 u6 ?_ ?_
      · unfold f_X11_say f_X11_say_J33 f_X11_say_J34
        rw [h1.2.2.1, pe_g (n8 h1.1), pc_hasWrong h2.1.1 hT hw, pe_bo, if_neg (by decide), pw_b]
        refine pw_mono (pc_do_y h1 h2 hc u1 u2 u3 u4 cm (fun m1 a b _ => pc_act0 a b hs hw)) ?_
        rintro ⟨v, m1⟩ ⟨b1, b2, b3, b4, b5, b6, b7⟩
        simp only at b1 b2 b3 b4 b5 b6 b7
        subst b1
        rw [if_neg (show ¬ (1 : Int32) = 0 by decide)]
        simp (disch := omega) only [pw_g, pw_some, n32_in, n32_cl]
        exact ⟨by omega, b3.2.2.2 w (by omega), b2, b3, b4, b5, b6, b7⟩
      · intro m1 g3 gm g5 g6
        have z1 : mTw (mi_wI m1 12 0 0 0) T := g3.1.1.mv kp_thr (fun p _ x => by omega)
        have z2 : mSt (mi_wI m1 12 0 0 0) 0 S := gm.mv kp_thr (fun p a b d => by omega)
        unfold f_X12_say
        rw [pe_let, show f_X12_maySay 0 (n32 w) (mi_wI m1 12 0 0 0) = _ from pm_maySay (b := 0) z1 hT z2 (Nat.zero_le _) hw, pe_bo, if_pos e, if_neg (by decide)]
        simp only [pw_bo, pw_b, pw_some]
        refine pw_mono (pm_hand (f := f_X12_says 0 (n32 w)) (h := h) (S' := aSay T cd S w) (Q := fun r => r = aSay T cd S w (14 + w)) g3 gm u1 g5 (fun m2 a b _ => pm_says (b := 0) a b (Nat.zero_le _) hw)) ?_
        intro m2 a
        exact a
    · rw [if_neg e] at cm
      refine ob_no (f1 := f_X11_say (n32 w)) (f2 := f_X12_say (n32 w)) (v := -1) hR ?_ ?_
      · unfold f_X11_say f_X11_say_J33 f_X11_say_J34
        rw [h1.2.2.1, pe_g (n8 h1.1), pc_hasWrong h2.1.1 hT hw, pe_bo, if_neg (by decide), pc_do_n h1 cm, pe_b, if_pos rfl]
      · unfold f_X12_say
        rw [pe_let, show f_X12_maySay 0 (n32 w) (mi_wI mem 12 0 0 0) = _ from pm_maySay (b := 0) q1 hT q2 (Nat.zero_le _) hw, pe_bo, if_neg e, if_pos rfl]
  · refine ob_no (f1 := f_X11_say a0) (f2 := f_X12_say a0) (v := -1) hR ?_ ?_
    · unfold f_X11_say f_X11_say_J33 f_X11_say_J34
      rw [h1.2.2.1, pe_g (n8 h1.1), pc_hasWrong_n h2.1.1 hT hx, pe_bo, if_pos rfl]
    · unfold f_X12_say
      rw [pe_let, pm_maySay_n q1 hT hx, pe_bo, if_pos rfl]
theorem po_give : ob_give Rel := by
  rintro a0 a1 mem ⟨T, cd, c, y, hR⟩
  obtain ⟨h1, h2, h3, h4, h5, h6, ⟨S, hc, hm, hs⟩, h8, ⟨h, nx, u1, u2, u3, u4, u5, u6⟩, h10⟩ := id hR
  have hT := h2.1.2.1
  have h82 := hT.1.2.1
  have q1 : mTw (mi_wI mem 12 0 0 0) T := h3.1.1.mv kp_thr (fun p _ x => by omega)
  have q2 : mSt (mi_wI mem 12 0 0 0) 0 S := hm.mv kp_thr (fun p a b d => by omega)
  rcases in_or (T 2) a0 with ⟨w, hw, rfl⟩ | hx
  · by_cases hg : (1 : Int32) ≤ a1 ∧ a1 ≤ 99
    · obtain ⟨g, g1, g2, rfl⟩ := wi_of (lo := 1) (hi := 99) (by omega) (by omega) hg
      have cm := pc_may1 (c := c) (g := n32 g) h2.1.1 hT hc hs hw
      by_cases e : S (22 + w) = 0 ∧ n32 g ≤ S (8 + byA T w)
      · rw [if_pos e] at cm
        refine ob_hand (f1 := f_X11_give (n32 w) (n32 g)) (f2 := f_X12_give (n32 w) (n32 g)) (S' := aGive T S w (n32 g)) (val := aGive T S w (n32 g) (14 + w)) hR hm hs (aGive_ok hT hs hw g2 e.2) u1 u2 u5 u6 ?_ ?_
        · unfold f_X11_give f_X11_give_J46
          rw [h1.2.2.1, pe_g (n8 h1.1), pc_hasWrong h2.1.1 hT hw, pe_bo, if_neg (by decide), pc_within, wi_y hg, pe_bo, if_neg (by decide), pw_b]
          refine pw_mono (pc_do_y h1 h2 hc u1 u2 u3 u4 cm (fun m1 a b _ => pc_act1 a b hs hw g2)) ?_
          rintro ⟨v, m1⟩ ⟨b1, b2, b3, b4, b5, b6, b7⟩
          simp only at b1 b2 b3 b4 b5 b6 b7
          subst b1
          rw [if_neg (show ¬ (1 : Int32) = 0 by decide)]
          simp (disch := omega) only [pw_g, pw_some, n32_in, n32_cl]
          exact ⟨by omega, b3.2.2.2 w (by omega), b2, b3, b4, b5, b6, b7⟩
        · intro m1 g3 gm g5 g6
          have z1 : mTw (mi_wI m1 12 0 0 0) T := g3.1.1.mv kp_thr (fun p _ x => by omega)
          have z2 : mSt (mi_wI m1 12 0 0 0) 0 S := gm.mv kp_thr (fun p a b d => by omega)
          unfold f_X12_give
          rw [pe_let, pm_isWrong z1 hT hw, pe_bo, if_neg (by decide), pm_within, wi_y hg, pe_bo, if_neg (by decide), show f_X12_mayGive 0 (n32 w) (n32 g) (mi_wI m1 12 0 0 0) = _ from pm_mayGive (b := 0) z1 hT z2 (Nat.zero_le _) hw, pe_bo, if_pos e, if_neg (by decide)]
          simp only [pw_bo, pw_b, pw_some]
          refine pw_mono (pm_hand (f := f_X12_gives 0 (n32 w) (n32 g)) (h := h) (S' := aGive T S w (n32 g)) (Q := fun r => r = aGive T S w (n32 g) (14 + w)) g3 gm u1 g5 (fun m2 a b _ => pm_gives (b := 0) a b (Nat.zero_le _) hw)) ?_
          intro m2 a
          exact a
      · rw [if_neg e] at cm
        refine ob_no (f1 := f_X11_give (n32 w) (n32 g)) (f2 := f_X12_give (n32 w) (n32 g)) (v := -1) hR ?_ ?_
        · unfold f_X11_give f_X11_give_J46
          rw [h1.2.2.1, pe_g (n8 h1.1), pc_hasWrong h2.1.1 hT hw, pe_bo, if_neg (by decide), pc_within, wi_y hg, pe_bo, if_neg (by decide), pc_do_n h1 cm, pe_b, if_pos rfl]
        · unfold f_X12_give f_X12_give_J33
          rw [pe_let, pm_isWrong q1 hT hw, pe_bo, if_neg (by decide), pm_within, wi_y hg, pe_bo, if_neg (by decide), show f_X12_mayGive 0 (n32 w) (n32 g) (mi_wI mem 12 0 0 0) = _ from pm_mayGive (b := 0) q1 hT q2 (Nat.zero_le _) hw, pe_bo, if_neg e, if_pos rfl]
    · refine ob_no (f1 := f_X11_give (n32 w) a1) (f2 := f_X12_give (n32 w) a1) (v := -1) hR ?_ ?_
      · unfold f_X11_give f_X11_give_J21
        rw [h1.2.2.1, pe_g (n8 h1.1), pc_hasWrong h2.1.1 hT hw, pe_bo, if_neg (by decide), pc_within, wi_n hg, pe_bo, if_pos rfl]
      · unfold f_X12_give f_X12_give_J33
        rw [pe_let, pm_isWrong q1 hT hw, pe_bo, if_neg (by decide), pm_within, wi_n hg, pe_bo, if_pos rfl]
  · refine ob_no (f1 := f_X11_give a0 a1) (f2 := f_X12_give a0 a1) (v := -1) hR ?_ ?_
    · unfold f_X11_give f_X11_give_J21
      rw [h1.2.2.1, pe_g (n8 h1.1), pc_hasWrong_n h2.1.1 hT hx, pe_bo, if_pos rfl]
    · unfold f_X12_give f_X12_give_J33
      rw [pe_let, pm_isWrong_n q1 hT hx, pe_bo, if_pos rfl]
theorem aAsk_over {T : Nat → Nat} {cd : Nat → List Int32} {S : Nat → Int32} {w : Nat} {more : Int32} (hT : tOK T) (hw : w < T 2) (h0 : S (22 + w) = 0) : aAsk T cd S w more (22 + w) = if S (14 + w) ≤ n32 (barA T w) then 1 else 0 := by
  have h60 := hT.1.1
  have h82 := hT.1.2.1
  obtain ⟨q1, q2, q3, q4, q5⟩ := hT.2.2.1 w hw
  unfold aAsk
  split
  · rw [fu_ne (by omega), fu_eq]
  · rw [fu_ne (by omega), h0]
theorem po_ask : ob_ask Rel := by
  rintro a0 mem ⟨T, cd, c, y, hR⟩
  obtain ⟨h1, h2, h3, h4, h5, h6, ⟨S, hc, hm, hs⟩, h8, ⟨h, nx, u1, u2, u3, u4, u5, u6⟩, h10⟩ := id hR
  have hT := h2.1.2.1
  have h82 := hT.1.2.1
  have q1 : mTw (mi_wI mem 12 0 0 0) T := h3.1.1.mv kp_thr (fun p _ x => by omega)
  have q2 : mSt (mi_wI mem 12 0 0 0) 0 S := hm.mv kp_thr (fun p a b d => by omega)
  rcases in_or (T 2) a0 with ⟨w, hw, rfl⟩ | hx
  · have cm := pc_may2 (c := c) (g := 0) hc hs (show w < 8 by omega)
    by_cases e : S (22 + w) = 0
    · rw [if_pos e] at cm
      have ok := aAsk_ok (cd := cd) (more := 0) hT hs hw
      have ov := aAsk_over (cd := cd) (more := 0) hT hw e
      refine ob_hand (f1 := f_X11_ask (n32 w)) (f2 := f_X12_ask (n32 w)) (S' := aAsk T cd S w 0) (val := if S (14 + w) ≤ n32 (barA T w) then 1 else 0) hR hm hs ok u1 u2 u5 u6 ?_ ?_
      · unfold f_X11_ask f_X11_ask_J21 f_X11_ask_J39
        rw [h1.2.2.1, pe_g (n8 h1.1), pc_hasWrong h2.1.1 hT hw, pe_bo, if_neg (by decide), pw_b]
        refine pw_mono (pc_do_y h1 h2 hc u1 u2 u3 u4 cm (fun m1 a b _ => pc_act2 a b hs hw e)) ?_
        rintro ⟨v, m1⟩ ⟨b1, b2, b3, b4, b5, b6, b7⟩
        simp only at b1 b2 b3 b4 b5 b6 b7
        subst b1
        rw [if_neg (show ¬ (1 : Int32) = 0 by decide), pc_isForgiven b3 ok (by omega), pe_bo, ov]
        by_cases hr : S (14 + w) ≤ n32 (barA T w)
        · rw [if_pos hr, if_neg (by decide), pw_some]
          exact ⟨rfl, b2, b3, b4, b5, b6, b7⟩
        · rw [if_neg hr, if_pos rfl, pw_some]
          exact ⟨rfl, b2, b3, b4, b5, b6, b7⟩
      · intro m1 g3 gm g5 g6
        have z1 : mTw (mi_wI m1 12 0 0 0) T := g3.1.1.mv kp_thr (fun p _ x => by omega)
        have z2 : mSt (mi_wI m1 12 0 0 0) 0 S := gm.mv kp_thr (fun p a b d => by omega)
        unfold f_X12_ask f_X12_ask_J34
        rw [pe_let, show f_X12_isOpen 0 (n32 w) (mi_wI m1 12 0 0 0) = _ from pm_isOpen (b := 0) z1 hT z2 (Nat.zero_le _) hw, pe_bo, if_pos e, if_neg (by decide)]
        simp only [pw_bo, pw_b, pw_some, pw_if]
        refine pw_mono (pm_hand (f := f_X12_asks 0 (n32 w)) (h := h) (S' := aAsk T cd S w 0) (Q := fun r => r = if S (14 + w) ≤ n32 (barA T w) then 1 else 0) g3 gm u1 g5 (fun m2 a b d => by
          have := pm_asks (b := 0) a b (Nat.zero_le _) hw e
          rw [d, g6] at this
          exact this)) ?_
        intro m2 a
        refine pw_mono a ?_
        rintro ⟨v, m3⟩ ⟨b1, b2⟩
        refine ⟨fun x => ⟨?_, b2⟩, fun x => ⟨?_, b2⟩⟩
        · rw [← b1]; exact x.symm
        · have x : ¬ v = 0 := x
          have b1 : v = if S (14 + w) ≤ n32 (barA T w) then 1 else 0 := b1
          rw [← b1]
          by_cases hr : S (14 + w) ≤ n32 (barA T w)
          · rw [if_pos hr] at b1; exact b1.symm
          · rw [if_neg hr] at b1; exact absurd b1 x
    · rw [if_neg e] at cm
      refine ob_no (f1 := f_X11_ask (n32 w)) (f2 := f_X12_ask (n32 w)) (v := -1) hR ?_ ?_
      · unfold f_X11_ask f_X11_ask_J21
        rw [h1.2.2.1, pe_g (n8 h1.1), pc_hasWrong h2.1.1 hT hw, pe_bo, if_neg (by decide), pc_do_n h1 cm, pe_b, if_pos rfl]
      · unfold f_X12_ask
        rw [pe_let, show f_X12_isOpen 0 (n32 w) (mi_wI mem 12 0 0 0) = _ from pm_isOpen (b := 0) q1 hT q2 (Nat.zero_le _) hw, pe_bo, if_neg e, if_pos rfl]
  · refine ob_no (f1 := f_X11_ask a0) (f2 := f_X12_ask a0) (v := -1) hR ?_ ?_
    · unfold f_X11_ask f_X11_ask_J21
      rw [h1.2.2.1, pe_g (n8 h1.1), pc_hasWrong_n h2.1.1 hT hx, pe_bo, if_pos rfl]
    · unfold f_X12_ask
      rw [pe_let, pm_isOpen_n q1 hT hx, pe_bo, if_pos rfl]
theorem po_undo : ob_undo Rel := by
  rintro mem ⟨T, cd, c, y, hR⟩
  obtain ⟨h1, h2, h3, h4, h5, h6, ⟨S, hc, hm, hs⟩, h8, ⟨h, nx, u1, u2, u3, u4, u5, u6⟩, h10⟩ := id hR
  have hc2 := h1.1
  by_cases e : h = 0
  · refine ob_no (f1 := f_X11_undo) (f2 := f_X12_undo) (v := 0) hR ?_ ?_
    · unfold f_X11_undo f_X3_stepBack
      rw [u3, e, if_pos (show n32 0 = 0 from rfl), pe_g (by decide), pe_b, pe_g (by decide)]
    · unfold f_X12_undo
      rw [pe_let, rI_ne (by omega), u5, e, if_pos (show n32 0 = 0 from rfl), pe_g (by decide)]
  · obtain ⟨Sj, a1, a2, a3⟩ := u6 (h - 1) (by omega)
    rw [show (nx + 16 - h + (h - 1)) % 16 = (nx + 15) % 16 by omega] at a1
    have cls : wo (f_X11_undo mem) (fun r => r.1 = 1 ∧ cSt r.2 0 Sj ∧ r.2.1 3 0 0 = n32 (h - 1) ∧ r.2.1 3 0 1 = n32 ((nx + 15) % 16) ∧ kp (fun k i p => pcS 0 k i ∨ (k = 3 ∧ i = 0 ∧ p < 2)) mem r.2) := by
      unfold f_X11_undo f_X3_stepBack
      have hne : ¬ n32 h = 0 := by rw [show (0 : Int32) = n32 0 from rfl, n32_eq (by omega) (by omega)]; exact e
      rw [u3, u4, if_neg hne]
      simp (disch := omega) only [pw_b, pw_let, pw_g, pw_bo, pw_some, rI_ne, rI_eq, u3, n32_al, n32_sl, n32_dl, n32_ml, n32_sub, n32_in, n32_cl]
      refine ⟨by omega, ?_⟩
      rw [show 0 * 0 + 1 + (nx + 16 - 1 - (nx + 16 - 1) / 16 * 16) = 1 + (nx + 15) % 16 by omega]
      have k1 : kp (fun k i p => k = 3 ∧ i = 0 ∧ p < 2) mem (mi_wI (mi_wI mem 3 0 1 (n32 (nx + 16 - 1 - (nx + 16 - 1) / 16 * 16))) 3 0 0 (n32 (h - 1))) := (kp.rf.wI ⟨rfl, rfl, by omega⟩).wI ⟨rfl, rfl, by omega⟩
      refine pw_mono (pc_become (i := 0) (a1.mv k1 (fun k i p a b d => by omega))) ?_
      rintro m1 ⟨b1, b2⟩
      refine ⟨by decide, by decide, by trivial, b1, ?_, ?_, (k1.mo (fun k i p a => Or.inr a)).tr (b2.mo (fun k i p a => Or.inl a))⟩
      · rw [b2.1 3 0 0 (by omega), rI_eq]
      · rw [b2.1 3 0 1 (by omega), rI_ne (by omega), rI_eq]
        congr 1
        omega
    obtain ⟨⟨r, m1⟩, e1, x1, x2, x3, x4, x5⟩ := cls
    simp only at x1 x2 x3 x4 x5
    subst x1
    have mdl : wo (f_X12_undo m1) (fun r => r.1 = 1 ∧ mSt r.2 0 Sj ∧ r.2.1 12 0 22 = n32 (h - 1) ∧ kp (fun k i p => pmS 0 k i p ∨ (k = 12 ∧ i = 0 ∧ (p = 0 ∨ p = 22))) m1 r.2) := by
      have hne : ¬ n32 h = 0 := by rw [show (0 : Int32) = n32 0 from rfl, n32_eq (by omega) (by omega)]; exact e
      unfold f_X12_undo
      rw [pe_let, rI_ne (by omega), x5.1 12 0 22 (by omega), u5, if_neg hne]
      simp (disch := omega) only [pw_let, pw_g, pw_bo, pw_some, rI_eq, n32_sl, n32_la, n32_lm]
      have k1 : kp (fun k i p => pmS 0 k i p ∨ (k = 12 ∧ i = 0 ∧ (p = 0 ∨ p = 22))) m1 (mi_wI (mi_wI m1 12 0 0 0) 12 0 22 (n32 (h - 1))) := (kp.rf.wI (Or.inr ⟨rfl, rfl, Or.inl rfl⟩)).wI (Or.inr ⟨rfl, rfl, Or.inr rfl⟩)
      refine pw_mono (pm_copies (a := 63 * (5 + (h - 1))) (b := 0) (n := 38) (by omega) (by omega) (by omega)) ?_
      rintro m2 ⟨b1, b2⟩
      refine ⟨by decide, by trivial, fun q hq => ?_, ?_, k1.tr (b1.mo (fun k i p a => by omega))⟩
      · rw [b2 q hq, rI_ne (by omega), rI_ne (by omega), x5.1 64 0 _ (by omega)]
        exact a2 q hq
      · rw [b1.1 12 0 22 (by omega), rI_eq]
    obtain ⟨⟨r, m2⟩, e2, z1, z2, z3, z4⟩ := mdl
    simp only at z1 z2 z3 z4
    subst z1
    have k2 : kp (fun k i p => (pcS 0 k i ∨ (k = 3 ∧ i = 0 ∧ p < 2)) ∨ (pmS 0 k i p ∨ (k = 12 ∧ i = 0 ∧ (p = 0 ∨ p = 22)))) mem m2 := (x5.mo (fun k i p a => Or.inl a)).tr (z4.mo (fun k i p a => Or.inr a))
    refine ⟨_, m1, m2, e1, e2, T, cd, c, y, h1.mv k2 (by omega), h2.mv k2 (fun k i p a b => by unfold cTk at b; omega), h3.mv k2 (fun k i p a b d => by omega), h4.mv k2 (fun k i p a b d => by omega), h5.mv k2 (fun i p a => by omega), h6.mv k2 (fun k i p a b => by omega), ⟨Sj, x2.mv z4 (fun k i p a b d => by omega), z2, a3⟩, h8.mv k2 (fun k i p a b => by omega), ⟨h - 1, (nx + 15) % 16, by omega, by omega, ?_, ?_, z3, fun j hj => ?_⟩, h10.mv k2 (fun k i p a b => by omega)⟩
    · rw [z4.1 3 0 0 (by omega)]; exact x3
    · rw [z4.1 3 0 1 (by omega)]; exact x4
    · have := u6 j (by omega)
      rw [show (nx + 16 - h + j) % 16 = ((nx + 15) % 16 + 16 - (h - 1) + j) % 16 by omega] at this
      exact this.mv k2 (fun k i p a b => by omega)
