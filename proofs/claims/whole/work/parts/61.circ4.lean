theorem pm_circle {m : mi_M} {T : Nat → Nat} {S : Nat → Int32} (h : mTw m T) (hT : tOK T) (hS : mSt m 0 S) (hs : sOK T S) : mi_lp (f_X12_circle_B9 m) mi_fu ((-1 : Int32), (1 : Int32)) = some (oN (lsC (fun s => opS S s ∧ cP (T 2) (byA T) (toA T) s) (2 ^ T 2 - 1))) := by
  have h8 := hT.1.2.1
  have hp : 0 < 2 ^ T 2 := Nat.two_pow_pos _
  have h256 : 2 ^ T 2 ≤ 256 := Nat.pow_le_pow_right (n := 2) (i := T 2) (j := 8) (by decide) h8
  apply pw_eq
  refine pl_for (fun k z => z = (oN (lsC (fun s => opS S s ∧ cP (T 2) (byA T) (toA T) s) k), n32 (k + 1))) (2 ^ T 2 - 1) (by omega) rfl ?_
  rintro k z hk rfl
  unfold f_X12_circle_B9
  dsimp only
  rw [pm_wrongs h, pw_bo, pw_some, sh_1 (by omega)]
  simp (disch := omega) only [pw_if, pw_some, n32_le, lr_r]
  refine ⟨fun hz => ?_, fun hz => ?_⟩
  · have : k = 2 ^ T 2 - 1 := by omega
    rw [← this]
  · have st : ∀ v, v = oN (lsC (fun s => opS S s ∧ cP (T 2) (byA T) (toA T) s) (k + 1)) → wo (f_X12_circle_J100 (n32 (k + 1)) v) (lr (fun s' => k < 2 ^ T 2 - 1 ∧ s' = (oN (lsC (fun s => opS S s ∧ cP (T 2) (byA T) (toA T) s) (k + 1)), n32 (k + 1 + 1))) (fun r => r = oN (lsC (fun s => opS S s ∧ cP (T 2) (byA T) (toA T) s) (2 ^ T 2 - 1)))) := by
      rintro v rfl
      unfold f_X12_circle_J100
      rw [pw_some, lr_l, n32_al]
      exact ⟨by omega, rfl⟩
    have j87 : opS S (k + 1) → (∀ v, lsC (fun s => opS S s ∧ cP (T 2) (byA T) (toA T) s) k = some v → pcN (k + 1) < pcN v) → wo (f_X12_circle_J87 m (oN (lsC (fun s => opS S s ∧ cP (T 2) (byA T) (toA T) s) k)) (n32 (k + 1))) (lr (fun s' => k < 2 ^ T 2 - 1 ∧ s' = (oN (lsC (fun s => opS S s ∧ cP (T 2) (byA T) (toA T) s) (k + 1)), n32 (k + 1 + 1))) (fun r => r = oN (lsC (fun s => opS S s ∧ cP (T 2) (byA T) (toA T) s) (2 ^ T 2 - 1)))) := by
      intro ho hl
      unfold f_X12_circle_J87
      rw [pw_bo]
      refine pw_mono (pm_isCircle (s := k + 1) h hT (by omega) (by omega)) ?_
      rintro r ⟨r1, r2⟩
      by_cases q : cP (T 2) (byA T) (toA T) (k + 1)
      · rw [r1 q, if_neg (by decide)]
        exact st _ (by rw [lsC_y ⟨hl, ho, q⟩]; rfl)
      · rw [r2 q, if_pos rfl]
        unfold f_X12_circle_J99
        exact st _ (by rw [lsC_n (fun z => q z.2.2)])
    rw [pw_bo]
    refine pw_mono (pm_open (s := k + 1) h hT hS hs (by omega)) ?_
    rintro e6 ⟨e1, e2⟩
    unfold f_X12_circle_K24 f_X12_circle_J99
    by_cases ho : opS S (k + 1)
    · rw [e1 ho, if_neg (by decide)]
      cases el : lsC (fun s => opS S s ∧ cP (T 2) (byA T) (toA T) s) k with
      | none =>
        rw [if_pos (show oN none < 0 by decide)]
        have := j87 ho (fun v hv => by rw [el] at hv; cases hv)
        rw [el] at this
        exact this
      | some u =>
        have ub := lsC_b el
        have p1 := pcN_8 u
        have p2 := pcN_8 (k + 1)
        show wo (if n32 u < 0 then _ else mi_bo (f_X12_bits (n32 (k + 1)) m) fun v10 => mi_bo (f_X12_bits (n32 u) m) fun v11 => if v11 ≤ v10 then f_X12_circle_J100 (n32 (k + 1)) (n32 u) else _) _
        rw [if_neg (n32_nn (by omega)).mp, pm_bits (by omega), pe_bo, pm_bits (by omega), pe_bo, pw_if, n32_le (by omega) (by omega)]
        refine ⟨fun x => st _ ?_, fun x => ?_⟩
        · rw [lsC_n (fun z => by have := z.1 u el; omega), el]
          rfl
        · have := j87 ho (fun v hv => by rw [el] at hv; cases hv; omega)
          rw [el] at this
          exact this
    · rw [e2 ho, if_pos rfl]
      exact st _ (by rw [lsC_n (fun z => ho z.2.1)])
theorem po_circle : ob_circle Rel := by
  rintro mem ⟨T, cd, c, y, hR⟩
  obtain ⟨h1, h2, h3, h4, h5, h6, ⟨S, hc, hm, hs⟩, h8, h9, h10⟩ := id hR
  have hT := h2.1.2.1
  refine ob_rd hR (oN (lsC (fun s => opS S s ∧ cQ (T 2) (byA T) (toA T) s) (2 ^ T 2 - 1))) (f1 := f_X11_circle) (f2 := f_X12_circle) ?_ ?_
  · unfold f_X11_circle
    rw [h1.2.2.1, pe_g (n8 h1.1), pc_least h2.1.1 hT hc hs, pe_bo]
  · unfold f_X12_circle
    have hR1 := hR.sm (kp_thr (m := mem) (v := 0))
    have hm1 : mSt (mi_wI mem 12 0 0 0) 0 S := hm.mv (kp_thr (m := mem) (v := 0)) (fun p a x y => by omega)
    rw [pe_let, pm_circle hR1.2.2.1.1.1 hT hm1 hs, pw_bo, pw_some]
    unfold f_X12_circle_K9
    rw [pw_some]
    refine ⟨?_, kp_thr⟩
    rw [circ_eq hT.1.2.1 (fun u s a b w hw => b w (a w hw))]
