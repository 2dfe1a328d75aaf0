/-! ===== sets, look: the calls ===== -/
theorem ft_part {T : Nat → Nat} {cd : Nat → List Int32} {S : Nat → Int32} {n s : Nat} {V : Nat → Nat × Nat × Nat} (h : ftB T cd S n V s = true) (hs : s < 2 ^ T 2) : s &&& rpS T S = s := by
  have hp : alB (prB T S s) (T 2) = true := by unfold ftB at h; simp at h; exact h.1
  have hw := (part_r hs).mpr hp
  apply Nat.eq_of_testBit_eq
  intro i
  rw [Nat.testBit_and]
  cases hb : s.testBit i
  · rfl
  · rw [hw i hb]; rfl
theorem full_and : ∀ P, P ≤ 8 → ∀ s, s < 2 ^ P → s &&& (2 ^ P - 1) = s := by decide +kernel
/-- as stE_rel, of the sets below 2 ^ N -/
theorem stE_rel2 {F : Nat → Bool} {e0 e1 N : Nat} (h0 : ∀ k, k < N → F k = true → k &&& e0 = k) (h1 : ∀ k, k < N → F k = true → k &&& e1 = k) : ∀ k, k ≤ N → (stC F k = 0 → stE F e0 k = e0 ∧ stE F e1 k = e1) ∧ (0 < stC F k → stE F e0 k = stE F e1 k)
  | 0, _ => ⟨fun _ => ⟨rfl, rfl⟩, fun h => absurd h (Nat.lt_irrefl _)⟩
  | k + 1, hk => by
    obtain ⟨i1, i2⟩ := stE_rel2 h0 h1 k (by omega)
    unfold stC stE
    by_cases h : F k = true
    · rw [if_pos h, if_pos h, if_pos h]
      refine ⟨fun x => absurd x (by omega), fun _ => ?_⟩
      by_cases z : stC F k = 0
      · rw [(i1 z).1, (i1 z).2, Nat.and_comm e0, h0 k (by omega) h, Nat.and_comm e1, h1 k (by omega) h]
      · rw [i2 (by omega)]
    · rw [if_neg h, if_neg h, if_neg h]
      exact ⟨i1, i2⟩
theorem po_sets : ob_sets Rel := by
  rintro a0 mem ⟨T, cd, c, y, hR⟩
  obtain ⟨h1, h2, h3, h4, h5, h6, ⟨S, hc, hm, hs⟩, h8, h9, h10⟩ := id hR
  have hT := h2.1.2.1
  have h82 := hT.1.2.1
  have h256 := pow8 h82
  have hp0 := Nat.two_pow_pos (T 2)
  obtain ⟨n, V, v1, v2, v3, v4, v5⟩ := h8.out
  by_cases hg : (0 : Int32) ≤ a0 ∧ a0 ≤ 2
  · obtain ⟨w, g1, g2, rfl⟩ := wi_of (lo := 0) (hi := 2) (by omega) (by omega) hg
    have lc := stC_le (F := ftB T cd S n V) (2 ^ T 2)
    have rel := (stE_rel2 (F := ftB T cd S n V) (e0 := rpS T S) (e1 := 2 ^ T 2 - 1) (N := 2 ^ T 2) (fun k hk hf => ft_part hf hk) (fun k hk _ => full_and _ h82 k hk) (2 ^ T 2) (Nat.le_refl _)).2
    refine ob_ek (f1 := f_X11_sets (n32 w)) (f2 := f_X12_sets (n32 w)) hR (if w = 0 then n32 (stC (ftB T cd S n V) (2 ^ T 2)) else if stC (ftB T cd S n V) (2 ^ T 2) = 0 then -1 else if w = 1 then n32 (stE (ftB T cd S n V) (rpS T S) (2 ^ T 2)) else n32 (stO (ftB T cd S n V) (2 ^ T 2))) ?_ ?_
    · unfold f_X11_sets f_X11_sets_J33 f_X2_setsSeen f_X2_setsSeen_J21 f_X2_setsSeen_J32
      rw [pc_within, wi_y hg, pe_bo, if_neg (by decide), h1.2.2.1, pe_g (n8 h1.1)]
      simp only [pw_b, pw_bo, pw_some]
      refine pw_mono (pc_sort h2 hc hs v1 v2 v3) ?_
      rintro m1 ⟨b1, b2, b3, b4, b5, b6⟩
      simp (disch := omega) only [pw_if, pw_g, pw_some, n32_in, n32_cl, n32_lin, n32_lcl, b2]
      have : w = 0 ∨ w = 1 ∨ w = 2 := by omega
      rcases this with rfl | rfl | rfl
      · exact ⟨fun _ => ⟨by omega, by rw [if_pos rfl]; exact b2, b1, b6⟩, fun x => absurd (show n32 0 = 0 from rfl) x⟩
      · refine ⟨fun x => absurd x (by decide), fun _ => ⟨by omega, fun x => ⟨?_, b1, b6⟩, fun x => ⟨by omega, ?_, b1, b6⟩⟩⟩
        · rw [show (0 : Int32) = n32 0 from rfl, n32_le (by omega) (by omega)] at x
          rw [if_neg (by omega), if_pos (by omega)]
        · rw [show (0 : Int32) = n32 0 from rfl, n32_le (by omega) (by omega)] at x
          rw [if_neg (by omega), if_neg (by omega), if_pos rfl]; exact b3
      · refine ⟨fun x => absurd x (by decide), fun _ => ⟨by omega, fun x => ⟨?_, b1, b6⟩, fun x => ⟨by omega, ?_, b1, b6⟩⟩⟩
        · rw [show (0 : Int32) = n32 0 from rfl, n32_le (by omega) (by omega)] at x
          rw [if_neg (by omega), if_pos (by omega)]
        · rw [show (0 : Int32) = n32 0 from rfl, n32_le (by omega) (by omega)] at x
          rw [if_neg (by omega), if_neg (by omega), if_neg (by omega)]; exact b4
    · intro m1 R1 km
      obtain ⟨r1, r2, r3, -⟩ := id R1
      have gm : mSt m1 0 S := hm.mv km (fun p a b d => by omega)
      have s38 : m1.1 64 0 38 = n32 n := by rw [km.1 64 0 38 (by omega)]; rwa [Nat.zero_add] at v4
      have ssi : ∀ k, k < n → m1.1 64 0 (39 + 3 * k) = n32 (V k).1 ∧ m1.1 64 0 (40 + 3 * k) = n32 (V k).2.1 ∧ m1.1 64 0 (41 + 3 * k) = n32 (V k).2.2 := fun k hk => by
        have := v5 k hk
        rw [Nat.zero_add, Nat.zero_add, Nat.zero_add] at this
        rw [km.1 64 0 _ (by omega), km.1 64 0 _ (by omega), km.1 64 0 _ (by omega)]; exact this
      have q1 : mTw (mi_wI m1 12 0 0 0) T := r3.1.1.mv kp_thr (fun p _ x => by omega)
      unfold f_X12_sets
      rw [pe_let, pm_within, wi_y hg, pe_bo, if_neg (by decide), pm_wrongs q1, pe_bo, sh_1 (by omega)]
      simp (disch := omega) only [pw_let, pw_bo, n32_sl]
      refine pl_for (fun k s => s.1 = n32 (stC (ftB T cd S n V) k) ∧ s.2.1 = n32 (stE (ftB T cd S n V) (2 ^ T 2 - 1) k) ∧ s.2.2.1 = n32 (stO (ftB T cd S n V) k) ∧ s.2.2.2.1 = n32 k ∧ kp (fun k i p => pXm k i p) m1 s.2.2.2.2) (2 ^ T 2) (by omega) ⟨rfl, rfl, rfl, rfl, kp_thr⟩ ?_
      rintro k ⟨l13, l14, l15, l16, m2⟩ hk ⟨e1, e2, e3, e4, e5⟩
      simp only at e1 e2 e3 e4 e5
      subst e1 e2 e3 e4
      have t2 : mT m2 T cd := r3.mv e5 (fun k i p a b d => by omega)
      have S2 : mSt m2 0 S := gm.mv e5 (fun p a b d => by omega)
      unfold f_X12_sets_B33 f_X12_sets_J68
      simp (disch := omega) only [pm_wrongs t2.1.1, sh_1, pw_if, pw_some, pw_b, pw_bo, pw_let, n32_le, lr_r, lr_l, n32_al, n32_and, n32_or]
      refine ⟨fun hz => ?_, fun hz => ?_⟩
      · have : k = 2 ^ T 2 := by omega
        subst this
        unfold f_X12_sets_K33 f_X12_sets_J101
        simp only [pw_if, pw_some]
        refine ⟨fun x => ⟨?_, e5⟩, fun x => ⟨fun z => ⟨?_, e5⟩, fun z => ⟨fun x1 => ⟨?_, e5⟩, fun x1 => ⟨?_, e5⟩⟩⟩⟩
        all_goals rw [show (0 : Int32) = n32 0 from rfl, n32_eq (by omega) (by omega)] at x
        · rw [if_pos x]
        · rw [show (0 : Int32) = n32 0 from rfl, n32_eq (by omega) (by omega)] at z
          rw [if_neg x, if_pos z]
        · rw [show (0 : Int32) = n32 0 from rfl, n32_eq (by omega) (by omega)] at z
          rw [show (1 : Int32) = n32 1 from rfl, n32_eq (by omega) (by omega)] at x1
          rw [if_neg x, if_neg z, if_pos x1, rel (by omega)]
        · rw [show (0 : Int32) = n32 0 from rfl, n32_eq (by omega) (by omega)] at z
          rw [show (1 : Int32) = n32 1 from rfl, n32_eq (by omega) (by omega)] at x1
          rw [if_neg x, if_neg z, if_neg x1]
      · have hk : k < 2 ^ T 2 := by omega
        refine pw_mono (pm_fits (n := n) (s := k) (V := V) t2 S2 hs v1 v2 (by rw [e5.1 64 0 38 (by omega)]; exact s38) (fun k hk => by rw [e5.1 64 0 _ (by omega), e5.1 64 0 _ (by omega), e5.1 64 0 _ (by omega)]; exact ssi k hk)) ?_
        rintro ⟨v, m3⟩ ⟨b1, b2, b3⟩
        simp only at b1 b2 b3
        have k3 : kp (fun k i p => pXm k i p) m1 m3 := e5.tr (b3.mo (fun k i p a => by omega))
        have sC : stC (ftB T cd S n V) (k + 1) = if ftB T cd S n V k then stC (ftB T cd S n V) k + 1 else stC (ftB T cd S n V) k := rfl
        have sE : stE (ftB T cd S n V) (2 ^ T 2 - 1) (k + 1) = if ftB T cd S n V k then stE (ftB T cd S n V) (2 ^ T 2 - 1) k &&& k else stE (ftB T cd S n V) (2 ^ T 2 - 1) k := rfl
        have sO : stO (ftB T cd S n V) (k + 1) = if ftB T cd S n V k then stO (ftB T cd S n V) k ||| k else stO (ftB T cd S n V) k := rfl
        rw [sC, sE, sO]
        by_cases hf : ftB T cd S n V k = true
        · rw [hf] at b1 ⊢
          subst b1
          exact ⟨fun x => absurd (show (1 : Int32) = 0 from x) (by decide), fun _ => ⟨hk, rfl, rfl, rfl, by trivial, k3⟩⟩
        · have hf : ftB T cd S n V k = false := by simpa using hf
          rw [hf] at b1 ⊢
          subst b1
          exact ⟨fun _ => ⟨hk, rfl, rfl, rfl, by trivial, k3⟩, fun x => absurd rfl x⟩
  · refine ob_no (f1 := f_X11_sets a0) (f2 := f_X12_sets a0) (v := -1) hR ?_ ?_
    · unfold f_X11_sets f_X11_sets_J33
      rw [pc_within, wi_n hg, pe_bo, if_pos rfl]
    · unfold f_X12_sets
      rw [pe_let, pm_within, wi_n hg, pe_bo, if_pos rfl]
/-- the look that parts them best -/
def lkA (C : Nat) (L : Nat → Nat) : Nat → Int32 × Nat
  | 0 => (-1, C)
  | k + 1 => if max (L k) (C - L k) < (lkA C L k).2 then (n32 k, max (L k) (C - L k)) else lkA C L k
theorem lkA_le {C : Nat} {L : Nat → Nat} : ∀ k, (lkA C L k).2 ≤ C
  | 0 => Nat.le_refl _
  | k + 1 => by
    have := lkA_le (C := C) (L := L) k
    unfold lkA
    split
    · show max (L k) (C - L k) ≤ C
      omega
    · exact this
theorem po_look : ob_look Rel := by
  rintro mem ⟨T, cd, c, y, hR⟩
  obtain ⟨h1, h2, h3, h4, h5, h6, ⟨S, hc, hm, hs⟩, h8, h9, h10⟩ := id hR
  have hT := h2.1.2.1
  have h82 := hT.1.2.1
  have h60 := hT.1.1
  have h256 := pow8 h82
  have hp0 := Nat.two_pow_pos (T 2)
  obtain ⟨n, V, v1, v2, v3, v4, v5⟩ := h8.out
  obtain ⟨C, hC⟩ : ∃ C, C = stC (ftB T cd S n V) (2 ^ T 2) := ⟨_, rfl⟩
  obtain ⟨L, hL⟩ : ∃ L, L = stL (ftB T cd S n V) (fun s => lmA T cd S s (T 2)) (2 ^ T 2) := ⟨_, rfl⟩
  have lc : C ≤ 256 := by rw [hC]; exact Nat.le_trans (stC_le _) h256
  have ll : ∀ q, L q ≤ C := fun q => by rw [hC, hL]; exact stL_le _
  refine ob_ek (f1 := f_X11_look) (f2 := f_X12_look) hR (lkA C L (10 * T 0)).1 ?_ ?_
  · unfold f_X11_look f_X2_bestLook
    rw [h1.2.2.1, pe_g (n8 h1.1)]
    simp only [pw_b, pw_bo, pw_some]
    refine pw_mono (pc_sort h2 hc hs v1 v2 v3) ?_
    rintro m1 ⟨b1, b2, b3, b4, b5, b6⟩
    rw [← hC] at b2
    rw [← hL] at b5
    simp (disch := omega) only [pw_g, pw_let, pw_bo, n32_lin, n32_lcl, b2]
    refine ⟨by omega, ?_⟩
    refine pl_for (fun k s => s = ((lkA C L k).1, n32 (lkA C L k).2, n32 k)) (10 * T 0) (by omega) rfl ?_
    rintro k s hk rfl
    have le := lkA_le (C := C) (L := L) k
    unfold f_X2_bestLook_B21 f_X2_bestLook_J74
    simp (disch := omega) only [b1.1.1.1.1, n32_ml, pw_if, pw_some, pw_g, pw_let, n32_le, lr_r, lr_l, n32_in, n32_cl, n32_lin, n32_lcl, n32_al, b2]
    refine ⟨fun hz => ?_, fun hz => ⟨by omega, by omega, by omega, ?_⟩⟩
    · have : k = 10 * T 0 := by omega
      subst this
      unfold f_X2_bestLook_K21
      rw [pw_some]
      exact ⟨rfl, b1, b6⟩
    · have lk := ll k
      have emx : (if n32 (L k) < n32 C - n32 (L k) then n32 C - n32 (L k) else n32 (L k)) = n32 (max (L k) (C - L k)) := by
        rw [n32_sub lk]
        by_cases e : L k < C - L k
        · rw [if_pos (by rw [n32_lt (by omega) (by omega)]; exact e), show max (L k) (C - L k) = C - L k by omega]
        · rw [if_neg (by rw [n32_lt (by omega) (by omega)]; exact e), show max (L k) (C - L k) = L k by omega]
      have es : lkA C L (k + 1) = if max (L k) (C - L k) < (lkA C L k).2 then (n32 k, max (L k) (C - L k)) else lkA C L k := rfl
      rw [b5 k (by omega), emx, n32_le (by omega) (by omega), es]
      exact ⟨fun x => ⟨by omega, by rw [if_neg (by omega)]⟩, fun x => ⟨by omega, by rw [if_pos (by omega)]⟩⟩
  · intro m1 R1 km
    obtain ⟨r1, r2, r3, -⟩ := id R1
    have gm : mSt m1 0 S := hm.mv km (fun p a b d => by omega)
    have s38 : m1.1 64 0 38 = n32 n := by rw [km.1 64 0 38 (by omega)]; rwa [Nat.zero_add] at v4
    have ssi : ∀ k, k < n → m1.1 64 0 (39 + 3 * k) = n32 (V k).1 ∧ m1.1 64 0 (40 + 3 * k) = n32 (V k).2.1 ∧ m1.1 64 0 (41 + 3 * k) = n32 (V k).2.2 := fun k hk => by
      have := v5 k hk
      rw [Nat.zero_add, Nat.zero_add, Nat.zero_add] at this
      rw [km.1 64 0 _ (by omega), km.1 64 0 _ (by omega), km.1 64 0 _ (by omega)]; exact this
    unfold f_X12_look
    rw [pe_let, pw_bo]
    refine pl_for (fun k s => s.1 = n32 k ∧ (∀ q, q < k → s.2.1 75 0 q = 0) ∧ kp (fun k i p => pXm k i p) m1 s.2) 60 (by omega) ⟨rfl, fun q hq => absurd hq (by omega), kp_thr⟩ ?_
    rintro k ⟨l42, m2⟩ hk ⟨e1, e2, e3⟩
    simp only at e1 e2 e3
    subst e1
    unfold f_X12_look_B7
    simp (disch := omega) only [pw_if, pw_some, pw_g, pw_let, n32_Lle, lr_r, lr_l, n32_in, n32_cl, n32_al]
    refine ⟨fun hz => ?_, fun hz => ⟨by omega, by omega, by trivial, fun q hq => ?_, e3.wI (by omega)⟩⟩
    · have : k = 60 := by omega
      subst this
      unfold f_X12_look_K7
      rw [pw_bo]
      refine pl_for (fun k s => s.1 = n32 (stC (ftB T cd S n V) k) ∧ s.2.1 = n32 k ∧ (∀ q, q < 10 * T 0 → s.2.2.1 75 0 q = n32 (stL (ftB T cd S n V) (fun s => lmA T cd S s (T 2)) k q)) ∧ kp (fun k i p => pXm k i p) m1 s.2.2) (2 ^ T 2) (by omega) ⟨rfl, rfl, fun q hq => e2 q (by omega), e3⟩ ?_
      clear e2 e3 hz hk m2
      rintro k ⟨l21, l22, m2⟩ hk ⟨e1, e2, e3, e5⟩
      simp only at e1 e2 e3 e5
      subst e1 e2
      have t2 : mT m2 T cd := r3.mv e5 (fun k i p a b d => by omega)
      have S2 : mSt m2 0 S := gm.mv e5 (fun p a b d => by omega)
      unfold f_X12_look_B30
      simp (disch := omega) only [pm_wrongs t2.1.1, sh_1, pw_if, pw_some, pw_b, pw_bo, n32_le, lr_r]
      refine ⟨fun hz => ?_, fun hz => ?_⟩
      · have : k = 2 ^ T 2 := by omega
        subst this
        rw [← hC]
        rw [← hL] at e3
        unfold f_X12_look_K30
        simp only [pw_bo]
        refine pl_for (fun k s => s = ((lkA C L k).1, n32 (lkA C L k).2, n32 k)) (10 * T 0) (by omega) rfl ?_
        rintro k s hk rfl
        have le := lkA_le (C := C) (L := L) k
        have lk := ll k
        have es : lkA C L (k + 1) = if max (L k) (C - L k) < (lkA C L k).2 then (n32 k, max (L k) (C - L k)) else lkA C L k := rfl
        unfold f_X12_look_B113
        simp (disch := omega) only [pm_people t2.1.1, n32_lm, pw_if, pw_some, pw_g, pw_bo, n32_le, lr_r, n32_in, n32_cl]
        refine ⟨fun hz => ?_, fun hz => ⟨by omega, by omega, ?_⟩⟩
        · have : k = 10 * T 0 := by omega
          subst this
          unfold f_X12_look_K113
          rw [pw_some]
          exact ⟨rfl, e5⟩
        · have j163 : ∀ u : Int32, u = n32 (max (L k) (C - L k)) → wo (f_X12_look_J163 (lkA C L k).1 (n32 (lkA C L k).2) (n32 k) u) (lr (fun s' => k < 10 * T 0 ∧ s' = ((lkA C L (k + 1)).1, n32 (lkA C L (k + 1)).2, n32 (k + 1))) (fun e => wo (f_X12_look_K113 m2 e) (fun r => r.1 = (lkA C L (10 * T 0)).1 ∧ kp (fun k i p => pXm k i p) m1 r.2))) := by
            rintro u rfl
            unfold f_X12_look_J163 f_X12_look_J177 f_X12_look_J190
            simp (disch := omega) only [pw_if, pw_some, lr_l, n32_al, n32_le]
            rw [es]
            exact ⟨fun x => ⟨fun _ => ⟨by omega, by rw [if_neg (by omega)]⟩, fun z => absurd x z⟩, fun x => ⟨fun z => absurd z x, fun _ => ⟨by omega, by rw [if_pos (by omega)]⟩⟩⟩
          rw [e3 k (by omega), n32_sub lk, n32_le (by omega) (by omega)]
          exact ⟨fun x => ⟨by omega, j163 _ (by rw [show max (L k) (C - L k) = C - L k by omega])⟩, fun x => ⟨by omega, j163 _ (by rw [show max (L k) (C - L k) = L k by omega])⟩⟩
      · have hk : k < 2 ^ T 2 := by omega
        refine pw_mono (pm_fits (n := n) (s := k) (V := V) t2 S2 hs v1 v2 (by rw [e5.1 64 0 38 (by omega)]; exact s38) (fun k hk => by rw [e5.1 64 0 _ (by omega), e5.1 64 0 _ (by omega), e5.1 64 0 _ (by omega)]; exact ssi k hk)) ?_
        rintro ⟨v, m3⟩ ⟨b1, b2, b3⟩
        simp only at b1 b2 b3
        have k3 : kp (fun k i p => pXm k i p) m1 m3 := e5.tr (b3.mo (fun k i p a => by omega))
        have z3 : ∀ q, q < 10 * T 0 → m3.1 75 0 q = n32 (stL (ftB T cd S n V) (fun s => lmA T cd S s (T 2)) k q) := fun q hq => by rw [b3.1 75 0 q (by omega)]; exact e3 q hq
        have sC : stC (ftB T cd S n V) (k + 1) = if ftB T cd S n V k then stC (ftB T cd S n V) k + 1 else stC (ftB T cd S n V) k := rfl
        have sL : ∀ q, stL (ftB T cd S n V) (fun s => lmA T cd S s (T 2)) (k + 1) q = stL (ftB T cd S n V) (fun s => lmA T cd S s (T 2)) k q + (if ftB T cd S n V k = true ∧ n32 (q % 10) < lmA T cd S k (T 2) (q / 10) then 1 else 0) := fun q => rfl
        by_cases hf : ftB T cd S n V k = true
        · rw [if_pos hf] at b1
          subst b1
          refine ⟨fun x => absurd (show (1 : Int32) = 0 from x) (by decide), fun _ => ?_⟩
          have b2 := b2 hf
          refine pl_for (fun t s => s.1 = n32 t ∧ (∀ q, q < 10 * T 0 → s.2.1 75 0 q = n32 (stL (ftB T cd S n V) (fun s => lmA T cd S s (T 2)) k q + (if q < t ∧ n32 (q % 10) < lmA T cd S k (T 2) (q / 10) then 1 else 0))) ∧ kp (fun k i p => k = 75 ∧ i = 0) m3 s.2) (10 * T 0) (by omega) ⟨rfl, fun q hq => by rw [if_neg (by omega), Nat.add_zero]; exact z3 q hq, kp.rf⟩ ?_
          rintro t ⟨l30, m4⟩ ht ⟨f1, f2, f3⟩
          simp only at f1 f2 f3
          subst f1
          have k4 : kp (fun k i p => pXm k i p) m1 m4 := k3.tr (f3.mo (fun k i p a => by omega))
          have t4 : mT m4 T cd := r3.mv k4 (fun k i p a b d => by omega)
          unfold f_X12_look_B53 f_X12_look_J92
          simp (disch := omega) only [pm_people t4.1.1, n32_lm, n32_dl, n32_ml, n32_sub, pw_if, pw_some, pw_g, pw_let, pw_bo, n32_le, lr_r, lr_l, n32_in, n32_cl, n32_al]
          refine ⟨fun hy => ?_, fun hy => ⟨by omega, by omega, ?_⟩⟩
          · have : t = 10 * T 0 := by omega
            subst this
            unfold f_X12_look_K53 f_X12_look_J100
            rw [pw_some, lr_l, n32_al, n32_al, sC, if_pos hf]
            refine ⟨hk, rfl, rfl, fun q hq => ?_, k4⟩
            show m4.1 75 0 q = _
            rw [f2 q hq, sL]
            by_cases z : n32 (q % 10) < lmA T cd S k (T 2) (q / 10)
            · rw [if_pos ⟨hq, z⟩, if_pos ⟨hf, z⟩]
            · rw [if_neg (fun x => z x.2), if_neg (fun x => z x.2)]
          · have ht : t < 10 * T 0 := by omega
            have r74 : m4.1 74 0 (t / 10) = lmA T cd S k (T 2) (t / 10) := by rw [f3.1 74 0 _ (by omega)]; exact b2 (t / 10) (by omega)
            rw [r74, show t - t / 10 * 10 = t % 10 by omega, f2 t ht, if_neg (show ¬ (t < t ∧ n32 (t % 10) < lmA T cd S k (T 2) (t / 10)) by omega)]
            have nx : ∀ u : Nat, u = (if n32 (t % 10) < lmA T cd S k (T 2) (t / 10) then 1 else 0) → ∀ q, q < 10 * T 0 → (mi_wI m4 75 0 t (n32 (stL (ftB T cd S n V) (fun s => lmA T cd S s (T 2)) k t + 0) + n32 u)).1 75 0 q = n32 (stL (ftB T cd S n V) (fun s => lmA T cd S s (T 2)) k q + (if q < t + 1 ∧ n32 (q % 10) < lmA T cd S k (T 2) (q / 10) then 1 else 0)) := by
              rintro u hu q hq
              rw [rI]
              by_cases eq : q = t
              · subst eq
                rw [if_pos ⟨rfl, rfl, rfl⟩, n32_add, hu, Nat.add_zero]
                congr 2
                by_cases z : n32 (q % 10) < lmA T cd S k (T 2) (q / 10)
                · rw [if_pos z, if_pos ⟨by omega, z⟩]
                · rw [if_neg z, if_neg (fun x => z x.2)]
              · rw [if_neg (fun x => eq x.2.2), f2 q hq]
                congr 2
                by_cases z : q < t ∧ n32 (q % 10) < lmA T cd S k (T 2) (q / 10)
                · rw [if_pos z, if_pos ⟨by omega, z.2⟩]
                · rw [if_neg z, if_neg (fun x => z ⟨by omega, x.2⟩)]
            refine ⟨fun x => ⟨by omega, ht, by trivial, nx 0 ?_, f3.wI ⟨rfl, rfl⟩⟩, fun x => ⟨by omega, ht, by trivial, ?_, f3.wI ⟨rfl, rfl⟩⟩⟩
            · rw [if_neg (i32_nlt.mpr x)]
            · exact nx 1 (by rw [if_pos (i32_nle.mp x)])
        · rw [if_neg hf] at b1
          subst b1
          refine ⟨fun _ => ?_, fun x => absurd rfl x⟩
          unfold f_X12_look_J100
          rw [pw_some, lr_l, n32_al, sC, if_neg hf]
          refine ⟨hk, rfl, rfl, fun q hq => ?_, k3⟩
          show m3.1 75 0 q = _
          rw [z3 q hq, sL, if_neg (fun x => hf x.1), Nat.add_zero]
    · rw [rI]
      by_cases eq : q = k
      · subst eq
        rw [if_pos ⟨rfl, rfl, rfl⟩]
      · rw [if_neg (fun x => eq x.2.2)]; exact e2 q (by omega)
