/-! ===== see, mark ===== -/
theorem nar_b {u : Nat} (hu : u ≤ 1) : vp_nar .boolean (n32 u) = n32 u := by
  have : u = 0 ∨ u = 1 := by omega
  rcases this with rfl | rfl <;> decide
theorem po_see : ob_see Rel := by
  rintro a0 a1 a2 mem ⟨T, cd, c, y, hR⟩ ha2
  obtain ⟨h1, h2, h3, h4, h5, h6, h7, ⟨n, s1, s2, s3, s4⟩, h9, h10⟩ := id hR
  have hT := h2.1.2.1
  have h60 := hT.1.1
  have hc2 := h1.1
  have q1 : mTw (mi_wI mem 12 0 0 0) T := h3.1.1.mv kp_thr (fun p _ x => by omega)
  obtain ⟨u, hu, rfl⟩ : ∃ u, u ≤ 1 ∧ a2 = n32 u := by
    rcases ha2 with rfl | rfl
    · exact ⟨0, by omega, rfl⟩
    · exact ⟨1, by omega, rfl⟩
  rcases in_or (T 0) a0 with ⟨l, hl, rfl⟩ | hx
  · by_cases hg : (0 : Int32) ≤ a1 ∧ a1 ≤ 9
    · obtain ⟨g, g1, g2, rfl⟩ := wi_of (lo := 0) (hi := 9) (by omega) (by omega) hg
      by_cases e : n = 8
      · refine ob_no (f1 := f_X11_see (n32 l) (n32 g) (n32 u)) (f2 := f_X12_see (n32 l) (n32 g) (n32 u)) (v := 0) hR ?_ ?_
        · unfold f_X11_see f_X4_add
          rw [h1.2.2.1, pe_g (n8 h1.1), pc_hasPerson h2.1.1 hT hl, pe_bo, if_neg (by decide), pc_within, wi_y hg, pe_bo, if_neg (by decide), s2, e, if_neg (show ¬ n32 8 < 8 by decide), pe_g (by decide), pe_b, pe_g (by decide)]
        · unfold f_X12_see f_X12_see_J35
          have z : (mi_wI mem 12 0 0 0).1 64 0 (38 : Int32).toNatClampNeg = n32 8 := by rw [rI_ne (by omega), show (38 : Int32).toNatClampNeg = 0 + 38 from rfl, s3, e]
          rw [pe_let, pm_isPerson q1 hT hl, pe_bo, if_neg (by decide), pm_within, wi_y hg, pe_bo, if_neg (by decide), z, if_pos (show n32 8 = 8 from rfl), pe_g (show vp_in (38 : Int32) 1449 from (n32_in (k := 38) (by omega)).mpr (by omega)), pe_g (by decide)]
      · have cls : wo (f_X11_see (n32 l) (n32 g) (n32 u) mem) (fun r => r.1 = 1 ∧ r.2.1 4 0 0 = n32 (n + 1) ∧ r.2.1 31 0 n = n32 l ∧ r.2.1 32 0 n = n32 g ∧ r.2.1 33 0 n = n32 u ∧ kp (fun k i p => i = 0 ∧ (k = 4 ∨ (k = 31 ∨ k = 32 ∨ k = 33) ∧ p = n)) mem r.2) := by
          unfold f_X11_see f_X4_add
          rw [h1.2.2.1, pe_g (n8 h1.1), pc_hasPerson h2.1.1 hT hl, pe_bo, if_neg (by decide), pc_within, wi_y hg, pe_bo, if_neg (by decide)]
          simp (disch := omega) only [s2, rI_ne, pw_b, pw_if, pw_g, pw_let, pw_some, n32_ltL, n32_in, n32_cl, n32_al, nar_b hu]
          refine ⟨fun _ => ⟨by omega, by omega, by omega, by decide, by decide, by trivial, ?_, ?_, ?_, ?_, ?_⟩, fun x => absurd x (by omega)⟩
          · simp (disch := omega) only [rI_ne, rI_eq]
          · simp (disch := omega) only [rI_ne, rI_eq]
          · simp (disch := omega) only [rI_ne, rI_eq]
          · simp (disch := omega) only [rI_ne, rI_eq]
          · exact (((kp.rf.wI ⟨rfl, Or.inr ⟨Or.inl rfl, rfl⟩⟩).wI ⟨rfl, Or.inr ⟨Or.inr (Or.inl rfl), rfl⟩⟩).wI ⟨rfl, Or.inr ⟨Or.inr (Or.inr rfl), rfl⟩⟩).wI ⟨rfl, Or.inl rfl⟩
        obtain ⟨⟨r, m1⟩, e1, x1, x2, x3, x4, x5, x6⟩ := cls
        simp only at x1 x2 x3 x4 x5 x6
        subst x1
        have p1 : mTw (mi_wI m1 12 0 0 0) T := (h3.1.1.mv x6 (fun p _ x => by omega)).mv kp_thr (fun p _ x => by omega)
        have p38 : (mi_wI m1 12 0 0 0).1 64 0 38 = n32 n := by
          rw [rI_ne (by omega), x6.1 64 0 38 (by omega)]; exact s3
        have mdl : wo (f_X12_see (n32 l) (n32 g) (n32 u) m1) (fun r => r.1 = 1 ∧ r.2.1 64 0 38 = n32 (n + 1) ∧ r.2.1 64 0 (39 + 3 * n) = n32 l ∧ r.2.1 64 0 (40 + 3 * n) = n32 g ∧ r.2.1 64 0 (41 + 3 * n) = n32 u ∧ kp (fun k i p => i = 0 ∧ (k = 12 ∧ p = 0 ∨ k = 64 ∧ (p = 38 ∨ (39 + 3 * n ≤ p ∧ p < 42 + 3 * n)))) m1 r.2) := by
          unfold f_X12_see f_X12_see_J86
          rw [pe_let, pm_isPerson p1 hT hl, pe_bo, if_neg (by decide), pm_within, wi_y hg, pe_bo, if_neg (by decide)]
          simp (disch := omega) only [n32_lcl, n32_lin, p38, pw_g, pw_if, pw_let, pw_some, n32_eqL, n32_lm, n32_la, n32_al, n32_in, n32_cl, rI_ne]
          have fin : ∀ v : Int32, v = n32 u → (mi_wI (mi_wI (mi_wI (mi_wI (mi_wI m1 12 0 0 0) 64 0 (39 + 3 * n) (n32 l)) 64 0 (39 + 3 * n + 1) (n32 g)) 64 0 (39 + 3 * n + 2) v) 64 0 38 (n32 (n + 1))).1 64 0 38 = n32 (n + 1) ∧ (mi_wI (mi_wI (mi_wI (mi_wI (mi_wI m1 12 0 0 0) 64 0 (39 + 3 * n) (n32 l)) 64 0 (39 + 3 * n + 1) (n32 g)) 64 0 (39 + 3 * n + 2) v) 64 0 38 (n32 (n + 1))).1 64 0 (39 + 3 * n) = n32 l ∧ (mi_wI (mi_wI (mi_wI (mi_wI (mi_wI m1 12 0 0 0) 64 0 (39 + 3 * n) (n32 l)) 64 0 (39 + 3 * n + 1) (n32 g)) 64 0 (39 + 3 * n + 2) v) 64 0 38 (n32 (n + 1))).1 64 0 (40 + 3 * n) = n32 g ∧ (mi_wI (mi_wI (mi_wI (mi_wI (mi_wI m1 12 0 0 0) 64 0 (39 + 3 * n) (n32 l)) 64 0 (39 + 3 * n + 1) (n32 g)) 64 0 (39 + 3 * n + 2) v) 64 0 38 (n32 (n + 1))).1 64 0 (41 + 3 * n) = n32 u ∧ kp (fun k i p => i = 0 ∧ (k = 12 ∧ p = 0 ∨ k = 64 ∧ (p = 38 ∨ (39 + 3 * n ≤ p ∧ p < 42 + 3 * n)))) m1 (mi_wI (mi_wI (mi_wI (mi_wI (mi_wI m1 12 0 0 0) 64 0 (39 + 3 * n) (n32 l)) 64 0 (39 + 3 * n + 1) (n32 g)) 64 0 (39 + 3 * n + 2) v) 64 0 38 (n32 (n + 1))) := by
            rintro v rfl
            refine ⟨rI_eq, ?_, ?_, ?_, ((((kp.rf.wI ⟨rfl, by omega⟩).wI ⟨rfl, by omega⟩).wI ⟨rfl, by omega⟩).wI ⟨rfl, by omega⟩).wI ⟨rfl, by omega⟩⟩
            · rw [rI_ne (by omega), rI_ne (by omega), rI_ne (by omega), rI_eq]
            · rw [rI_ne (by omega), rI_ne (by omega), show 40 + 3 * n = 39 + 3 * n + 1 by omega, rI_eq]
            · rw [rI_ne (by omega), show 41 + 3 * n = 39 + 3 * n + 2 by omega, rI_eq]
          refine ⟨by omega, fun x => absurd x e, fun _ => ⟨by omega, by omega, by omega, fun z => ⟨by omega, by omega, by omega, by decide, by trivial, ?_⟩, fun z => ⟨by omega, by omega, by omega, by decide, by trivial, ?_⟩⟩⟩
          · have fz := fin 0 (by rw [z]; rfl)
            simp (disch := omega) only [rI_ne] at fz
            exact fz
          · have : u = 1 := by omega
            have fz := fin 1 (by rw [this]; rfl)
            simp (disch := omega) only [rI_ne] at fz
            exact fz
        obtain ⟨⟨r, m2⟩, e2, z1, z2, z3, z4, z5, z6⟩ := mdl
        simp only at z1 z2 z3 z4 z5 z6
        subst z1
        have k2 : kp (fun k i p => (i = 0 ∧ (k = 4 ∨ (k = 31 ∨ k = 32 ∨ k = 33) ∧ p = n)) ∨ (i = 0 ∧ (k = 12 ∧ p = 0 ∨ k = 64 ∧ (p = 38 ∨ (39 + 3 * n ≤ p ∧ p < 42 + 3 * n))))) mem m2 := (x6.mo (fun k i p a => Or.inl a)).tr (z6.mo (fun k i p a => Or.inr a))
        refine ⟨_, m1, m2, e1, e2, T, cd, c, y, h1.mv k2 (by omega), h2.mv k2 (fun k i p a b => by unfold cTk at b; omega), h3.mv k2 (fun k i p a b d => by omega), h4.mv k2 (fun k i p a b d => by omega), h5.mv k2 (fun i p a => by omega), h6.mv k2 (fun k i p a b => by omega), h7.mv k2 (fun k i p a b => by omega), ⟨n + 1, by omega, ?_, z2, fun k hk => ?_⟩, h9.mv k2 (fun k i p a b => by omega), h10.mv k2 (fun k i p a b => by omega)⟩
        · rw [z6.1 4 0 0 (by omega)]; exact x2
        · by_cases ek : k = n
          · subst ek
            refine ⟨l, g, u, ⟨hl, g2, hu⟩, ⟨?_, ?_, ?_⟩, ?_, ?_, ?_⟩
            · rw [z6.1 31 0 k (by omega)]; exact x3
            · rw [z6.1 32 0 k (by omega)]; exact x4
            · rw [z6.1 33 0 k (by omega)]; exact x5
            · rw [Nat.zero_add]; exact z3
            · rw [Nat.zero_add]; exact z4
            · rw [Nat.zero_add]; exact z5
          · rw [k2.1 31 0 k (by omega), k2.1 32 0 k (by omega), k2.1 33 0 k (by omega), k2.1 64 0 _ (by omega), k2.1 64 0 _ (by omega), k2.1 64 0 _ (by omega)]
            exact s4 k (by omega)
    · refine ob_no (f1 := f_X11_see (n32 l) a1 (n32 u)) (f2 := f_X12_see (n32 l) a1 (n32 u)) (v := 0) hR ?_ ?_
      · unfold f_X11_see f_X11_see_J21
        rw [h1.2.2.1, pe_g (n8 h1.1), pc_hasPerson h2.1.1 hT hl, pe_bo, if_neg (by decide), pc_within, wi_n hg, pe_bo, if_pos rfl, pe_g (by decide)]
      · unfold f_X12_see f_X12_see_J35
        rw [pe_let, pm_isPerson q1 hT hl, pe_bo, if_neg (by decide), pm_within, wi_n hg, pe_bo, if_pos rfl, pe_g (by decide)]
  · refine ob_no (f1 := f_X11_see a0 a1 (n32 u)) (f2 := f_X12_see a0 a1 (n32 u)) (v := 0) hR ?_ ?_
    · unfold f_X11_see f_X11_see_J21
      rw [h1.2.2.1, pe_g (n8 h1.1), pc_hasPerson_n h2.1.1 hT hx, pe_bo, if_pos rfl, pe_g (by decide)]
    · unfold f_X12_see f_X12_see_J35
      rw [pe_let, pm_isPerson_n q1 hT hx, pe_bo, if_pos rfl, pe_g (by decide)]
/-! marks -/
/-- sights as the developers' holds them -/
def cSi (m : mi_M) (s n : Nat) (V : Nat → Nat × Nat × Nat) : Prop := m.1 4 s 0 = n32 n ∧ ∀ k, k < n → m.1 31 s k = n32 (V k).1 ∧ m.1 32 s k = n32 (V k).2.1 ∧ m.1 33 s k = n32 (V k).2.2
theorem pc_become4 {m : mi_M} {i j n : Nat} {V : Nat → Nat × Nat × Nat} (hn : n ≤ 8) (hV : ∀ k, k < n → (V k).2.2 ≤ 1) (h : cSi m j n V) : wo (f_X4_become i j m) (fun m' => cSi m' i n V ∧ kp (fun k x _ => (k = 4 ∨ k = 31 ∨ k = 32 ∨ k = 33) ∧ x = i) m m') := by
  unfold f_X4_become
  rw [pw_let, pw_bo, h.1]
  by_cases hij : j = i
  · subst hij
    refine pl_for (fun k s => s.1 = n32 k ∧ (∀ p, p < n → s.2.1 31 j p = n32 (V p).1 ∧ s.2.1 32 j p = n32 (V p).2.1 ∧ s.2.1 33 j p = n32 (V p).2.2) ∧ s.2.1 4 j 0 = n32 n ∧ kp (fun k x _ => (k = 4 ∨ k = 31 ∨ k = 32 ∨ k = 33) ∧ x = j) m s.2) 8 (by omega) ⟨rfl, fun p hp => by rw [rI_ne (by omega), rI_ne (by omega), rI_ne (by omega)]; exact h.2 p hp, rI_eq, kp.rf.wI ⟨Or.inl rfl, rfl⟩⟩ ?_
    rintro k ⟨l3, m1⟩ hk ⟨e1, e2, e3, e4⟩
    simp only at e1 e2 e3 e4
    subst e1
    unfold f_X4_become_B10
    simp (disch := omega) only [pw_if, pw_some, pw_g, pw_let, n32_Lle, lr_r, lr_l, n32_in, n32_cl, n32_al]
    refine ⟨fun hz => ?_, fun hz => ⟨by omega, by omega, by omega, by omega, by omega, by omega, by omega, by trivial, fun p hp => ?_, ?_, ?_⟩⟩
    · unfold f_X4_become_K10
      rw [pw_some]
      exact ⟨⟨e3, e2⟩, e4⟩
    · by_cases ep : p = k
      · subst ep
        obtain ⟨a1, a2, a3⟩ := e2 p hp
        rw [rI_ne (by omega), rI_ne (by omega), rI_eq, rI_ne (by omega), rI_eq, rI_eq, rI_ne (by omega), rI_ne (by omega), rI_ne (by omega), a1, a2, a3, nar_b (hV p hp)]
        exact ⟨rfl, rfl, rfl⟩
      · rw [rI_ne (by omega), rI_ne (by omega), rI_ne (by omega), rI_ne (by omega), rI_ne (by omega), rI_ne (by omega), rI_ne (by omega), rI_ne (by omega), rI_ne (by omega)]
        exact e2 p hp
    · rw [rI_ne (by omega), rI_ne (by omega), rI_ne (by omega)]; exact e3
    · exact ((e4.wI ⟨by omega, rfl⟩).wI ⟨by omega, rfl⟩).wI ⟨by omega, rfl⟩
  · refine pl_for (fun k s => s.1 = n32 k ∧ (∀ p, p < k → p < n → s.2.1 31 i p = n32 (V p).1 ∧ s.2.1 32 i p = n32 (V p).2.1 ∧ s.2.1 33 i p = n32 (V p).2.2) ∧ s.2.1 4 i 0 = n32 n ∧ kp (fun k x _ => (k = 4 ∨ k = 31 ∨ k = 32 ∨ k = 33) ∧ x = i) m s.2) 8 (by omega) ⟨rfl, fun p hp => absurd hp (by omega), rI_eq, kp.rf.wI ⟨Or.inl rfl, rfl⟩⟩ ?_
    rintro k ⟨l3, m1⟩ hk ⟨e1, e2, e3, e4⟩
    simp only at e1 e2 e3 e4
    subst e1
    unfold f_X4_become_B10
    simp (disch := omega) only [pw_if, pw_some, pw_g, pw_let, n32_Lle, lr_r, lr_l, n32_in, n32_cl, n32_al]
    refine ⟨fun hz => ?_, fun hz => ⟨by omega, by omega, by omega, by omega, by omega, by omega, by omega, by trivial, fun p hp hp2 => ?_, ?_, ?_⟩⟩
    · unfold f_X4_become_K10
      rw [pw_some]
      exact ⟨⟨e3, fun p hp => e2 p (by omega) hp⟩, e4⟩
    · by_cases ep : p = k
      · subst ep
        obtain ⟨a1, a2, a3⟩ := h.2 p hp2
        rw [rI_ne (by omega), rI_ne (by omega), rI_eq, rI_ne (by omega), rI_eq, rI_eq, rI_ne (by omega), rI_ne (by omega), rI_ne (by omega), e4.1 31 j p (by omega), e4.1 32 j p (by omega), e4.1 33 j p (by omega), a1, a2, a3, nar_b (hV p hp2)]
        exact ⟨rfl, rfl, rfl⟩
      · rw [rI_ne (by omega), rI_ne (by omega), rI_ne (by omega), rI_ne (by omega), rI_ne (by omega), rI_ne (by omega), rI_ne (by omega), rI_ne (by omega), rI_ne (by omega)]
        exact e2 p (by omega) hp2
    · rw [rI_ne (by omega), rI_ne (by omega), rI_ne (by omega)]; exact e3
    · exact ((e4.wI ⟨by omega, rfl⟩).wI ⟨by omega, rfl⟩).wI ⟨by omega, rfl⟩
/-- sights of both, with their rows -/
theorem pSights.out {m : mi_M} {T : Nat → Nat} {s b : Nat} (h : pSights m T s b) : ∃ n V, n ≤ 8 ∧ (∀ k, k < n → (V k).1 < T 0 ∧ (V k).2.1 ≤ 9 ∧ (V k).2.2 ≤ 1) ∧ cSi m s n V ∧ m.1 64 0 (b + 38) = n32 n ∧ ∀ k, k < n → m.1 64 0 (b + (39 + 3 * k)) = n32 (V k).1 ∧ m.1 64 0 (b + (40 + 3 * k)) = n32 (V k).2.1 ∧ m.1 64 0 (b + (41 + 3 * k)) = n32 (V k).2.2 := by
  obtain ⟨n, h1, h2, h3, h4⟩ := h
  have key : ∀ k, ∃ v : Nat × Nat × Nat, k < n → (v.1 < T 0 ∧ v.2.1 ≤ 9 ∧ v.2.2 ≤ 1) ∧ (m.1 31 s k = n32 v.1 ∧ m.1 32 s k = n32 v.2.1 ∧ m.1 33 s k = n32 v.2.2) ∧ m.1 64 0 (b + (39 + 3 * k)) = n32 v.1 ∧ m.1 64 0 (b + (40 + 3 * k)) = n32 v.2.1 ∧ m.1 64 0 (b + (41 + 3 * k)) = n32 v.2.2 := by
    intro k
    by_cases hk : k < n
    · obtain ⟨l, g, u, a⟩ := h4 k hk
      exact ⟨(l, g, u), fun _ => a⟩
    · exact ⟨(0, 0, 0), fun x => absurd x hk⟩
  refine ⟨n, fun k => (key k).choose, h1, fun k hk => ((key k).choose_spec hk).1, ⟨h2, fun k hk => ((key k).choose_spec hk).2.1⟩, h3, fun k hk => ((key k).choose_spec hk).2.2⟩
theorem pSights.mk {m : mi_M} {T : Nat → Nat} {s b n : Nat} {V : Nat → Nat × Nat × Nat} (h1 : n ≤ 8) (hV : ∀ k, k < n → (V k).1 < T 0 ∧ (V k).2.1 ≤ 9 ∧ (V k).2.2 ≤ 1) (hc : cSi m s n V) (h3 : m.1 64 0 (b + 38) = n32 n) (h4 : ∀ k, k < n → m.1 64 0 (b + (39 + 3 * k)) = n32 (V k).1 ∧ m.1 64 0 (b + (40 + 3 * k)) = n32 (V k).2.1 ∧ m.1 64 0 (b + (41 + 3 * k)) = n32 (V k).2.2) : pSights m T s b :=
  ⟨n, h1, hc.1, h3, fun k hk => ⟨_, _, _, hV k hk, hc.2 k hk, h4 k hk⟩⟩
theorem cSi.mv {m m' : mi_M} {s n : Nat} {V : Nat → Nat × Nat × Nat} {P : Nat → Nat → Nat → Prop} (h : cSi m s n V) (hk : kp P m m') (hp : ∀ k j p, P k j p → (k = 4 ∨ k = 31 ∨ k = 32 ∨ k = 33) → j = s → False) : cSi m' s n V := by
  refine ⟨?_, fun k hh => ?_⟩
  · rw [hk.1 4 s 0 (fun x => hp _ _ _ x (by omega) rfl)]; exact h.1
  · rw [hk.1 31 s k (fun x => hp _ _ _ x (by omega) rfl), hk.1 32 s k (fun x => hp _ _ _ x (by omega) rfl), hk.1 33 s k (fun x => hp _ _ _ x (by omega) rfl)]; exact h.2 k hh
theorem po_mark : ob_mark Rel := by
  rintro a0 a1 mem ⟨T, cd, c, y, hR⟩ ha1
  obtain ⟨h1, h2, h3, h4, h5, h6, ⟨S, hc, hm, hs⟩, h8, h9, ⟨L, l1, l2⟩⟩ := id hR
  have hc2 := h1.1
  obtain ⟨n, V, v1, v2, v3, v4, v5⟩ := h8.out
  by_cases hg : (0 : Int32) ≤ a0 ∧ a0 ≤ 3
  · obtain ⟨g, g1, g2, rfl⟩ := wi_of (lo := 0) (hi := 3) (by omega) (by omega) hg
    have hLg := l2 g (by omega)
    by_cases hb : a1 = 0
    · subst hb
      have cls : wo (f_X11_mark (n32 g) 0 mem) (fun r => r.1 = 1 ∧ cSt r.2 (17 + g) S ∧ cSi r.2 (1 + g) n V ∧ r.2.1 3 0 2 = n32 (bs (fun x => L x || decide (x = g)) 4) ∧ kp (fun k i p => pcS (17 + g) k i ∨ ((k = 4 ∨ k = 31 ∨ k = 32 ∨ k = 33) ∧ i = 1 + g) ∨ (k = 3 ∧ i = 0 ∧ p = 2)) mem r.2) := by
        unfold f_X11_mark f_X3_lay
        rw [pc_within, wi_y hg, pe_bo, if_neg (by decide), if_pos rfl]
        simp (disch := omega) only [pw_bo, pw_g, pw_let, pw_some, n32_in, n32_cl]
        rw [show 0 * 0 + 17 + g = 17 + g by omega, show 0 * 0 + 1 + g = 1 + g by omega]
        refine ⟨by omega, pw_mono (pc_become (i := 17 + g) hc) ?_⟩
        rintro m1 ⟨a1, a2⟩
        refine ⟨by omega, pw_mono (pc_become4 (i := 1 + g) v1 (fun k hk => (v2 k hk).2.2) (v3.mv a2 (fun k j p a b d => by omega))) ?_⟩
        rintro m2 ⟨b1, b2⟩
        have r2 : m2.1 3 0 2 = n32 (bs L 4) := by rw [b2.1 3 0 2 (by omega), a2.1 3 0 2 (by omega)]; exact l1
        rw [r2, bs_set (by omega) (by omega)]
        have kw : kp (fun k i p => k = 3 ∧ i = 0 ∧ p = 2) m2 (mi_wI m2 3 0 2 (n32 (bs (fun x => L x || decide (x = g)) 4))) := kp.rf.wI ⟨rfl, rfl, rfl⟩
        exact ⟨by decide, by trivial, (a1.mv b2 (fun k j p a b d => by omega)).mv kw (fun k j p a b d => by omega), b1.mv kw (fun k j p a b d => by omega), rI_eq, ((a2.mo (fun k i p a => Or.inl a)).tr (b2.mo (fun k i p a => Or.inr (Or.inl a)))).tr (kw.mo (fun k i p a => Or.inr (Or.inr a)))⟩
      obtain ⟨⟨r, m1⟩, e1, x1, x2, x3, x4, x5⟩ := cls
      simp only at x1 x2 x3 x4 x5
      subst x1
      have mdl : wo (f_X12_mark (n32 g) 0 m1) (fun r => r.1 = 1 ∧ r.2.1 65 0 g = 1 ∧ (∀ q, q < 63 → r.2.1 64 0 (63 * (1 + g) + q) = m1.1 64 0 q) ∧ kp (fun k i p => i = 0 ∧ (k = 12 ∧ p = 0 ∨ k = 65 ∧ p = g ∨ k = 64 ∧ 63 * (1 + g) ≤ p ∧ p < 63 * (1 + g) + 63)) m1 r.2 ∧ True) := by
        unfold f_X12_mark f_X12_mark_J29 f_X12_mark_J51 f_X12_mark_J65 f_X12_mark_J83
        rw [pe_let, pm_within, wi_y hg, pe_bo, if_neg (by decide), if_pos rfl]
        simp only [eq_self, if_true]
        simp (disch := omega) only [pw_bo, pw_g, pw_let, pw_some, n32_in, n32_cl, n32_la, n32_lm, show vp_nar .boolean (1 : Int32) = 1 by decide]
        have kw : kp (fun k i p => i = 0 ∧ (k = 12 ∧ p = 0 ∨ k = 65 ∧ p = g ∨ k = 64 ∧ 63 * (1 + g) ≤ p ∧ p < 63 * (1 + g) + 63)) m1 (mi_wI (mi_wI m1 12 0 0 0) 65 0 g 1) := (kp.rf.wI ⟨rfl, Or.inl ⟨rfl, rfl⟩⟩).wI ⟨rfl, Or.inr (Or.inl ⟨rfl, rfl⟩)⟩
        refine ⟨by omega, pw_mono (pm_copies (a := 0) (b := 63 * (1 + g)) (n := 63) (by omega) (by omega) (by omega)) ?_⟩
        rintro m2 ⟨b1, b2⟩
        have kk : kp (fun k i p => i = 0 ∧ (k = 12 ∧ p = 0 ∨ k = 65 ∧ p = g ∨ k = 64 ∧ 63 * (1 + g) ≤ p ∧ p < 63 * (1 + g) + 63)) m1 m2 := kw.tr (b1.mo (fun k i p a => by omega))
        have same : ∀ x : Int32, x = m2.1 12 0 22 → kp (fun k i p => i = 0 ∧ (k = 12 ∧ p = 0 ∨ k = 65 ∧ p = g ∨ k = 64 ∧ 63 * (1 + g) ≤ p ∧ p < 63 * (1 + g) + 63)) m1 (mi_wI m2 12 0 22 x) := by
          rintro x rfl
          refine ⟨fun k i p hn => ?_, kk.2.1, kk.2.2⟩
          rw [rI]
          by_cases ez : k = 12 ∧ i = 0 ∧ p = 22
          · obtain ⟨rfl, rfl, rfl⟩ := ez
            rw [if_pos ⟨rfl, rfl, rfl⟩]
            exact kk.1 _ _ _ hn
          · rw [if_neg ez]
            exact kk.1 _ _ _ hn
        refine ⟨by decide, by trivial, ?_, fun q hq => ?_, same _ rfl, trivial⟩
        · rw [rI_ne (by omega), b1.1 65 0 g (by omega), rI_eq]
        · rw [rI_ne (by omega), b2 q hq, rI_ne (by omega), rI_ne (by omega), Nat.zero_add]
      obtain ⟨⟨r, m2⟩, e2, z1, z2, z3, z4, -⟩ := mdl
      simp only at z1 z2 z3 z4
      subst z1
      have k2 : kp (fun k i p => (pcS (17 + g) k i ∨ ((k = 4 ∨ k = 31 ∨ k = 32 ∨ k = 33) ∧ i = 1 + g) ∨ (k = 3 ∧ i = 0 ∧ p = 2)) ∨ (i = 0 ∧ (k = 12 ∧ p = 0 ∨ k = 65 ∧ p = g ∨ k = 64 ∧ 63 * (1 + g) ≤ p ∧ p < 63 * (1 + g) + 63))) mem m2 := (x5.mo (fun k i p a => Or.inl a)).tr (z4.mo (fun k i p a => Or.inr a))
      refine ⟨_, m1, m2, e1, e2, T, cd, c, y, h1.mv k2 (by omega), h2.mv k2 (fun k i p a b => by unfold cTk at b; omega), h3.mv k2 (fun k i p a b d => by omega), h4.mv k2 (fun k i p a b d => by omega), h5.mv k2 (fun i p a => by omega), h6.mv k2 (fun k i p a b => by omega), ⟨S, hc.mv k2 (fun k i p a b d => by omega), hm.mv k2 (fun p a b d => by omega), hs⟩, h8.mv k2 (fun k i p a b => by omega), h9.mv k2 (fun k i p a b => by omega), ⟨fun x => L x || decide (x = g), ?_, fun k hk => ?_⟩⟩
      · rw [z4.1 3 0 2 (by omega)]; exact x4
      · by_cases ek : k = g
        · subst ek
          refine ⟨by rw [z2]; simp, fun _ => ⟨⟨S, x2.mv z4 (fun k i p a b d => by omega), fun q hq => ?_, hs⟩, pSights.mk v1 v2 (x3.mv z4 (fun k i p a b d => by omega)) ?_ (fun j hj => ⟨?_, ?_, ?_⟩)⟩⟩
          · rw [z3 q (by omega), x5.1 64 0 q (by omega)]
            have := hm q hq
            rwa [Nat.zero_add] at this
          · rw [z3 38 (by omega), x5.1 64 0 38 (by omega)]
            rwa [Nat.zero_add] at v4
          · rw [z3 _ (by omega), x5.1 64 0 _ (by omega)]
            have := (v5 j hj).1
            rwa [Nat.zero_add] at this
          · rw [z3 _ (by omega), x5.1 64 0 _ (by omega)]
            have := (v5 j hj).2.1
            rwa [Nat.zero_add] at this
          · rw [z3 _ (by omega), x5.1 64 0 _ (by omega)]
            have := (v5 j hj).2.2
            rwa [Nat.zero_add] at this
        · obtain ⟨b1, b2⟩ := l2 k hk
          refine ⟨?_, fun hL => ?_⟩
          · rw [k2.1 65 0 k (by omega), b1]
            simp [ek]
          · have hL : L k = true := by simpa [ek] using hL
            obtain ⟨d1, d2⟩ := b2 hL
            exact ⟨d1.mv k2 (fun k i p a b => by omega), d2.mv k2 (fun k i p a b => by omega)⟩
    · by_cases hL : L g = true
      · obtain ⟨⟨Sg, w1, w2, w3⟩, hsg⟩ := hLg.2 hL
        obtain ⟨n', V', v1', v2', v3', v4', v5'⟩ := hsg.out
        have cls : wo (f_X11_mark (n32 g) a1 mem) (fun r => r.1 = 1 ∧ cSt r.2 0 Sg ∧ cSi r.2 0 n' V' ∧ r.2.1 3 0 0 = 0 ∧ kp (fun k i p => pcS 0 k i ∨ ((k = 4 ∨ k = 31 ∨ k = 32 ∨ k = 33) ∧ i = 0) ∨ (k = 3 ∧ i = 0 ∧ p = 0)) mem r.2) := by
          unfold f_X11_mark f_X3_goBack
          rw [pc_within, wi_y hg, pe_bo, if_neg (by decide), if_neg hb, l1, pc_holds (by omega), pe_bo, bs_tb]
          rw [if_pos (show (decide (g < 4) && L g) = true by simp [hL]; omega), if_neg (by decide)]
          simp (disch := omega) only [pw_b, pw_bo, pw_g, pw_let, pw_some, n32_in, n32_cl]
          rw [show 0 * 0 + 17 + g = 17 + g by omega, show 0 * 0 + 1 + g = 1 + g by omega]
          refine ⟨by omega, pw_mono (pc_become (i := 0) w1) ?_⟩
          rintro m1 ⟨a1, a2⟩
          refine ⟨by omega, pw_mono (pc_become4 (i := 0) v1' (fun k hk => (v2' k hk).2.2) (v3'.mv a2 (fun k j p a b d => by omega))) ?_⟩
          rintro m2 ⟨b1, b2⟩
          have kw : kp (fun k i p => k = 3 ∧ i = 0 ∧ p = 0) m2 (mi_wI m2 3 0 0 0) := kp.rf.wI ⟨rfl, rfl, rfl⟩
          exact ⟨by decide, by decide, by trivial, (a1.mv b2 (fun k j p a b d => by omega)).mv kw (fun k j p a b d => by omega), b1.mv kw (fun k j p a b d => by omega), rI_eq, ((a2.mo (fun k i p a => Or.inl a)).tr (b2.mo (fun k i p a => Or.inr (Or.inl a)))).tr (kw.mo (fun k i p a => Or.inr (Or.inr a)))⟩
        obtain ⟨⟨r, m1⟩, e1, x1, x2, x3, x4, x5⟩ := cls
        simp only at x1 x2 x3 x4 x5
        subst x1
        have r65 : m1.1 65 0 g = 1 := by rw [x5.1 65 0 g (by omega), hLg.1, if_pos hL]
        have mdl : wo (f_X12_mark (n32 g) a1 m1) (fun r => r.1 = 1 ∧ r.2.1 65 0 g = 1 ∧ (∀ q, q < 63 → r.2.1 64 0 q = m1.1 64 0 (63 * (1 + g) + q)) ∧ r.2.1 12 0 22 = 0 ∧ kp (fun k i p => i = 0 ∧ (k = 12 ∧ (p = 0 ∨ p = 22) ∨ k = 65 ∧ p = g ∨ k = 64 ∧ p < 63)) m1 r.2) := by
          unfold f_X12_mark f_X12_mark_J29 f_X12_mark_J51 f_X12_mark_J65 f_X12_mark_J83
          rw [pe_let, pm_within, wi_y hg, pe_bo, if_neg (by decide)]
          simp only [hb, if_false]
          simp (disch := omega) only [pw_bo, pw_g, pw_let, pw_some, pw_if, n32_in, n32_cl, n32_la, n32_lm, show vp_nar .boolean (1 : Int32) = 1 by decide, rI_ne, r65]
          have kw : kp (fun k i p => i = 0 ∧ (k = 12 ∧ (p = 0 ∨ p = 22) ∨ k = 65 ∧ p = g ∨ k = 64 ∧ p < 63)) m1 (mi_wI (mi_wI m1 12 0 0 0) 65 0 g 1) := (kp.rf.wI ⟨rfl, Or.inl ⟨rfl, Or.inl rfl⟩⟩).wI ⟨rfl, Or.inr (Or.inl ⟨rfl, rfl⟩)⟩
          refine ⟨by omega, fun x => absurd x (by decide), fun _ => ⟨by omega, pw_mono (pm_copies (a := 63 * (1 + g)) (b := 0) (n := 63) (by omega) (by omega) (by omega)) ?_⟩⟩
          rintro m2 ⟨b1, b2⟩
          have kk : kp (fun k i p => i = 0 ∧ (k = 12 ∧ (p = 0 ∨ p = 22) ∨ k = 65 ∧ p = g ∨ k = 64 ∧ p < 63)) m1 m2 := kw.tr (b1.mo (fun k i p a => by omega))
          refine ⟨by decide, by trivial, ?_, fun q hq => ?_, rI_eq, kk.wI ⟨rfl, Or.inl ⟨rfl, Or.inr rfl⟩⟩⟩
          · rw [b1.1 65 0 g (by omega), rI_eq]
          · have := b2 q hq
            rw [Nat.zero_add] at this
            rw [this, rI_ne (by omega), rI_ne (by omega)]
        obtain ⟨⟨r, m2⟩, e2, z1, z2, z3, z5, z4⟩ := mdl
        simp only at z1 z2 z3 z4 z5
        subst z1
        have k2 : kp (fun k i p => (pcS 0 k i ∨ ((k = 4 ∨ k = 31 ∨ k = 32 ∨ k = 33) ∧ i = 0) ∨ (k = 3 ∧ i = 0 ∧ p = 0)) ∨ (i = 0 ∧ (k = 12 ∧ (p = 0 ∨ p = 22) ∨ k = 65 ∧ p = g ∨ k = 64 ∧ p < 63))) mem m2 := (x5.mo (fun k i p a => Or.inl a)).tr (z4.mo (fun k i p a => Or.inr a))
        obtain ⟨un, nx, u1, u2, u3, u4, u5, u6⟩ := h9
        refine ⟨_, m1, m2, e1, e2, T, cd, c, y, h1.mv k2 (by omega), h2.mv k2 (fun k i p a b => by unfold cTk at b; omega), h3.mv k2 (fun k i p a b d => by omega), h4.mv k2 (fun k i p a b d => by omega), h5.mv k2 (fun i p a => by omega), h6.mv k2 (fun k i p a b => by omega), ⟨Sg, x2.mv z4 (fun k i p a b d => by omega), fun q hq => ?_, w3⟩, pSights.mk v1' v2' (x3.mv z4 (fun k i p a b d => by omega)) ?_ (fun j hj => ⟨?_, ?_, ?_⟩), ⟨0, nx, by omega, u2, ?_, ?_, z5, fun j hj => absurd hj (by omega)⟩, ⟨L, ?_, fun k hk => ?_⟩⟩
        · rw [Nat.zero_add, z3 q (by omega), x5.1 64 0 _ (by omega)]
          exact w2 q hq
        · rw [Nat.zero_add, z3 38 (by omega), x5.1 64 0 _ (by omega)]; exact v4'
        · rw [Nat.zero_add, z3 _ (by omega), x5.1 64 0 _ (by omega)]; exact (v5' j hj).1
        · rw [Nat.zero_add, z3 _ (by omega), x5.1 64 0 _ (by omega)]; exact (v5' j hj).2.1
        · rw [Nat.zero_add, z3 _ (by omega), x5.1 64 0 _ (by omega)]; exact (v5' j hj).2.2
        · rw [z4.1 3 0 0 (by omega)]; exact x4
        · rw [k2.1 3 0 1 (by omega)]; exact u4
        · rw [k2.1 3 0 2 (by omega)]; exact l1
        · obtain ⟨b1, b2⟩ := l2 k hk
          refine ⟨?_, fun hL2 => ⟨(b2 hL2).1.mv k2 (fun k i p a b => by omega), (b2 hL2).2.mv k2 (fun k i p a b => by omega)⟩⟩
          by_cases ek : k = g
          · subst ek
            rw [z2, if_pos hL]
          · rw [k2.1 65 0 k (by omega)]; exact b1
      · have hL : L g = false := by simpa using hL
        refine ob_no (f1 := f_X11_mark (n32 g) a1) (f2 := f_X12_mark (n32 g) a1) (v := 0) hR ?_ ?_
        · unfold f_X11_mark f_X3_goBack
          rw [pc_within, wi_y hg, pe_bo, if_neg (by decide), if_neg hb, l1, pc_holds (by omega), pe_bo, bs_tb, if_neg (show ¬ (decide (g < 4) && L g) = true by simp [hL]), if_pos rfl, pe_g (by decide), pe_b, pe_g (by decide)]
        · unfold f_X12_mark f_X12_mark_J27
          rw [pe_let, pm_within, wi_y hg, pe_bo, if_neg (by decide), if_neg hb, pe_g ((n32_in (by omega)).mpr (by omega)), n32_cl (by omega), rI_ne (by omega), hLg.1, if_neg (show ¬ L g = true by simp [hL]), if_pos rfl, pe_g (by decide)]
  · refine ob_no (f1 := f_X11_mark a0 a1) (f2 := f_X12_mark a0 a1) (v := 0) hR ?_ ?_
    · unfold f_X11_mark
      rw [pc_within, wi_n hg, pe_bo, if_pos rfl, pe_g (by decide)]
    · unfold f_X12_mark f_X12_mark_J27
      rw [pe_let, pm_within, wi_n hg, pe_bo, if_pos rfl, pe_g (by decide)]
