/-! ===== the first memory; and how the reference starts anew ===== -/
def t0A (q : Nat) : Nat := if q = 4 then 3 else 0
def alw (m : mi_M) (a : Nat) : Prop := ∀ q, q < 100 → m.1 56 0 (a + q) = if q = 4 then 3 else if 6 ≤ q ∧ q < 9 then -1 else 0
theorem pm_always {m : mi_M} {a : Nat} (ha : a ≤ 100) : wo (f_X12_standsAsAlways (n32 a) m) (fun m' => alw m' a ∧ kp (fun k i p => k = 56 ∧ i = 0 ∧ a ≤ p ∧ p < a + 100) m m') := by
  unfold f_X12_standsAsAlways
  rw [pw_bo]
  refine pl_for (fun k z => z.1 = n32 k ∧ kp (fun k i p => k = 56 ∧ i = 0 ∧ a ≤ p ∧ p < a + 100) m z.2 ∧ ∀ q, q < k → z.2.1 56 0 (a + q) = 0) 100 (by omega) ⟨rfl, kp.rf, fun q hq => absurd hq (by omega)⟩ ?_
  rintro k ⟨l, m1⟩ hk ⟨b1, b2, b3⟩
  simp only at b1 b2 b3
  subst b1
  unfold f_X12_standsAsAlways_B2
  simp (disch := omega) only [pw_if, pw_some, n32_Lle, lr_r, lr_l, pw_g, pw_let, n32_add, n32_in, n32_cl, n32_al]
  refine ⟨fun hx => ?_, fun hx => ⟨by omega, by omega, by trivial, b2.wI ⟨rfl, rfl, by omega, by omega⟩, fun q hq => ?_⟩⟩
  · have : k = 100 := by omega
    subst this
    unfold f_X12_standsAsAlways_K2
    simp (disch := omega) only [n32_al, pw_g, pw_let, n32_in, n32_cl, pw_bo]
    refine ⟨by omega, ?_⟩
    refine pl_for (fun k z => z.1 = n32 k ∧ kp (fun k i p => k = 56 ∧ i = 0 ∧ a ≤ p ∧ p < a + 100) m z.2 ∧ ∀ q, q < 100 → z.2.1 56 0 (a + q) = if q = 4 then 3 else if 6 ≤ q ∧ q < 6 + k then -1 else 0) 3 (by omega) ⟨rfl, b2.wI ⟨rfl, rfl, by omega, by omega⟩, fun q hq => ?_⟩ ?_
    · by_cases e : q = 4
      · subst e; rw [rI_eq, if_pos rfl]
      · rw [rI_ne (by omega), if_neg e, if_neg (by omega)]; exact b3 q hq
    · rintro j ⟨l, m2⟩ hj ⟨c1, c2, c3⟩
      simp only at c1 c2 c3
      subst c1
      unfold f_X12_standsAsAlways_B34
      simp (disch := omega) only [pw_if, pw_some, n32_Lle, lr_r, lr_l, pw_g, pw_let, n32_add, n32_in, n32_cl, n32_al]
      refine ⟨fun hx => ?_, fun hx => ⟨by omega, by omega, by trivial, c2.wI ⟨rfl, rfl, by omega, by omega⟩, fun q hq => ?_⟩⟩
      · have : j = 3 := by omega
        subst this
        unfold f_X12_standsAsAlways_K34
        rw [pw_some]
        exact ⟨c3, c2⟩
      · by_cases e : q = 6 + j
        · subst e
          rw [show a + 6 + j = a + (6 + j) by omega, rI_eq, if_neg (by omega), if_pos (by omega)]
        · rw [rI_ne (by omega), c3 q hq]
          by_cases e4 : q = 4
          · rw [if_pos e4, if_pos e4]
          · rw [if_neg e4, if_neg e4]
            by_cases e5 : 6 ≤ q ∧ q < 6 + j
            · rw [if_pos e5, if_pos (by omega)]
            · rw [if_neg e5, if_neg (by omega)]
  · by_cases e : q = k
    · subst e; rw [rI_eq]
    · rw [rI_ne (by omega)]; exact b3 q (by omega)
abbrev kBg (k i p : Nat) : Prop := i = 0 ∧ (k = 12 ∧ (p = 24 ∨ p = 22) ∨ k = 64 ∧ p < 39 ∨ k = 61 ∧ p = 0 ∨ k = 65)
theorem pm_begins {m : mi_M} {T : Nat → Nat} (h : mTw m T) (hT : tOK T) : wo (f_X12_begins m) (fun m' => mSt m' 0 (begS T) ∧ m'.1 12 0 24 = 0 ∧ m'.1 64 0 38 = 0 ∧ m'.1 61 0 0 = 0 ∧ m'.1 12 0 22 = 0 ∧ (∀ k, k < 4 → m'.1 65 0 k = 0) ∧ kp (fun k i p => kBg k i p) m m') := by
  unfold f_X12_begins
  have kw : kp (fun k i p => kBg k i p) m (mi_wI m 12 0 24 0) := kp.rf.wI ⟨rfl, by omega⟩
  have w0 : (mi_wI m 12 0 24 0).1 12 0 24 = 0 := rI_eq
  rw [pw_let]
  generalize mi_wI m 12 0 24 0 = m1 at kw w0
  rw [pw_bo]
  refine pw_mono (show wo (f_X12_starts 0 m1) _ from pm_starts (b := 0) (h.mv kw (fun p _ x => by omega)) hT (by omega)) ?_
  rintro m2 ⟨s2, k2⟩
  have w2 : m2.1 12 0 24 = 0 := by rw [k2.1 12 0 24 (by omega)]; exact w0
  have kk2 : kp (fun k i p => kBg k i p) m m2 := kw.tr (k2.mo (fun k i p a => by omega))
  rw [pw_g, pw_let, pw_g, pw_let, pw_let, pw_bo, show (38 : Int32).toNatClampNeg = 38 from rfl, show (0 : Int32).toNatClampNeg = 0 from rfl]
  refine ⟨(n32_in (k := 38) (by decide)).mpr (by decide), (n32_in (k := 0) (by decide)).mpr (by decide), ?_⟩
  refine pl_for (fun k z => z.1 = n32 k ∧ kp (fun k i p => k = 65 ∧ i = 0) (mi_wI (mi_wI (mi_wI m2 64 0 38 0) 61 0 0 0) 12 0 22 0) z.2 ∧ ∀ q, q < k → z.2.1 65 0 q = 0) 4 (by omega) ⟨rfl, kp.rf, fun q hq => absurd hq (by omega)⟩ ?_
  rintro k ⟨l, m3⟩ hk ⟨b1, b2, b3⟩
  simp only at b1 b2 b3
  subst b1
  unfold f_X12_begins_B32
  simp (disch := omega) only [pw_if, pw_some, n32_Lle, lr_r, lr_l, pw_g, pw_let, n32_in, n32_cl, n32_al]
  refine ⟨fun hx => ?_, fun hx => ⟨by omega, by omega, by trivial, b2.wI ⟨rfl, rfl⟩, fun q hq => ?_⟩⟩
  · unfold f_X12_begins_K32
    rw [pw_some]
    have k3' : kp (fun k i p => i = 0 ∧ (k = 64 ∧ p = 38 ∨ k = 61 ∧ p = 0 ∨ k = 12 ∧ p = 22)) m2 (mi_wI (mi_wI (mi_wI m2 64 0 38 0) 61 0 0 0) 12 0 22 0) := ((kp.rf.wI ⟨rfl, by omega⟩).wI ⟨rfl, by omega⟩).wI ⟨rfl, by omega⟩
    refine ⟨(s2.mv k3' (fun p a x y => by omega)).mv b2 (fun p a x y => by omega), ?_, ?_, ?_, ?_, fun k hk => b3 k (by omega), (kk2.tr (k3'.mo (fun k i p a => by omega))).tr (b2.mo (fun k i p a => by omega))⟩
    · rw [b2.1 12 0 24 (by omega), k3'.1 12 0 24 (by omega)]; exact w2
    · rw [b2.1 64 0 38 (by omega), rI_ne (by omega), rI_ne (by omega), rI_eq]
    · rw [b2.1 61 0 0 (by omega), rI_ne (by omega), rI_eq]
    · rw [b2.1 12 0 22 (by omega), rI_eq]
  · by_cases e : q = k
    · subst e; rw [rI_eq]; rfl
    · rw [rI_ne (by omega)]; exact b3 q (by omega)
theorem t0_ok : tOK t0A := by
  refine ⟨⟨by decide, by decide, by decide, by decide, by decide⟩, fun p hp => absurd hp (Nat.not_lt_zero _), fun w hw => absurd hw (Nat.not_lt_zero _), fun k hk => absurd hk (Nat.not_lt_zero _), fun i j hi hj => ?_⟩
  have : t0A (21 + 6 * i + j) = 0 := if_neg (by omega)
  rw [this]
  exact ⟨by omega, fun _ => rfl⟩
theorem df_ok : cdOK dfA := by
  intro l hl
  have : l = 0 ∨ l = 1 ∨ l = 2 := by omega
  rcases this with rfl | rfl | rfl
  · show okc 40 [2] 0 1
    simp [okc, stp]
    exact ⟨2, by omega, rfl⟩
  · show okc 40 [1] 0 1
    simp [okc, stp]
    exact ⟨1, by omega, rfl⟩
  · show okc 40 [-1] 0 1
    simp [okc, stp]
theorem wds_t : ∀ w, w < 26 → mi_wds w = tabW.getD w 0 := by decide +kernel
theorem pu_init : ∃ m2 m3, f_X12_standsAsAlways 0 mi_m1 = some m2 ∧ f_X12_begins m2 = some m3 ∧ Rel m3 := by
  obtain ⟨m2, e2, a2, k2⟩ := pm_always (m := mi_m1) (a := 0) (by omega)
  have tw : mTw m2 t0A := by
    intro q hq h2
    have := a2 q hq
    rw [Nat.zero_add] at this
    rw [this]
    unfold t0A
    by_cases e : q = 4
    · rw [if_pos e, if_pos e]; rfl
    · rw [if_neg e, if_neg e, if_neg (by omega)]; rfl
  obtain ⟨m3, e3, s3, c24, c38, c61, c22, c65, k3'⟩ := pm_begins tw t0_ok
  have kk : kp (fun k i p => (k = 56 ∧ i = 0 ∧ p < 100) ∨ kBg k i p) mi_m1 m3 := (k2.mo (fun k i p a => Or.inl ⟨a.1, a.2.1, by omega⟩)).tr (k3'.mo (fun k i p a => Or.inr a))
  have z : ∀ k i p, ¬ ((k = 56 ∧ i = 0 ∧ p < 100) ∨ kBg k i p) → m3.1 k i p = 0 := fun k i p hn => by rw [kk.1 k i p hn]; rfl
  have tz : ∀ q, q ≠ 4 → t0A q = 0 := fun q hq => if_neg hq
  have bz : ∀ q, begS t0A q = 0 := by
    intro q
    unfold begS
    rw [if_neg (by rw [tz 0 (by omega)]; omega), if_neg (by rw [tz 2 (by omega)]; omega)]
  refine ⟨m2, m3, e2, e3, t0A, dfA, 0, 0, ⟨by omega, by omega, ?_, ?_, ?_, ?_, c24⟩, ⟨⟨⟨⟨?_, ?_, ?_, ?_, ?_, ?_⟩, ?_, ?_, ?_⟩, t0_ok, df_ok⟩, ⟨?_, ?_⟩, ?_⟩, ⟨⟨tw.mv k3' (fun p hp x => by omega), t0_ok, df_ok⟩, ?_⟩, ?_, ?_, ?_, ?_, ?_, ?_, ?_⟩
  · rw [kk.2.2]; rfl
  · rw [kk.2.2]; rfl
  · rw [kk.2.2]; rfl
  · rw [kk.2.2]; rfl
  · exact z 8 0 0 (by omega)
  · exact z 8 0 1 (by omega)
  · intro h; exact absurd h (by decide)
  · exact z 8 0 3 (by omega)
  · exact z 9 0 0 (by omega)
  · exact z 9 0 1 (by omega)
  · exact fun p hp => absurd hp (Nat.not_lt_zero _)
  · exact fun p hp => absurd hp (Nat.not_lt_zero _)
  · exact fun p hp => absurd hp (Nat.not_lt_zero _)
  · intro i j hi hj
    rw [z 76 _ j (by omega), tz _ (by omega)]
    rfl
  · intro b hb hk
    rw [kk.2.1 9 0 6 (by omega)] at hk
    have : mi_m1.2.1 9 0 6 = 0 := rfl
    rw [this] at hk
    unfold kb at hk
    have : (0 : Int64).toBitVec = 0#64 := rfl
    rw [this, BitVec.getLsbD_zero] at hk
    cases hk
  · intro l hl h; exact absurd h (by decide)
  · intro l hl
    refine Or.inl ⟨?_, rfl⟩
    rw [k3'.1 56 0 (6 + l) (by omega)]
    have := a2 (6 + l) (by omega)
    rw [Nat.zero_add, if_neg (by omega), if_pos (by omega)] at this
    exact this
  · exact ⟨0, by omega, z 6 0 0 (by omega), z 12 0 2 (by omega), fun i hi => absurd hi (by omega)⟩
  · intro w hw
    rw [kk.2.1 55 0 w (by omega)]
    exact wds_t w hw
  · exact ⟨0, by omega, z 10 0 0 (by omega), c61, fun i hi => absurd hi (by omega)⟩
  · refine ⟨begS t0A, ⟨⟨?_, ?_, ?_, ?_⟩, fun p hp => ?_, fun p hp => ?_, fun w hw => ?_⟩, s3, begS_ok t0_ok⟩
    · rw [bz]; exact z 5 0 0 (by omega)
    · rw [bz]; exact z 5 0 1 (by omega)
    · rw [z 5 0 2 (by omega)]; simp only [bz]; decide
    · rw [z 5 0 3 (by omega)]; simp only [bz]; decide
    · rw [bz]; exact z 35 0 p (by omega)
    · rw [bz]; exact z 36 0 p (by omega)
    · rw [bz]; exact z 34 0 w (by omega)
  · exact ⟨0, by omega, z 4 0 0 (by omega), c38, fun i hi => absurd hi (by omega)⟩
  · exact ⟨0, 0, by omega, by omega, z 3 0 0 (by omega), z 3 0 1 (by omega), c22, fun i hi => absurd hi (by omega)⟩
  · refine ⟨fun _ => false, ?_, fun k hk => ⟨c65 k hk, fun h => by cases h⟩⟩
    rw [z 3 0 2 (by omega)]; decide
