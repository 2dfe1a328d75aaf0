/-! ===== judged, years ===== -/
def begS (T : Nat → Nat) : Nat → Int32 := fun q => if 8 ≤ q ∧ q < 14 ∧ q - 8 < T 0 then n32 (T (10 + 2 * (q - 8))) else if 14 ≤ q ∧ q < 22 ∧ q - 14 < T 2 then n32 (3 * szA T (q - 14)) else 0
theorem begS_z {T : Nat → Nat} {q : Nat} (h : ¬ (8 ≤ q ∧ q < 22)) : begS T q = 0 := by
  unfold begS
  rw [if_neg (by omega), if_neg (by omega)]
theorem begS_c {T : Nat → Nat} {p : Nat} (hp : p < 6) : begS T (8 + p) = if p < T 0 then n32 (T (10 + 2 * p)) else 0 := by
  unfold begS
  by_cases e : p < T 0
  · rw [if_pos (by omega), if_pos e, show 8 + p - 8 = p by omega]
  · rw [if_neg (by omega), if_neg (by omega), if_neg e]
theorem begS_s {T : Nat → Nat} {w : Nat} (hw : w < 8) : begS T (14 + w) = if w < T 2 then n32 (3 * szA T w) else 0 := by
  unfold begS
  by_cases e : w < T 2
  · rw [if_neg (by omega), if_pos (by omega), if_pos e, show 14 + w - 14 = w by omega]
  · rw [if_neg (by omega), if_neg (by omega), if_neg e]
theorem begS_ok {T : Nat → Nat} (hT : tOK T) : sOK T (begS T) := by
  have h60 := hT.1.1
  have h82 := hT.1.2.1
  refine ⟨fun p hp => ⟨0, by omega, by rw [begS_z (by omega)]; rfl⟩, fun p hp hp2 => ⟨begS_z (by omega), by rw [begS_c hp, if_neg (by omega)]⟩, ⟨fun p => if p < T 0 then T (10 + 2 * p) else 0, ?_, fun p hp => ?_⟩, fun w hw => ?_, fun w hw => ⟨Or.inl (begS_z (by omega)), Or.inl (begS_z (by omega))⟩, fun w hw _ => ⟨begS_z (by omega), begS_z (by omega)⟩⟩
  · have key : ∀ p, (if p < T 0 then T (10 + 2 * p) else 0) ≤ 999 := by
      intro p
      split
      · rename_i h
        exact (hT.2.1 p h).2
      · omega
    have k0 := key 0
    have k1 := key 1
    have k2 := key 2
    have k3 := key 3
    have k4 := key 4
    have k5 := key 5
    unfold s6
    dsimp only
    omega
  · rw [begS_c hp]
    dsimp only
    split <;> rfl
  · rw [begS_s hw]
    split
    · rename_i h
      have := (hT.2.2.1 w h).2.2.2.2
      exact ⟨3 * szA T w, by omega, rfl⟩
    · exact ⟨0, by omega, rfl⟩
theorem pc_begin {m : mi_M} {c i : Nat} {T : Nat → Nat} {cd : Nat → List Int32} (h : cT m c T cd) : wo (f_X5_begin i c m) (fun m' => cSt m' i (begS T) ∧ cT m' c T cd ∧ kp (fun k j _ => pcS i k j) m m') := by
  have hT := h.1.2.1
  have h60 := hT.1.1
  have h82 := hT.1.2.1
  unfold f_X5_begin
  simp only [pw_let, pw_bo]
  have k0 : kp (fun k j _ => pcS i k j) m (mi_wI (mi_wI (mi_wI (mi_wI m 5 i 0 0) 5 i 1 0) 5 i 2 0) 5 i 3 0) := (((kp.rf.wI ⟨Or.inl rfl, rfl⟩).wI ⟨Or.inl rfl, rfl⟩).wI ⟨Or.inl rfl, rfl⟩).wI ⟨Or.inl rfl, rfl⟩
  have f0 : ∀ q, q < 4 → (mi_wI (mi_wI (mi_wI (mi_wI m 5 i 0 0) 5 i 1 0) 5 i 2 0) 5 i 3 0).1 5 i q = 0 := by
    intro q hq
    have : q = 0 ∨ q = 1 ∨ q = 2 ∨ q = 3 := by omega
    rcases this with rfl | rfl | rfl | rfl <;> simp (disch := omega) only [rI_ne, rI_eq]
  generalize mi_wI (mi_wI (mi_wI (mi_wI m 5 i 0 0) 5 i 1 0) 5 i 2 0) 5 i 3 0 = m0 at k0 f0 ⊢
  refine pl_for (fun k s => s.1 = n32 k ∧ kp (fun k j _ => pcS i k j) m s.2 ∧ (∀ q, q < 4 → s.2.1 5 i q = 0) ∧ ∀ w, w < k → s.2.1 34 i w = begS T (14 + w)) 8 (by omega) ⟨rfl, k0, f0, fun w hw => absurd hw (by omega)⟩ ?_
  clear k0 f0 m0
  rintro k ⟨l17, m1⟩ hk ⟨e1, e2, e3, e4⟩
  simp only at e1 e2 e3 e4
  subst e1
  have c1 : cT m1 c T cd := h.mv e2 (fun k j p a b => by unfold cTk at b; omega)
  unfold f_X5_begin_B22 f_X5_begin_J53
  simp (disch := omega) only [pw_if, pw_some, pw_g, pw_let, n32_Lle, c1.1.1.1.2.1, n32_le, lr_r, lr_l, n32_in, n32_cl, n32_al]
  refine ⟨fun hz => ?_, fun hz => ⟨fun hy => ⟨by omega, by omega, by trivial, e2.wI ⟨by omega, rfl⟩, fun q hq => ?_, fun w hw => ?_⟩, fun hy => ⟨by omega, by omega, by omega, by trivial, e2.wI ⟨by omega, rfl⟩, fun q hq => ?_, fun w hw => ?_⟩⟩⟩
  · have : k = 8 := by omega
    subst this
    unfold f_X5_begin_K22
    rw [pw_bo]
    refine pl_for (fun k s => s.1 = n32 k ∧ kp (fun k j _ => pcS i k j) m s.2 ∧ (∀ q, q < 4 → s.2.1 5 i q = 0) ∧ (∀ w, w < 8 → s.2.1 34 i w = begS T (14 + w)) ∧ ∀ p, p < k → s.2.1 35 i p = 0 ∧ s.2.1 36 i p = begS T (8 + p)) 6 (by omega) ⟨rfl, e2, e3, e4, fun w hw => absurd hw (by omega)⟩ ?_
    clear e2 e3 e4 c1 m1
    rintro k ⟨l7, m1⟩ hk ⟨e1, e2, e3, e4, e5⟩
    simp only at e1 e2 e3 e4 e5
    subst e1
    have c1 : cT m1 c T cd := h.mv e2 (fun k j p a b => by unfold cTk at b; omega)
    unfold f_X5_begin_B62 f_X5_begin_J98
    simp (disch := omega) only [pw_if, pw_some, pw_g, pw_let, n32_Lle, rI_ne, c1.1.1.1.1, n32_le, lr_r, lr_l, n32_in, n32_cl, n32_al]
    refine ⟨fun hz => ?_, fun hz => ⟨by omega, fun hy => ⟨by omega, by omega, by trivial, (e2.wI ⟨by omega, rfl⟩).wI ⟨by omega, rfl⟩, fun q hq => e3 q hq, fun w hw => e4 w hw, fun p hp => ?_⟩, fun hy => ⟨by omega, by omega, by omega, by trivial, (e2.wI ⟨by omega, rfl⟩).wI ⟨by omega, rfl⟩, fun q hq => e3 q hq, fun w hw => e4 w hw, fun p hp => ?_⟩⟩⟩
    · have : k = 6 := by omega
      subst this
      unfold f_X5_begin_K62
      rw [pw_some]
      refine ⟨⟨⟨?_, ?_, ?_, ?_⟩, fun p hp => ?_, fun p hp => (e5 p hp).2, e4⟩, c1, e2⟩
      · rw [e3 0 (by omega), begS_z (by omega)]
      · rw [e3 1 (by omega), begS_z (by omega)]
      · rw [e3 2 (by omega), bs_ext (n := 0) (m := 8) (by omega) (fun w _ hw => by rw [begS_z (by omega)]; rfl)]
        rfl
      · rw [e3 3 (by omega), bs_ext (n := 0) (m := 8) (by omega) (fun w _ hw => by rw [begS_z (by omega)]; rfl)]
        rfl
      · rw [(e5 p hp).1, begS_z (by omega)]
    · by_cases ep : p = k
      · subst ep
        simp (disch := omega) only [rI_ne, rI_eq]
        exact ⟨by trivial, by rw [begS_c (by omega), if_neg (by omega)]⟩
      · simp (disch := omega) only [rI_ne]
        exact e5 p (by omega)
    · by_cases ep : p = k
      · subst ep
        simp (disch := omega) only [rI_ne, rI_eq]
        exact ⟨by trivial, by rw [begS_c (by omega), if_pos (by omega), (c1.1.1.2.1 p (by omega)).2]⟩
      · simp (disch := omega) only [rI_ne]
        exact e5 p (by omega)
  · rw [rI_ne (by omega)]; exact e3 q hq
  · rw [rI]
    by_cases e : w = k
    · subst e
      rw [if_pos ⟨rfl, rfl, rfl⟩, begS_s (by omega), if_neg (by omega)]
    · rw [if_neg (fun x => e x.2.2)]; exact e4 w (by omega)
  · rw [rI_ne (by omega)]; exact e3 q hq
  · rw [rI]
    by_cases e : w = k
    · subst e
      rw [if_pos ⟨rfl, rfl, rfl⟩, begS_s (by omega), if_pos (by omega), (c1.1.1.2.2.1 w (by omega)).2.2, n32_lm]
    · rw [if_neg (fun x => e x.2.2)]; exact e4 w (by omega)
theorem pm_starts {m : mi_M} {b : Nat} {T : Nat → Nat} (h : mTw m T) (hT : tOK T) (hb : b ≤ 1400) : wo (f_X12_starts (n32 b) m) (fun m' => mSt m' b (begS T) ∧ kp (fun k i p => pmS b k i p) m m') := by
  have h60 := hT.1.1
  have h82 := hT.1.2.1
  unfold f_X12_starts
  rw [pw_bo]
  refine pl_for (fun k s => s.1 = n32 k ∧ kp (fun k i p => pmS b k i p) m s.2 ∧ ∀ q, q < k → s.2.1 64 0 (b + q) = 0) 38 (by omega) ⟨rfl, kp.rf, fun q hq => absurd hq (by omega)⟩ ?_
  rintro k ⟨l18, m1⟩ hk ⟨e1, e2, e3⟩
  simp only at e1 e2 e3
  subst e1
  unfold f_X12_starts_B2
  simp (disch := omega) only [pw_if, pw_some, pw_g, pw_let, n32_Lle, lr_r, lr_l, n32_add, n32_in, n32_cl, n32_al]
  refine ⟨fun hz => ?_, fun hz => ⟨by omega, by omega, by trivial, e2.wI ⟨rfl, rfl, by omega, by omega⟩, fun q hq => ?_⟩⟩
  · have : k = 38 := by omega
    subst this
    unfold f_X12_starts_K2
    rw [pw_bo]
    refine pl_for (fun k s => s.1 = n32 k ∧ kp (fun k i p => pmS b k i p) m s.2 ∧ ∀ q, q < 38 → s.2.1 64 0 (b + q) = if 8 ≤ q ∧ q < 8 + k then begS T q else 0) (T 0) (by omega) ⟨rfl, e2, fun q hq => by rw [if_neg (by omega)]; exact e3 q hq⟩ ?_
    clear e2 e3 m1
    rintro k ⟨l11, m1⟩ hk ⟨e1, e2, e3⟩
    simp only at e1 e2 e3
    subst e1
    have h1 : mTw m1 T := h.mv e2 (fun p _ x => by omega)
    unfold f_X12_starts_B25
    simp (disch := omega) only [pm_people h1, pw_bo, pw_if, pw_some, pw_g, pw_let, n32_le, lr_r, lr_l, n32_lm, n32_la, n32_add, n32_in, n32_cl, n32_al]
    rw [show b + 8 + k = b + (8 + k) by omega, show 9 + 2 * k + 1 = 10 + 2 * k by omega]
    refine ⟨fun hz => ?_, fun hz => ⟨by omega, by omega, by omega, by trivial, e2.wI ⟨rfl, rfl, by omega, by omega⟩, fun q hq => ?_⟩⟩
    · have : k = T 0 := by omega
      subst this
      unfold f_X12_starts_K25
      rw [pw_bo]
      refine pl_for (fun k s => s.1 = n32 k ∧ kp (fun k i p => pmS b k i p) m s.2 ∧ ∀ q, q < 38 → s.2.1 64 0 (b + q) = if (8 ≤ q ∧ q < 8 + T 0) ∨ (14 ≤ q ∧ q < 14 + k) then begS T q else 0) (T 2) (by omega) ⟨rfl, e2, fun q hq => by
        rw [e3 q hq]
        by_cases ez : 8 ≤ q ∧ q < 8 + T 0
        · rw [if_pos ez, if_pos (by omega)]
        · rw [if_neg ez, if_neg (by omega)]⟩ ?_
      clear e2 e3 h1 m1
      rintro k ⟨l4, m1⟩ hk ⟨e1, e2, e3⟩
      simp only at e1 e2 e3
      subst e1
      have h1 : mTw m1 T := h.mv e2 (fun p _ x => by omega)
      unfold f_X12_starts_B65
      simp (disch := omega) only [pm_wrongs h1, pw_bo, pw_if, pw_some, pw_g, pw_let, n32_le, lr_r, lr_l, n32_add, n32_in, n32_cl, n32_al]
      rw [show b + 14 + k = b + (14 + k) by omega]
      refine ⟨fun hz => ?_, fun hz => ?_⟩
      · have : k = T 2 := by omega
        subst this
        unfold f_X12_starts_K65
        rw [pw_some]
        refine ⟨fun q hq => ?_, e2⟩
        rw [e3 q hq]
        by_cases ez : (8 ≤ q ∧ q < 8 + T 0) ∨ (14 ≤ q ∧ q < 14 + T 2)
        · rw [if_pos ez]
        · rw [if_neg ez]
          unfold begS
          rw [if_neg (by omega), if_neg (by omega)]
      · rw [pm_sz h1 (by omega), pw_some]
        refine ⟨by omega, by omega, by trivial, e2.wI ⟨rfl, rfl, by omega, by omega⟩, fun q hq => ?_⟩
        rw [rI]
        by_cases ez : q = 14 + k
        · subst ez
          rw [if_pos ⟨rfl, rfl, rfl⟩, if_pos (by omega), begS_s (by omega), if_pos (by omega), n32_lm]
        · rw [if_neg (by omega), e3 q hq]
          by_cases e4 : (8 ≤ q ∧ q < 8 + T 0) ∨ (14 ≤ q ∧ q < 14 + k)
          · rw [if_pos e4, if_pos (by omega)]
          · rw [if_neg e4, if_neg (by omega)]
    · rw [rI]
      by_cases ez : q = 8 + k
      · subst ez
        rw [if_pos ⟨rfl, rfl, rfl⟩, if_pos (by omega), begS_c (by omega), if_pos (by omega), h1 _ (by omega) (by omega)]
      · rw [if_neg (by omega), e3 q hq]
        by_cases e4 : 8 ≤ q ∧ q < 8 + k
        · rw [if_pos e4, if_pos (by omega)]
        · rw [if_neg e4, if_neg (by omega)]
  · rw [rI]
    by_cases ez : q = k
    · subst ez
      rw [if_pos ⟨rfl, rfl, rfl⟩]
    · rw [if_neg (by omega)]; exact e3 q (by omega)
/-! how many bits -/
def pcN (s : Nat) : Nat := (s.testBit 0).toNat + (s.testBit 1).toNat + (s.testBit 2).toNat + (s.testBit 3).toNat + (s.testBit 4).toNat + (s.testBit 5).toNat + (s.testBit 6).toNat + (s.testBit 7).toNat
def bcI (p0 : Int32) : Int32 := mi_let (p0 - ((((p0).toUInt32 >>> (((1 : Int32) : Int32).toUInt32 &&& Int32.toUInt32 31)).toInt32) &&& (1431655765 : Int32))) fun v1 => mi_let ((v1 &&& (858993459 : Int32)) + ((((v1).toUInt32 >>> (((2 : Int32) : Int32).toUInt32 &&& Int32.toUInt32 31)).toInt32) &&& (858993459 : Int32))) fun v2 => mi_let ((v2 + (((v2).toUInt32 >>> (((4 : Int32) : Int32).toUInt32 &&& Int32.toUInt32 31)).toInt32)) &&& (252645135 : Int32)) fun v3 => mi_let (v3 + (((v3).toUInt32 >>> (((8 : Int32) : Int32).toUInt32 &&& Int32.toUInt32 31)).toInt32)) fun v4 => mi_let (v4 + (((v4).toUInt32 >>> (((16 : Int32) : Int32).toUInt32 &&& Int32.toUInt32 31)).toInt32)) fun v5 => (v5 &&& (63 : Int32))
theorem bcI_n : ∀ s, s < 256 → bcI (n32 s) = n32 (pcN s) := by decide +kernel
theorem pc_bits {s : Nat} {m : mi_M} (hs : s < 256) : f_J6_bitCount_0f7a4 (n32 s) m = some (n32 (pcN s)) := by
  rw [← bcI_n s hs]
  rfl
theorem over_n {S : Nat → Int32} {T : Nat → Nat} (hs : sOK T S) : n32 (pcN (bs (fun w => S (22 + w) == 1) 8)) = sumI (fun w => S (22 + w)) 8 := by
  have key : ∀ w, w < 8 → n32 (((bs (fun w => S (22 + w) == 1) 8).testBit w).toNat) = S (22 + w) := by
    intro w hw
    rw [bs_tb]
    rcases (hs.2.2.2.2.1 w hw).1 with e | e <;> simp [e, hw] <;> rfl
  unfold pcN
  simp only [← n32_add]
  rw [key 0 (by omega), key 1 (by omega), key 2 (by omega), key 3 (by omega), key 4 (by omega), key 5 (by omega), key 6 (by omega), key 7 (by omega)]
  show _ = 0 + S 22 + S 23 + S 24 + S 25 + S 26 + S 27 + S 28 + S 29
  rw [Int32.zero_add]
theorem pm_overMany {m : mi_M} {T : Nat → Nat} {S : Nat → Int32} {b : Nat} (h : mTw m T) (hT : tOK T) (hS : mSt m b S) (hs : sOK T S) (hb : b ≤ 1400) : f_X12_overMany (n32 b) m = some (sumI (fun w => S (22 + w)) 8) := by
  have h82 := hT.1.2.1
  unfold f_X12_overMany
  apply pw_eq
  rw [pw_bo]
  refine pl_for (fun k s => s = (sumI (fun w => S (22 + w)) k, n32 k)) (T 2) (by omega) rfl ?_
  rintro k s hk rfl
  unfold f_X12_overMany_B4
  simp (disch := omega) only [pm_wrongs h, pw_if, pw_some, pw_g, pw_let, pw_bo, n32_le, lr_r, lr_l, n32_add, n32_in, n32_cl, n32_al]
  refine ⟨fun hx => ?_, fun hx => ⟨by omega, by omega, ?_⟩⟩
  · have : k = T 2 := by omega
    subst this
    unfold f_X12_overMany_K4
    rw [pw_some]
    exact (sumI_ext h82 (fun w a b => (hs.2.2.2.2.2 w b a).1)).symm
  · rw [show b + 22 + k = b + (22 + k) by omega, hS _ (by omega)]
    rfl
/-! a deed -/
def ddB (T : Nat → Nat) (S : Nat → Int32) (d w g : Nat) : Bool := if d = 0 then decide (S (22 + w) = 0 ∧ S (30 + w) = 0) else if d = 1 then decide (S (22 + w) = 0 ∧ n32 g ≤ S (8 + byA T w)) else if d = 2 then decide (S (22 + w) = 0) else true
def ddA (T : Nat → Nat) (cd : Nat → List Int32) (S : Nat → Int32) (d w g : Nat) : Nat → Int32 := if d = 0 then aSay T cd S w else if d = 1 then aGive T S w (n32 g) else if d = 2 then aAsk T cd S w 0 else aSleep T cd S
theorem ddA_ok {T : Nat → Nat} {cd : Nat → List Int32} {S : Nat → Int32} {d w g : Nat} (hT : tOK T) (hs : sOK T S) (hw : d < 3 → w < T 2) (hg : g ≤ 99) (hb : ddB T S d w g = true) : sOK T (ddA T cd S d w g) := by
  unfold ddA
  unfold ddB at hb
  by_cases d0 : d = 0
  · rw [if_pos d0]; exact aSay_ok hT hs (hw (by omega))
  · rw [if_neg d0] at hb ⊢
    by_cases d1 : d = 1
    · rw [if_pos d1] at hb ⊢
      exact aGive_ok hT hs (hw (by omega)) hg (of_decide_eq_true hb).2
    · rw [if_neg d1]
      by_cases d2 : d = 2
      · rw [if_pos d2]; exact aAsk_ok hT hs (hw (by omega))
      · rw [if_neg d2]; exact aSleep_ok hT hs
theorem pc_ddB {m : mi_M} {i c d w g : Nat} {S : Nat → Int32} {T : Nat → Nat} (h : cTw m c T) (hT : tOK T) (hS : cSt m i S) (hs : sOK T S) (hd : d ≤ 3) (hw : d < 3 → w < T 2) : f_X5_may i c (n32 d) (n32 w) (n32 g) m = some (if ddB T S d w g then 1 else 0) := by
  have h82 := hT.1.2.1
  have : d = 0 ∨ d = 1 ∨ d = 2 ∨ d = 3 := by omega
  rcases this with rfl | rfl | rfl | rfl
  · have hw := hw (by omega)
    rw [show f_X5_may i c (n32 0) (n32 w) (n32 g) m = _ from pc_may0 hS hs (show w < 8 by omega), show ddB T S 0 w g = decide (S (22 + w) = 0 ∧ S (30 + w) = 0) from rfl]
    by_cases e : S (22 + w) = 0 ∧ S (30 + w) = 0
    · rw [if_pos e, if_pos (decide_eq_true e)]
    · rw [if_neg e, if_neg (by simpa using e)]
  · have hw := hw (by omega)
    rw [show f_X5_may i c (n32 1) (n32 w) (n32 g) m = _ from pc_may1 h hT hS hs hw, show ddB T S 1 w g = decide (S (22 + w) = 0 ∧ n32 g ≤ S (8 + byA T w)) from rfl]
    by_cases e : S (22 + w) = 0 ∧ n32 g ≤ S (8 + byA T w)
    · rw [if_pos e, if_pos (decide_eq_true e)]
    · rw [if_neg e, if_neg (by simpa using e)]
  · have hw := hw (by omega)
    rw [show f_X5_may i c (n32 2) (n32 w) (n32 g) m = _ from pc_may2 hS hs (show w < 8 by omega), show ddB T S 2 w g = decide (S (22 + w) = 0) from rfl]
    by_cases e : S (22 + w) = 0
    · rw [if_pos e, if_pos (decide_eq_true e)]
    · rw [if_neg e, if_neg (by simpa using e)]
  · rw [show f_X5_may i c (n32 3) (n32 w) (n32 g) m = _ from pc_may3]
    rfl
theorem pc_ddA {c i d w g : Nat} {m : mi_M} {T : Nat → Nat} {cd : Nat → List Int32} {S : Nat → Int32} (h : cT m c T cd) (hS : cSt m i S) (hs : sOK T S) (hd : d ≤ 3) (hw : d < 3 → w < T 2) (hg : g ≤ 99) (hb : ddB T S d w g = true) : wo (f_X5_act i c (n32 d) (n32 w) (n32 g) m) (fun m' => cSt m' i (ddA T cd S d w g) ∧ cT m' c T cd ∧ kp (fun k j _ => pcE c k j ∨ pcS i k j) m m') := by
  have : d = 0 ∨ d = 1 ∨ d = 2 ∨ d = 3 := by omega
  rcases this with rfl | rfl | rfl | rfl
  · exact pc_act0 h hS hs (hw (by omega))
  · exact pc_act1 h hS hs (hw (by omega)) hg
  · exact pc_act2 h hS hs (hw (by omega)) (of_decide_eq_true hb)
  · exact pc_act3 h hS hs
theorem pm_does {d w g : Nat} {m : mi_M} {T : Nat → Nat} {cd : Nat → List Int32} {S : Nat → Int32} (h : mT m T cd) (hS : mSt m 1323 S) (hs : sOK T S) (hd : d ≤ 3) (hw : d < 3 → w < T 2) (h24 : m.1 12 0 24 = 0) : wo (f_X12_does (n32 d) (n32 w) (n32 g) m) (fun r => r.1 = (if ddB T S d w g then 1 else 0) ∧ mSt r.2 1323 (if ddB T S d w g then ddA T cd S d w g else S) ∧ kp (fun k i p => pmE k i ∨ pmS 1323 k i p) m r.2) := by
  have hT := h.1.2.1
  have no : ∀ x : Int32, x = 0 → ddB T S d w g = false → wo (f_X12_does_J53 (n32 d) (n32 w) (n32 g) m x) (fun r => r.1 = (if ddB T S d w g then 1 else 0) ∧ mSt r.2 1323 (if ddB T S d w g then ddA T cd S d w g else S) ∧ kp (fun k i p => pmE k i ∨ pmS 1323 k i p) m r.2) := by
    rintro x rfl hb
    unfold f_X12_does_J53 f_X12_does_J76 f_X12_does_J99 f_X12_does_J121 f_X12_does_J134
    rw [if_pos rfl, if_pos rfl, if_pos rfl, if_pos rfl, pw_g, pw_some, hb]
    exact ⟨by decide, rfl, hS, kp.rf⟩
  have : d = 0 ∨ d = 1 ∨ d = 2 ∨ d = 3 := by omega
  rcases this with rfl | rfl | rfl | rfl
  · have hw := hw (by omega)
    unfold f_X12_does
    rw [if_pos (show n32 0 = 0 from rfl), show f_X12_maySay 1323 (n32 w) m = _ from pm_maySay (b := 1323) h.1.1 hT hS (by omega) hw, pe_bo]
    by_cases e : S (22 + w) = 0 ∧ S (30 + w) = 0
    · have hb : ddB T S 0 w g = true := decide_eq_true e
      rw [if_pos e, hb]
      unfold f_X12_does_J53 f_X12_does_J134
      rw [if_neg (by decide), if_pos (show n32 0 = 0 from rfl)]
      simp only [pw_b, pw_g, pw_some]
      refine pw_mono (pm_says (b := 1323) h hS (by omega) hw) ?_
      rintro ⟨v, m1⟩ ⟨b1, b2, b3⟩
      exact ⟨by decide, rfl, b2, b3⟩
    · rw [if_neg e]
      exact no 0 rfl (decide_eq_false e)
  · have hw := hw (by omega)
    unfold f_X12_does
    rw [if_neg (show ¬ n32 1 = 0 by decide), if_pos (show n32 1 = 1 from rfl), show f_X12_mayGive 1323 (n32 w) (n32 g) m = _ from pm_mayGive (b := 1323) h.1.1 hT hS (by omega) hw, pe_bo]
    by_cases e : S (22 + w) = 0 ∧ n32 g ≤ S (8 + byA T w)
    · have hb : ddB T S 1 w g = true := decide_eq_true e
      rw [if_pos e, hb]
      unfold f_X12_does_J53 f_X12_does_J76 f_X12_does_J134
      rw [if_neg (by decide), if_neg (show ¬ n32 1 = 0 by decide), if_neg (by decide), if_pos (show n32 1 = 1 from rfl)]
      simp only [pw_b, pw_g, pw_some]
      refine pw_mono (pm_gives (b := 1323) h hS (by omega) hw) ?_
      rintro ⟨v, m1⟩ ⟨b1, b2, b3⟩
      exact ⟨by decide, rfl, b2, b3⟩
    · rw [if_neg e]
      exact no 0 rfl (decide_eq_false e)
  · have hw := hw (by omega)
    unfold f_X12_does
    rw [if_neg (show ¬ n32 2 = 0 by decide), if_neg (show ¬ n32 2 = 1 by decide), if_neg (show ¬ n32 2 = 3 by decide), show f_X12_isOpen 1323 (n32 w) m = _ from pm_isOpen (b := 1323) h.1.1 hT hS (by omega) hw, pe_bo]
    by_cases e : S (22 + w) = 0
    · have hb : ddB T S 2 w g = true := decide_eq_true e
      rw [if_pos e, if_neg (by decide), hb]
      unfold f_X12_does_J48 f_X12_does_J53 f_X12_does_J76 f_X12_does_J99 f_X12_does_J134
      rw [if_neg (by decide), if_neg (show ¬ n32 2 = 0 by decide), if_neg (by decide), if_neg (show ¬ n32 2 = 1 by decide), if_neg (by decide), if_pos (show n32 2 = 2 from rfl)]
      simp only [pw_b, pw_g, pw_some]
      refine pw_mono (pm_asks (b := 1323) h hS (by omega) hw e) ?_
      rintro ⟨v, m1⟩ ⟨b1, b2, b3⟩
      rw [h24] at b2
      exact ⟨by decide, rfl, b2, b3⟩
    · rw [if_neg e, if_pos rfl]
      exact no 0 rfl (decide_eq_false e)
  · unfold f_X12_does
    rw [if_neg (show ¬ n32 3 = 0 by decide), if_neg (show ¬ n32 3 = 1 by decide), if_pos (show n32 3 = 3 from rfl)]
    unfold f_X12_does_J48 f_X12_does_J53 f_X12_does_J76 f_X12_does_J99 f_X12_does_J121 f_X12_does_J134
    rw [if_neg (by decide), if_neg (show ¬ n32 3 = 0 by decide), if_neg (by decide), if_neg (show ¬ n32 3 = 1 by decide), if_neg (by decide), if_neg (show ¬ n32 3 = 2 by decide), if_neg (by decide)]
    simp only [pw_b, pw_g, pw_some]
    refine pw_mono (pm_passes (b := 1323) h hS hs (by omega)) ?_
    rintro ⟨v, m1⟩ ⟨b1, b2, b3⟩
    exact ⟨by decide, rfl, b2, b3⟩
