/-! ===== ways: the town's costs, and those that the reference lays ===== -/
theorem n32_dl {a b : Nat} (ha : a < 2147483648) (hb : OfNat.ofNat b < 2147483648) (h0 : 0 < OfNat.ofNat b) : n32 a / (no_index (OfNat.ofNat b) : Int32) = n32 (a / OfNat.ofNat b) := by
  apply Int32.toInt_inj.mp
  show (n32 a / n32 (OfNat.ofNat b)).toInt = _
  have h1 : a / OfNat.ofNat b ≤ a := Nat.div_le_self _ _
  rw [n32_int (by omega), Int32.toInt_div, n32_int ha, n32_int hb]
  rw [show (a : Int).tdiv ((OfNat.ofNat b : Nat) : Int) = ((a / OfNat.ofNat b : Nat) : Int) from by rw [Int.ofNat_tdiv]]
  generalize a / OfNat.ofNat b = q at h1 ⊢
  rw [Int.bmod_eq_of_le] <;> omega
def lanW (T : Nat → Nat) (b i j : Nat) : Nat := if T (21 + 6 * i + j) = 0 then XX else if (b.testBit i || b.testBit j) = true then T (21 + 6 * i + j) else T (21 + 6 * i + j) * 1025
def lanOK (T : Nat → Nat) : Prop := ∀ i j, i < 6 → j < 6 → T (21 + 6 * i + j) ≤ 30 ∧ (T 0 ≤ i ∨ T 0 ≤ j → T (21 + 6 * i + j) = 0)
/-- lanes of doors that are none are far -/
def lanQ (T : Nat → Nat) (b i j : Nat) : Nat := if i < 6 ∧ j < 6 then lanW T b i j else XX
theorem lanQ_ok {T : Nat → Nat} (h : lanOK T) (b : Nat) : flW 1 (lanQ T b) := by
  intro i j
  unfold lanQ
  by_cases hij : i < 6 ∧ j < 6
  · rw [if_pos hij]
    have := (h i j hij.1 hij.2).1
    unfold lanW
    by_cases h0 : T (21 + 6 * i + j) = 0
    · rw [if_pos h0]; exact ⟨Nat.le_refl _, fun x => absurd x (Nat.lt_irrefl _)⟩
    · rw [if_neg h0]
      split
      · exact ⟨by show _ ≤ 1048576; omega, fun _ => ⟨0, _, by omega, by omega, this⟩⟩
      · exact ⟨by show _ ≤ 1048576; omega, fun _ => ⟨T (21 + 6 * i + j), T (21 + 6 * i + j), by omega, by omega, this⟩⟩
  · rw [if_neg hij]; exact ⟨Nat.le_refl _, fun x => absurd x (Nat.lt_irrefl _)⟩
/-- the cost of the least dark way -/
def cst (T : Nat → Nat) (b i j : Nat) : Nat := fl (lanQ T b) 6 i j
theorem lit_b : ∀ b, b < 64 → ∀ i, i < 6 → ∀ j, j < 6 → ((n32 b &&& (((1 : Int32) <<< (n32 i &&& 31)) ||| ((1 : Int32) <<< (n32 j &&& 31)))) = 0 ↔ (b.testBit i || b.testBit j) = false) := by decide +kernel
def cLan (m : mi_M) (c : Nat) (T : Nat → Nat) : Prop := ∀ i j, i < 6 → j < 6 → m.1 76 (6 * c + i) j = n32 (T (21 + 6 * i + j))
theorem pc_laneCost {c b i j : Nat} {m : mi_M} {T : Nat → Nat} (hT : lanOK T) (hb : b < 64) (hi : i < 6) (hj : j < 6) (h : cLan m c T) : f_X9_laneCost c (n32 b) (n32 i) (n32 j) m = some (n32 (lanQ T b i j)) := by
  have h30 := (hT i j hi hj).1
  have hq : lanQ T b i j = lanW T b i j := if_pos ⟨hi, hj⟩
  rw [hq]
  unfold f_X9_laneCost f_X9_laneCost_J35 f_X9_laneCost_J53
  rw [pe_g ((n32_in (by omega)).mpr hi), pe_g ((n32_in (by omega)).mpr hj), pe_let, n32_cl (by omega), n32_cl (by omega), Nat.add_zero, h i j hi hj]
  simp only [lit_b b hb i hi j hj]
  unfold lanW
  by_cases h0 : T (21 + 6 * i + j) = 0
  · rw [h0]; rfl
  · rw [if_neg (show ¬ n32 (T (21 + 6 * i + j)) = 0 by rw [show (0 : Int32) = n32 0 from rfl, n32_eq (by omega) (by omega)]; exact h0), if_neg h0]
    by_cases hl : (b.testBit i || b.testBit j) = true
    · simp [hl]
    · have hl : (b.testBit i || b.testBit j) = false := by simpa using hl
      simp only [hl]
      simp [n32_ml]
def kb (x : Int64) (b : Nat) : Bool := x.toBitVec.getLsbD b
theorem kb_sh : ∀ b, b < 64 → ((n32 b).toInt64.toUInt64 &&& Int64.toUInt64 63).toBitVec.toNat % 64 = b ∧ (((n32 b).toInt64 &&& 63).toBitVec.smod 64).toNat = b := by decide +kernel
theorem lg_cmp0 (x y : Int64) : lg_cmp x y = 0 ↔ x = y := by
  unfold lg_cmp
  by_cases h1 : x > y
  · rw [if_pos h1]
    constructor
    · intro h; exact absurd h (by decide)
    · intro h; subst h; exact absurd h1 (Int64.lt_irrefl)
  · rw [if_neg h1]
    by_cases h2 : x = y
    · simp [h2]
    · simp only [if_neg h2]
      constructor
      · intro h; exact absurd h (by decide)
      · intro h; exact absurd h h2
theorem kb_1 (x : Int64) : x &&& 1 = if x.toBitVec.getLsbD 0 then 1 else 0 := by
  apply Int64.toBitVec_inj.mp
  have h : (x &&& 1).toBitVec = x.toBitVec &&& 1#64 := rfl
  rw [h, BitVec.and_one_eq_setWidth_ofBool_getLsbD]
  cases x.toBitVec.getLsbD 0 <;> rfl
theorem kb_0 {x : Int64} {b : Nat} (hb : b < 64) : (lg_cmp ((x.toUInt64 >>> ((n32 b).toInt64.toUInt64 &&& Int64.toUInt64 63)).toInt64 &&& (1 : Int64)) (0 : Int64)) = 0 ↔ kb x b = false := by
  rw [lg_cmp0, kb_1]
  have h : (x.toUInt64 >>> ((n32 b).toInt64.toUInt64 &&& Int64.toUInt64 63)).toInt64.toBitVec.getLsbD 0 = kb x b := by
    show (x.toUInt64 >>> ((n32 b).toInt64.toUInt64 &&& Int64.toUInt64 63)).toBitVec.getLsbD 0 = _
    rw [UInt64.toBitVec_shiftRight]
    have e := (kb_sh b hb).1
    generalize ((n32 b).toInt64.toUInt64 &&& Int64.toUInt64 63) = z at e ⊢
    show (x.toBitVec >>> (z.toBitVec % 64#64)).getLsbD 0 = _
    rw [BitVec.ushiftRight_eq', BitVec.getLsbD_ushiftRight]
    have e2 : (z.toBitVec % 64#64).toNat = b := by
      rw [BitVec.toNat_umod]
      exact e
    rw [e2]
    rfl
  rw [h]
  cases kb x b <;> decide
theorem kb_or {x : Int64} {b b' : Nat} (hb : b < 64) (hb' : b' < 64) : kb (x ||| ((1 : Int64) <<< ((n32 b).toInt64 &&& 63))) b' = (kb x b' || decide (b = b')) := by
  unfold kb
  have h : (x ||| ((1 : Int64) <<< ((n32 b).toInt64 &&& 63))).toBitVec = x.toBitVec ||| ((1 : Int64) <<< ((n32 b).toInt64 &&& 63)).toBitVec := rfl
  rw [h, BitVec.getLsbD_or, Int64.toBitVec_shiftLeft, BitVec.shiftLeft_eq', (kb_sh b hb).2, BitVec.getLsbD_shiftLeft]
  congr 1
  have e1 : (1 : Int64).toBitVec = 1#64 := rfl
  rw [e1]
  simp only [BitVec.getLsbD_one]
  simp [hb']
  by_cases e : b = b'
  · subst e; simp
  · simp [e]
    omega
/-- what is known is so -/
def cWay (m : mi_M) (c : Nat) (T : Nat → Nat) : Prop := cLan m c T ∧ ∀ b, b < 64 → kb (m.2.1 9 c 6) b = true → ∀ i j, i < 6 → j < 6 → m.1 47 c (b * 36 + i * 6 + j) = n32 (cst T b i j)
theorem pc_measure {c b : Nat} {m : mi_M} {T : Nat → Nat} (hT : lanOK T) (hb : b < 64) (h : cLan m c T) : wo (f_X9_measure c (n32 b) m) (fun m' => kp (fun k i p => k = 47 ∧ i = c ∧ b * 36 ≤ p ∧ p < b * 36 + 36) m m' ∧ ∀ i j, i < 6 → j < 6 → m'.1 47 c (b * 36 + i * 6 + j) = n32 (cst T b i j)) := by
  have hle := fl_le (fun i j => ((lanQ_ok hT b) i j).1)
  unfold f_X9_measure
  simp only [pw_let, pw_bo, n32_ml]
  refine pl_for (fun k s => s.1 = n32 k ∧ kp (fun k i p => k = 47 ∧ i = c ∧ b * 36 ≤ p ∧ p < b * 36 + 36) m s.2 ∧ ∀ i j, i < k → j < 6 → s.2.1 47 c (b * 36 + i * 6 + j) = n32 (fl (lanQ T b) 0 i j)) 6 (by omega) ⟨rfl, kp.rf, fun _ _ h => absurd h (by omega)⟩ ?_
  rintro k ⟨l23, m1⟩ hk ⟨h1, hkp, hc⟩
  simp only at h1 hkp hc
  subst h1
  unfold f_X9_measure_B7
  simp (disch := omega) only [pw_if, pw_some, pw_bo, n32_Lle, lr_r]
  refine ⟨fun hx => ?_, fun hx => ?_⟩
  · have hk6 : k = 6 := by omega
    subst hk6
    unfold f_X9_measure_K7
    rw [pw_bo]
    refine pl_for (fun k s => s.1 = n32 k ∧ kp (fun k i p => k = 47 ∧ i = c ∧ b * 36 ≤ p ∧ p < b * 36 + 36) m s.2 ∧ ∀ i j, i < 6 → j < 6 → s.2.1 47 c (b * 36 + i * 6 + j) = n32 (fl (lanQ T b) k i j)) 6 (by omega) ⟨rfl, hkp, hc⟩ ?_
    clear hkp hc hx m1
    rintro by' ⟨l4, m1⟩ hby ⟨h1, hkp, hc⟩
    simp only at h1 hkp hc
    subst h1
    unfold f_X9_measure_B69
    simp (disch := omega) only [pw_if, pw_some, pw_bo, n32_Lle, lr_r]
    refine ⟨fun hx => ?_, fun hx => ?_⟩
    · have hk6 : by' = 6 := by omega
      subst hk6
      unfold f_X9_measure_K69
      rw [pw_some]
      exact ⟨hkp, hc⟩
    · have hby : by' < 6 := by omega
      refine pl_for (fun k s => s.1 = n32 k ∧ kp (fun k i p => k = 47 ∧ i = c ∧ b * 36 ≤ p ∧ p < b * 36 + 36) m s.2 ∧ ∀ i j, i < 6 → j < 6 → s.2.1 47 c (b * 36 + i * 6 + j) = n32 (if i < k then fl (lanQ T b) (by' + 1) i j else fl (lanQ T b) by' i j)) 6 (by omega) ⟨rfl, hkp, fun i j hi hj => hc i j hi hj⟩ ?_
      clear hkp hc hx m1
      rintro fr ⟨l7, m1⟩ hfr ⟨h1, hkp, hc⟩
      simp only at h1 hkp hc
      subst h1
      unfold f_X9_measure_B78
      simp (disch := omega) only [pw_if, pw_some, pw_bo, n32_Lle, lr_r, pw_g, pw_let, n32_ml, n32_add, n32_in, n32_cl]
      refine ⟨fun hx => ?_, fun hx => ?_⟩
      · have hk6 : fr = 6 := by omega
        subst hk6
        unfold f_X9_measure_K78
        rw [pw_some, lr_l]
        refine ⟨hby, by rw [n32_al], hkp, fun i j hi hj => ?_⟩
        rw [hc i j hi hj, if_pos hi]
      · have hfr : fr < 6 := by omega
        rw [hc fr by' hfr hby, if_neg (by omega)]
        refine ⟨by omega, ?_⟩
        refine pl_for (fun k s => s.1 = n32 k ∧ kp (fun k i p => k = 47 ∧ i = c ∧ b * 36 ≤ p ∧ p < b * 36 + 36) m s.2 ∧ ∀ i j, i < 6 → j < 6 → s.2.1 47 c (b * 36 + i * 6 + j) = n32 (if i < fr ∨ (i = fr ∧ j < k) then fl (lanQ T b) (by' + 1) i j else fl (lanQ T b) by' i j)) 6 (by omega) ⟨rfl, hkp, fun i j hi hj => by rw [hc i j hi hj]; congr 1; by_cases e : i < fr <;> simp [e]⟩ ?_
        clear hkp hc hx m1
        rintro t ⟨l12, m1⟩ ht ⟨h1, hkp, hc⟩
        simp only at h1 hkp hc
        subst h1
        unfold f_X9_measure_B104
        simp (disch := omega) only [pw_if, pw_some, pw_bo, n32_Lle, lr_r, pw_g, pw_let, n32_ml, n32_add, n32_in, n32_cl]
        refine ⟨fun hx => ?_, fun hx => ?_⟩
        · have hk6 : t = 6 := by omega
          subst hk6
          unfold f_X9_measure_K104
          rw [pw_some, lr_l]
          refine ⟨hfr, by rw [n32_al], hkp, fun i j hi hj => ?_⟩
          rw [hc i j hi hj]
          congr 1
          by_cases e : i < fr + 1
          · rw [if_pos (by omega), if_pos e]
          · rw [if_neg (by omega), if_neg e]
        · have ht : t < 6 := by omega
          have e1 := hc fr t hfr ht
          rw [if_neg (by omega)] at e1
          have e2 : m1.1 47 c (b * 36 + by' * 6 + t) = n32 (fl (lanQ T b) by' by' t) := by
            rw [hc by' t hby ht]
            split
            · rw [fl_row]
            · rfl
          have b1 := hle by' fr by'
          have b2 := hle by' by' t
          have b3 := hle by' fr t
          have hX : XX = 1048576 := rfl
          simp (disch := omega) only [e1, e2, n32_add, n32_lt]
          refine ⟨by omega, by omega, by omega, ?_⟩
          rw [lr_l]
          refine ⟨ht, by rw [n32_al], hkp.wI ⟨rfl, rfl, by omega, by omega⟩, fun i j hi hj => ?_⟩
          rw [rI]
          by_cases e : i = fr ∧ j = t
          · obtain ⟨rfl, rfl⟩ := e
            rw [if_pos ⟨rfl, rfl, rfl⟩, if_pos (Or.inr ⟨rfl, by omega⟩)]
            rw [← apply_ite n32]
            congr 1
            show _ = min _ _
            split <;> omega
          · rw [if_neg (by omega), hc i j hi hj]
            congr 1
            by_cases e3 : i < fr ∨ i = fr ∧ j < t
            · rw [if_pos e3, if_pos (by omega)]
            · rw [if_neg e3, if_neg (by omega)]
  · have hk6 : k < 6 := by omega
    refine pl_for (fun j0 s => s.1 = n32 j0 ∧ kp (fun k i p => k = 47 ∧ i = c ∧ b * 36 ≤ p ∧ p < b * 36 + 36) m s.2 ∧ ∀ i j, j < 6 → (i < k ∨ (i = k ∧ j < j0)) → s.2.1 47 c (b * 36 + i * 6 + j) = n32 (fl (lanQ T b) 0 i j)) 6 (by omega) ⟨rfl, hkp, fun i j hj hi => hc i j (by omega) hj⟩ ?_
    clear hkp hc hx m1
    rintro t ⟨l26, m1⟩ ht ⟨h1, hkp, hc⟩
    simp only at h1 hkp hc
    subst h1
    have hl1 : cLan m1 c T := fun i j hi hj => by rw [hkp.1 76 _ _ (by omega)]; exact h i j hi hj
    unfold f_X9_measure_B16
    simp (disch := omega) only [pw_if, pw_some, pw_bo, n32_Lle, lr_r, n32_eq]
    refine ⟨fun hx => ?_, fun hx => ?_⟩
    · have ht6 : t = 6 := by omega
      subst ht6
      unfold f_X9_measure_K16
      rw [pw_some, lr_l]
      exact ⟨hk6, by rw [n32_al], hkp, fun i j hi hj => hc i j hj (by omega)⟩
    · have ht6 : t < 6 := by omega
      have fin : ∀ v, v = n32 (fl (lanQ T b) 0 k t) → wo (f_X9_measure_J54 c (n32 (b * 36)) (n32 k) (n32 t) m1 v) (lr (fun s' => t < 6 ∧ s'.1 = n32 (t + 1) ∧ kp (fun k i p => k = 47 ∧ i = c ∧ b * 36 ≤ p ∧ p < b * 36 + 36) m s'.2 ∧ ∀ i j, j < 6 → (i < k ∨ (i = k ∧ j < t + 1)) → s'.2.1 47 c (b * 36 + i * 6 + j) = n32 (fl (lanQ T b) 0 i j)) (fun e => wo (f_X9_measure_K16 (n32 k) e) (lr (fun s' => k < 6 ∧ s'.1 = n32 (k + 1) ∧ kp (fun k i p => k = 47 ∧ i = c ∧ b * 36 ≤ p ∧ p < b * 36 + 36) m s'.2 ∧ ∀ i j, i < k + 1 → j < 6 → s'.2.1 47 c (b * 36 + i * 6 + j) = n32 (fl (lanQ T b) 0 i j)) (fun e => wo (f_X9_measure_K7 c (n32 (b * 36)) e) (fun m' => kp (fun k i p => k = 47 ∧ i = c ∧ b * 36 ≤ p ∧ p < b * 36 + 36) m m' ∧ ∀ i j, i < 6 → j < 6 → m'.1 47 c (b * 36 + i * 6 + j) = n32 (cst T b i j)))))) := by
        intro v hv
        unfold f_X9_measure_J54
        simp (disch := omega) only [pw_some, pw_g, pw_let, n32_ml, n32_add, n32_in, n32_cl, lr_l]
        refine ⟨by omega, ht6, by rw [n32_al], hkp.wI ⟨rfl, rfl, by omega, by omega⟩, fun i j hj hi => ?_⟩
        rw [rI]
        by_cases e : i = k ∧ j = t
        · obtain ⟨rfl, rfl⟩ := e
          rw [if_pos ⟨rfl, rfl, rfl⟩, hv]
        · rw [if_neg (by omega), hc i j hj (by omega)]
      refine ⟨fun e => fin 0 ?_, fun e => ?_⟩
      · rw [e, fl_ii]; rfl
      · rw [pc_laneCost hT hb hk6 ht6 hl1, pw_some]
        refine fin _ ?_
        unfold fl
        rw [if_neg e]
theorem pc_costOf {c b i j : Nat} {m : mi_M} {T : Nat → Nat} (hT : lanOK T) (hb : b < 64) (hi : i < 6) (hj : j < 6) (h : cWay m c T) : wo (f_X9_costOf c (n32 b) (n32 i) (n32 j) m) (fun r => r.1 = n32 (cst T b i j) ∧ cWay r.2 c T ∧ kp (fun k i _ => (k = 47 ∨ k = 109) ∧ i = c) m r.2) := by
  unfold f_X9_costOf f_X9_costOf_J30
  simp (disch := omega) only [pw_if, pw_some, pw_bo, pw_g, pw_let, n32_ml, n32_add, n32_in, n32_cl, kb_0]
  refine ⟨fun hx => ?_, fun hx => ?_⟩
  · refine pw_mono (pc_measure hT hb h.1) ?_
    rintro m1 ⟨hkp, hc⟩
    refine ⟨by omega, hc i j hi hj, ⟨fun i j hi hj => ?_, fun b' hb' hk i j hi hj => ?_⟩, ?_⟩
    · rw [rLI, hkp.1 76 _ _ (by omega)]
      exact h.1 i j hi hj
    · rw [rL, if_pos ⟨rfl, rfl, rfl⟩, hkp.2.1 9 c 6 (by omega), kb_or hb hb'] at hk
      rw [rLI]
      by_cases e : b' = b
      · subst e
        exact hc i j hi hj
      · rw [hkp.1 47 c _ (by omega)]
        refine h.2 b' hb' ?_ i j hi hj
        have e2 : ¬ b = b' := fun x => e x.symm
        simpa [e2] using hk
    · exact (hkp.mo (by intro k i p hh; omega)).wL ⟨Or.inr rfl, rfl⟩
  · have hx : kb (m.2.1 9 c 6) b = true := by simpa using hx
    exact ⟨by omega, h.2 b hb hx i j hi hj, h, kp.rf⟩
