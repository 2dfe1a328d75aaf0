/-! ===== years ===== -/
def n64 (k : Nat) : Int64 := Int64.ofNat k
theorem n64_int {k : Nat} (h : k < 9223372036854775808) : (n64 k).toInt = k := Int64.toInt_ofNat_of_lt h
theorem n64_add (a b : Nat) : n64 a + n64 b = n64 (a + b) := (Int64.ofNat_add a b).symm
theorem n64_mul (a b : Nat) : n64 a * n64 b = n64 (a * b) := (Int64.ofNat_mul a b).symm
theorem n64_sub {a b : Nat} (h : b ≤ a) : n64 a - n64 b = n64 (a - b) := (Int64.ofNat_sub a b h).symm
theorem n64_div {a b : Nat} (ha : a < 9223372036854775808) (hb : b < 9223372036854775808) : n64 a / n64 b = n64 (a / b) := by
  apply Int64.toInt_inj.mp
  have h1 : a / b ≤ a := Nat.div_le_self _ _
  rw [n64_int (by omega), Int64.toInt_div, n64_int ha, n64_int hb]
  rw [show (a : Int).tdiv (b : Int) = ((a / b : Nat) : Int) from by rw [Int.ofNat_tdiv]]
  generalize a / b = q at h1 ⊢
  rw [Int.bmod_eq_of_le] <;> omega
theorem n32_64 {k : Nat} (hk : k < 2147483648) : (n32 k).toInt64 = n64 k := by
  apply Int64.toInt_inj.mp
  rw [Int32.toInt_toInt64, n32_int hk, n64_int (by omega)]
theorem n64_32 {k : Nat} (hk : k < 2147483648) : (n64 k).toInt32 = n32 k := by
  apply Int32.toInt_inj.mp
  rw [Int64.toInt_toInt32, n32_int hk, n64_int (by omega), Int.bmod_eq_of_le] <;> omega
theorem n64_mod {a b : Nat} (ha : a < 9223372036854775808) (hb : b < 9223372036854775808) : n64 a - n64 a / n64 b * n64 b = n64 (a % b) := by
  rw [n64_div ha hb, n64_mul, n64_sub (Nat.div_mul_le_self a b)]
  congr 1
  have := Nat.div_add_mod a b
  rw [Nat.mul_comm] at this
  omega
theorem n64_0 {k : Nat} (hk : k < 9223372036854775808) : n64 k = 0 ↔ k = 0 := by
  refine ⟨fun h => ?_, fun h => by rw [h]; rfl⟩
  have := congrArg Int64.toInt h
  rw [n64_int hk, show (0 : Int64).toInt = 0 by decide] at this
  omega
def nxG (G : Nat) : Nat := (G * 1103515245 + 12345) % 2147483648
theorem nxG_lt (G : Nat) : nxG G < 2147483648 := Nat.mod_lt _ (by omega)
theorem nxG_64 {G : Nat} (hG : G < 2147483648) : (n64 G * 1103515245 + 12345) - (n64 G * 1103515245 + 12345) / 2147483648 * 2147483648 = n64 (nxG G) := by
  rw [show (1103515245 : Int64) = n64 1103515245 from rfl, show (12345 : Int64) = n64 12345 from rfl, show (2147483648 : Int64) = n64 2147483648 from rfl, n64_mul, n64_add, n64_mod (by omega) (by omega)]
  rfl
theorem drw {G W : Nat} (hG : G < 2147483648) (hW : W < 100) : ((n64 G / 65536) - (n64 G / 65536) / n64 W * n64 W).toInt32 = n32 (G / 65536 % W) := by
  rw [show (65536 : Int64) = n64 65536 from rfl, n64_div (by omega) (by omega), n64_mod (by omega) (by omega), n64_32]
  have := Nat.mod_le (G / 65536) W
  omega
theorem pc_next {G : Nat} {m : mi_M} (hG : G < 2147483648) : f_X0_nextDraw (n64 G) m = some (n64 (nxG G)) := by
  unfold f_X0_nextDraw
  rw [nxG_64 hG]
theorem pc_below {G W : Nat} {m : mi_M} (hG : G < 2147483648) (hW : W < 100) (h0 : 0 < W) : f_X0_drawBelow (n64 G) (n32 W) m = some (n32 (G / 65536 % W)) := by
  unfold f_X0_drawBelow f_X0_drawBelow_J17
  rw [if_neg (by rw [show (0 : Int32) = n32 0 from rfl, n32_le (by omega) (by omega)]; omega), n32_64 (by omega), pe_g (by rw [n64_0 (by omega)]; omega), drw hG hW]
/-- a night of the years: the draws' number and the state -/
def ysN (T : Nat → Nat) (cd : Nat → List Int32) (G : Nat) (U : Nat → Int32) : Nat → Int32 := if T 2 = 0 then U else if ddB T U (nxG (nxG G) / 65536 % 3) (nxG G / 65536 % T 2) 1 then ddA T cd U (nxG (nxG G) / 65536 % 3) (nxG G / 65536 % T 2) 1 else U
def ysG (T : Nat → Nat) (G : Nat) : Nat := if T 2 = 0 then G else nxG (nxG G)
def ysA (T : Nat → Nat) (cd : Nat → List Int32) (G : Nat) (U : Nat → Int32) : Nat → Nat × (Nat → Int32)
  | 0 => (G, U)
  | k + 1 => (ysG T (ysA T cd G U k).1, aSleep T cd (ysN T cd (ysA T cd G U k).1 (ysA T cd G U k).2))
theorem ysN_ok {T : Nat → Nat} {cd : Nat → List Int32} {G : Nat} {U : Nat → Int32} (hT : tOK T) (h : sOK T U) : sOK T (ysN T cd G U) := by
  unfold ysN
  by_cases e : T 2 = 0
  · rw [if_pos e]; exact h
  · rw [if_neg e]
    by_cases hb : ddB T U (nxG (nxG G) / 65536 % 3) (nxG G / 65536 % T 2) 1 = true
    · rw [if_pos hb]
      exact ddA_ok hT h (fun _ => Nat.mod_lt _ (by omega)) (by omega) hb
    · rw [if_neg hb]; exact h
theorem ysA_ok {T : Nat → Nat} {cd : Nat → List Int32} {G : Nat} {U : Nat → Int32} (hT : tOK T) (hG : G < 2147483648) (h : sOK T U) : ∀ k, (ysA T cd G U k).1 < 2147483648 ∧ sOK T (ysA T cd G U k).2
  | 0 => ⟨hG, h⟩
  | k + 1 => by
    obtain ⟨i1, i2⟩ := ysA_ok (cd := cd) hT hG h k
    refine ⟨?_, aSleep_ok hT (ysN_ok hT i2)⟩
    show ysG T (ysA T cd G U k).1 < _
    unfold ysG
    split
    · exact i1
    · exact nxG_lt _
theorem eq1.dB {T : Nat → Nat} {S S' : Nat → Int32} {d w g : Nat} (h : eq1 S S') : ddB T S d w g = ddB T S' d w g := by
  unfold ddB
  rw [h (22 + w) (by omega), h (30 + w) (by omega), h (8 + byA T w) (by omega)]
theorem eq1.dA {T : Nat → Nat} {cd : Nat → List Int32} {S S' : Nat → Int32} {d w g : Nat} (h : eq1 S S') : eq1 (ddA T cd S d w g) (ddA T cd S' d w g) := by
  unfold ddA
  split
  · exact h.say
  · split
    · exact h.give
    · split
      · exact h.ask
      · exact h.sleep
theorem ddA_1 {T : Nat → Nat} {cd : Nat → List Int32} {S : Nat → Int32} {d w g : Nat} (hd : d < 3) : ddA T cd S d w g 1 = S 1 := by
  unfold ddA
  by_cases d0 : d = 0
  · rw [if_pos d0]; unfold aSay; rw [fu_ne (by omega), fu_ne (by omega)]
  · rw [if_neg d0]
    by_cases d1 : d = 1
    · rw [if_pos d1]; unfold aGive; rw [fu_ne (by omega), fu_ne (by omega), fu_ne (by omega)]
    · rw [if_neg d1, if_pos (by omega), ask_1]
theorem ysN_1 {T : Nat → Nat} {cd : Nat → List Int32} {G : Nat} {U : Nat → Int32} : ysN T cd G U 1 = U 1 := by
  unfold ysN
  split
  · rfl
  · split
    · exact ddA_1 (Nat.mod_lt _ (by omega))
    · rfl
theorem pm_draw {m : mi_M} {G H W : Nat} (hH : H = nxG G) (hG : G < 2147483648) (hW : W < 100) (h0 : 0 < W) (hg : m.2.1 12 0 39 = n64 G) : f_X12_draw (n32 W) m = some (n32 (H / 65536 % W), mi_wL m 12 0 39 (n64 H)) := by
  have hl : H < 2147483648 := by rw [hH]; exact nxG_lt G
  unfold f_X12_draw
  rw [pe_let, hg, nxG_64 hG, ← hH, n32_64 (by omega), pe_g (by rw [n64_0 (by omega)]; omega), rL, if_pos ⟨rfl, rfl, rfl⟩, drw hl hW]
theorem pm_drawsDeed {m : mi_M} {T : Nat → Nat} {cd : Nat → List Int32} {V U : Nat → Int32} {G : Nat} (h : mT m T cd) (hS : mSt m 1386 V) (he : eq1 V U) (hs : sOK T U) (h24 : m.1 12 0 24 = 0) (hG : G < 2147483648) (hg : m.2.1 12 0 39 = n64 G) (h0 : ¬ T 2 = 0) : wo (f_X12_drawsDeed m) (fun m' => (∃ V', mSt m' 1386 V' ∧ eq1 V' (ysN T cd G U)) ∧ m'.2.1 12 0 39 = n64 (nxG (nxG G)) ∧ kp (fun k i p => pmE k i ∨ pmS 1386 k i p ∨ k = 112) m m') := by
  have hT := h.1.2.1
  have h82 := hT.1.2.1
  have ey : ysN T cd G U = if ddB T U (nxG (nxG G) / 65536 % 3) (nxG G / 65536 % T 2) 1 then ddA T cd U (nxG (nxG G) / 65536 % 3) (nxG G / 65536 % T 2) 1 else U := by unfold ysN; rw [if_neg h0]
  rw [ey]
  obtain ⟨G1, hG1⟩ : ∃ G1, G1 = nxG G := ⟨_, rfl⟩
  have hG1l : G1 < 2147483648 := by rw [hG1]; exact nxG_lt G
  rw [← hG1]
  obtain ⟨G2, hG2⟩ : ∃ G2, G2 = nxG G1 := ⟨_, rfl⟩
  rw [← hG2]
  clear ey
  unfold f_X12_drawsDeed
  have k1 : kp (fun k i p => pmE k i ∨ pmS 1386 k i p ∨ k = 112) m (mi_wL (mi_wL m 12 0 39 (n64 (G1))) 12 0 39 (n64 (G2))) := (kp.rf.wL (Or.inr (Or.inr rfl))).wL (Or.inr (Or.inr rfl))
  rw [pm_wrongs h.1.1, pe_bo, pm_draw hG1 hG (by omega) (by omega) hg, pe_b, show f_X12_draw 3 (mi_wL m 12 0 39 (n64 (G1))) = _ from pm_draw (W := 3) hG2 hG1l (by omega) (by omega) (by rw [rL, if_pos ⟨rfl, rfl, rfl⟩]), pe_b]
  have g2 : (mi_wL (mi_wL m 12 0 39 (n64 (G1))) 12 0 39 (n64 (G2))).2.1 12 0 39 = n64 (G2) := by rw [rL, if_pos ⟨rfl, rfl, rfl⟩]
  have t2 : mT (mi_wL (mi_wL m 12 0 39 (n64 (G1))) 12 0 39 (n64 (G2))) T cd := h.mv k1 (fun k i p a b d => by omega)
  have s2 : mSt (mi_wL (mi_wL m 12 0 39 (n64 (G1))) 12 0 39 (n64 (G2))) 1386 V := fun q hq => hS q hq
  have z24 : (mi_wL (mi_wL m 12 0 39 (n64 (G1))) 12 0 39 (n64 (G2))).1 12 0 24 = 0 := h24
  generalize mi_wL (mi_wL m 12 0 39 (n64 (G1))) 12 0 39 (n64 (G2)) = m2 at k1 g2 t2 s2 z24 ⊢
  have hw : G1 / 65536 % T 2 < T 2 := Nat.mod_lt _ (by omega)
  have hd : G2 / 65536 % 3 < 3 := Nat.mod_lt _ (by omega)
  generalize G1 / 65536 % T 2 = w at hw ⊢
  generalize G2 / 65536 % 3 = d at hd ⊢
  have no : ddB T V d w 1 = false → wo (f_X12_drawsDeed_J97 m2) (fun m' => (∃ V', mSt m' 1386 V' ∧ eq1 V' (if ddB T U d w 1 then ddA T cd U d w 1 else U)) ∧ m'.2.1 12 0 39 = n64 (G2) ∧ kp (fun k i p => pmE k i ∨ pmS 1386 k i p ∨ k = 112) m m') := by
    intro hb
    unfold f_X12_drawsDeed_J97
    rw [pw_some, ← he.dB, hb]
    exact ⟨⟨V, s2, he⟩, g2, k1⟩
  have yes : ddB T V d w 1 = true → ∀ m3, mSt m3 1386 (ddA T cd V d w 1) → kp (fun k i p => pmE k i ∨ pmS 1386 k i p) m2 m3 → wo (f_X12_drawsDeed_J97 m3) (fun m' => (∃ V', mSt m' 1386 V' ∧ eq1 V' (if ddB T U d w 1 then ddA T cd U d w 1 else U)) ∧ m'.2.1 12 0 39 = n64 (G2) ∧ kp (fun k i p => pmE k i ∨ pmS 1386 k i p ∨ k = 112) m m') := by
    intro hb m3 s3 k3
    unfold f_X12_drawsDeed_J97
    rw [pw_some, ← he.dB, hb]
    refine ⟨⟨_, s3, he.dA⟩, ?_, k1.tr (k3.mo (fun k i p a => by omega))⟩
    rw [k3.2.1 12 0 39 (by omega)]; exact g2
  have : d = 0 ∨ d = 1 ∨ d = 2 := by omega
  rcases this with rfl | rfl | rfl
  · rw [if_pos (show n32 0 = 0 from rfl), show f_X12_maySay 1386 (n32 w) m2 = _ from pm_maySay (b := 1386) t2.1.1 hT s2 (by omega) hw, pe_bo]
    by_cases e : V (22 + w) = 0 ∧ V (30 + w) = 0
    · rw [if_pos e, if_neg (by decide), pw_b]
      refine pw_mono (pm_says (b := 1386) t2 s2 (by omega) hw) ?_
      rintro ⟨v, m3⟩ ⟨b1, b2, b3⟩
      exact yes (decide_eq_true e) m3 b2 b3
    · rw [if_neg e, if_pos rfl]
      unfold f_X12_drawsDeed_J42 f_X12_drawsDeed_J72
      rw [if_neg (show ¬ n32 0 = 1 by decide), if_neg (show ¬ n32 0 = 2 by decide)]
      exact no (decide_eq_false e)
  · rw [if_neg (show ¬ n32 1 = 0 by decide)]
    unfold f_X12_drawsDeed_J42
    rw [if_pos (show n32 1 = 1 from rfl), show f_X12_mayGive 1386 (n32 w) 1 m2 = _ from pm_mayGive (b := 1386) t2.1.1 hT s2 (by omega) hw, pe_bo]
    by_cases e : V (22 + w) = 0 ∧ n32 1 ≤ V (8 + byA T w)
    · rw [if_pos (show V (22 + w) = 0 ∧ (1 : Int32) ≤ V (8 + byA T w) from e), if_neg (by decide), pw_b]
      refine pw_mono (pm_gives (b := 1386) (g := 1) t2 s2 (by omega) hw) ?_
      rintro ⟨v, m3⟩ ⟨b1, b2, b3⟩
      exact yes (decide_eq_true e) m3 b2 b3
    · rw [if_neg (show ¬ (V (22 + w) = 0 ∧ (1 : Int32) ≤ V (8 + byA T w)) from e), if_pos rfl]
      unfold f_X12_drawsDeed_J72
      rw [if_neg (show ¬ n32 1 = 2 by decide)]
      exact no (decide_eq_false e)
  · rw [if_neg (show ¬ n32 2 = 0 by decide)]
    unfold f_X12_drawsDeed_J42 f_X12_drawsDeed_J72
    rw [if_neg (show ¬ n32 2 = 1 by decide), if_pos (show n32 2 = 2 from rfl), show f_X12_isOpen 1386 (n32 w) m2 = _ from pm_isOpen (b := 1386) t2.1.1 hT s2 (by omega) hw, pe_bo]
    by_cases e : V (22 + w) = 0
    · rw [if_pos e, if_neg (by decide), pw_b]
      refine pw_mono (pm_asks (b := 1386) t2 s2 (by omega) hw e) ?_
      rintro ⟨v, m3⟩ ⟨b1, b2, b3⟩
      rw [z24] at b2
      exact yes (decide_eq_true e) m3 b2 b3
    · rw [if_neg e, if_pos rfl]
      exact no (decide_eq_false e)
theorem po_years : ob_years Rel := by
  rintro a0 a1 a2 mem ⟨T, cd, c, y, hR⟩
  obtain ⟨h1, h2, h3, h4, h5, h6, ⟨S, hc, hm, hs⟩, h8, h9, h10⟩ := id hR
  have hT := h2.1.2.1
  have h82 := hT.1.2.1
  have h60 := hT.1.1
  by_cases hg : (0 : Int32) ≤ a0 ∧ a0 ≤ 9999
  · by_cases hg2 : (1 : Int32) ≤ a1 ∧ a1 ≤ 100
    · by_cases hg3 : (0 : Int32) ≤ a2 ∧ a2 ≤ 2
      · obtain ⟨G, g1, g2, rfl⟩ := wi_of (lo := 0) (hi := 9999) (by omega) (by omega) hg
        obtain ⟨N, g3, g4, rfl⟩ := wi_of (lo := 1) (hi := 100) (by omega) (by omega) hg2
        have hs0 : sOK T (fu S 1 0) := (eq1_0 S 0).sy.ok hs
        have okk := ysA_ok (cd := cd) hT (show G < 2147483648 by omega) hs0
        refine ob_ev (f1 := f_X11_years (n32 G) (n32 N) a2) (f2 := f_X12_years (n32 G) (n32 N) a2) hR (if a2 = 0 then (ysA T cd G (fu S 1 0) N).2 1 else if a2 = 1 then sumI (fun w => (ysA T cd G (fu S 1 0) N).2 (22 + w)) 8 else sumI (fun p => (ysA T cd G (fu S 1 0) N).2 (2 + p)) 6) ?_ ?_
        · unfold f_X11_years f_X0_yearsByDraws
          rw [pc_within, wi_y hg, pe_bo, if_neg (by decide), pc_within, wi_y hg2, pe_bo, if_neg (by decide), pc_within, wi_y hg3, pe_bo, if_neg (by decide), h1.2.2.1, pe_g (n8 h1.1), n32_64 (by omega)]
          simp only [pw_b, pw_bo, pw_let, pw_some]
          refine pw_mono (pc_trial h2 hc) ?_
          rintro m1 ⟨t1, t2, t3⟩
          generalize mi_wI m1 5 21 1 0 = m1' at t1 t2 t3 ⊢
          refine pl_for (fun k s => s.1 = n64 (ysA T cd G (fu S 1 0) k).1 ∧ s.2.1 = n32 k ∧ cT s.2.2 c T cd ∧ cSt s.2.2 21 (ysA T cd G (fu S 1 0) k).2 ∧ kp (fun k j _ => pcE c k j ∨ pcS 21 k j) mem s.2.2) N (by omega) ⟨rfl, rfl, t1, t2, t3⟩ ?_
          rintro k ⟨l10, l11, m2⟩ hk ⟨e1, e2, e3, e4, e5⟩
          simp only at e1 e2 e3 e4 e5
          subst e1 e2
          obtain ⟨okG, okS⟩ := okk k
          have okN := ysN_ok (cd := cd) (G := (ysA T cd G (fu S 1 0) k).1) hT okS
          unfold f_X0_yearsByDraws_B23
          simp (disch := omega) only [pw_if, pw_some, pw_bo, n32_le, e3.1.1.1.2.1, lr_r]
          refine ⟨fun hz => ?_, fun hz => ?_⟩
          · have : k = N := by omega
            subst this
            unfold f_X0_yearsByDraws_K23 f_X0_yearsByDraws_J152
            have kk : kp (fun k i _ => pXc c k i) mem m2 := e5.mo (fun k i p a => by omega)
            simp only [pw_if, pw_bo, pw_some]
            refine ⟨fun z0 => ⟨by rw [if_pos z0]; exact e4.1.2.1, e3, kk⟩, fun z0 => ⟨fun z1 => ?_, fun z1 => ?_⟩⟩
            · rw [e4.1.2.2.1, pc_bits (bs_lt _ 8), pw_some]
              exact ⟨by rw [if_neg z0, if_pos z1]; exact over_n okS, e3, kk⟩
            · rw [pc_lampNights e4, pw_some]
              exact ⟨by rw [if_neg z0, if_neg z1], e3, kk⟩
          · have fin : ∀ m3, cT m3 c T cd → cSt m3 21 (ysN T cd (ysA T cd G (fu S 1 0) k).1 (ysA T cd G (fu S 1 0) k).2) → kp (fun k j _ => pcE c k j ∨ pcS 21 k j) mem m3 → wo (f_X0_yearsByDraws_J99 c (n32 k) (n64 (ysG T (ysA T cd G (fu S 1 0) k).1)) m3) (lr (fun s' => k < N ∧ s'.1 = n64 (ysA T cd G (fu S 1 0) (k + 1)).1 ∧ s'.2.1 = n32 (k + 1) ∧ cT s'.2.2 c T cd ∧ cSt s'.2.2 21 (ysA T cd G (fu S 1 0) (k + 1)).2 ∧ kp (fun k j _ => pcE c k j ∨ pcS 21 k j) mem s'.2.2) (fun e => wo (f_X0_yearsByDraws_K23 a2 e) (fun r => r.1 = (if a2 = 0 then (ysA T cd G (fu S 1 0) N).2 1 else if a2 = 1 then sumI (fun w => (ysA T cd G (fu S 1 0) N).2 (22 + w)) 8 else sumI (fun p => (ysA T cd G (fu S 1 0) N).2 (2 + p)) 6) ∧ cT r.2 c T cd ∧ kp (fun k i _ => pXc c k i) mem r.2))) := by
              intro m3 c3 s3 k3
              unfold f_X0_yearsByDraws_J99
              rw [pw_bo]
              refine pw_mono (pc_sleep c3 s3 okN) ?_
              rintro m4 ⟨b1, b2, b3⟩
              rw [pw_some, lr_l]
              exact ⟨by omega, rfl, by rw [n32_al], b2, b1, k3.tr b3⟩
            by_cases e0 : T 2 = 0
            · refine ⟨fun _ => ?_, fun x => absurd (by rw [e0]; decide) x⟩
              have := fin m2 e3 (by unfold ysN; rw [if_pos e0]; exact e4) e5
              unfold ysG at this
              rw [if_pos e0] at this
              exact this
            · refine ⟨fun x => ?_, fun _ => ?_⟩
              · rw [show (0 : Int32) = n32 0 from rfl, n32_le (by omega) (by omega)] at x
                omega
              · have eg : ysG T (ysA T cd G (fu S 1 0) k).1 = nxG (nxG (ysA T cd G (fu S 1 0) k).1) := by unfold ysG; rw [if_neg e0]
                rw [eg] at fin
                have ey : ysN T cd (ysA T cd G (fu S 1 0) k).1 (ysA T cd G (fu S 1 0) k).2 = if ddB T (ysA T cd G (fu S 1 0) k).2 (nxG (nxG (ysA T cd G (fu S 1 0) k).1) / 65536 % 3) (nxG (ysA T cd G (fu S 1 0) k).1 / 65536 % T 2) 1 then ddA T cd (ysA T cd G (fu S 1 0) k).2 (nxG (nxG (ysA T cd G (fu S 1 0) k).1) / 65536 % 3) (nxG (ysA T cd G (fu S 1 0) k).1 / 65536 % T 2) 1 else (ysA T cd G (fu S 1 0) k).2 := by unfold ysN; rw [if_neg e0]
                rw [ey] at fin
                clear ey eg okN
                rw [pc_next okG, pw_some]
                have l1 := nxG_lt (ysA T cd G (fu S 1 0) k).1
                generalize nxG (ysA T cd G (fu S 1 0) k).1 = G1 at fin l1 ⊢
                rw [pc_below l1 (by omega) (by omega), pw_some, pc_next l1, pw_some]
                have l2 := nxG_lt G1
                generalize nxG G1 = G2 at fin l2 ⊢
                rw [show f_X0_drawBelow (n64 G2) 3 m2 = _ from pc_below (W := 3) l2 (by omega) (by omega), pw_some]
                have hw : G1 / 65536 % T 2 < T 2 := Nat.mod_lt _ (by omega)
                have hd : G2 / 65536 % 3 < 3 := Nat.mod_lt _ (by omega)
                generalize G1 / 65536 % T 2 = w at hw fin ⊢
                generalize G2 / 65536 % 3 = d at hd fin ⊢
                rw [show f_X5_may 21 c (n32 d) (n32 w) 1 m2 = _ from pc_ddB (g := 1) e3.1.1 hT e4 okS (show d ≤ 3 by omega) (fun _ => hw), pw_some]
                by_cases hb : ddB T (ysA T cd G (fu S 1 0) k).2 d w 1 = true
                · rw [if_pos hb] at fin ⊢
                  refine ⟨fun x => absurd x (by decide), fun _ => ?_⟩
                  refine pw_mono (pc_ddA (g := 1) e3 e4 okS (show d ≤ 3 by omega) (fun _ => hw) (by omega) hb) ?_
                  rintro m3 ⟨b1, b2, b3⟩
                  exact fin m3 b2 b1 (e5.tr b3)
                · rw [if_neg hb] at fin ⊢
                  exact ⟨fun _ => fin m2 e3 e4 e5, fun x => absurd (by trivial) x⟩
        · intro m1 R1 hmm
          obtain ⟨r1, r2, r3, -⟩ := R1
          have gm := hmm S 0 hm
          unfold f_X12_years
          rw [pe_let, pm_within, wi_y hg, pe_bo, if_neg (by decide), pm_within, wi_y hg2, pe_bo, if_neg (by decide), pm_within, wi_y hg3, pe_bo, if_neg (by decide), n32_64 (by omega)]
          simp only [pw_bo, pw_let]
          refine pw_mono (pm_trial (b := 1386) (Or.inr rfl) r3 gm) ?_
          rintro m2 ⟨t1, t2, t3⟩
          have kx : kp (fun k i p => pXm k i p) m1 (mi_wL m2 12 0 39 (n64 G)) := t3.wL (by omega)
          refine pl_for (fun k s => s.1 = (ysA T cd G (fu S 1 0) k).2 1 ∧ s.2.1 = n32 k ∧ (∃ V, mSt s.2.2 1386 V ∧ eq1 V (ysA T cd G (fu S 1 0) k).2) ∧ s.2.2.2.1 12 0 39 = n64 (ysA T cd G (fu S 1 0) k).1 ∧ kp (fun k i p => pXm k i p) m1 s.2.2) N (by omega) ⟨rfl, rfl, ⟨S, fun q hq => t2 q hq, (eq1_0 S 0).sy⟩, by rw [rL, if_pos ⟨rfl, rfl, rfl⟩]; rfl, kx⟩ ?_
          clear kx t1 t2 t3 m2
          rintro k ⟨l20, l21, m2⟩ hk ⟨e1, e2, ⟨V, e4, e5⟩, e6, e7⟩
          simp only at e1 e2 e4 e6 e7
          subst e1 e2
          obtain ⟨okG, okS⟩ := okk k
          have t2 : mT m2 T cd := r3.mv e7 (fun k i p a b d => by omega)
          have z24 : m2.1 12 0 24 = 0 := by rw [e7.1 12 0 24 (by omega)]; exact r1.2.2.2.2.2.2
          unfold f_X12_years_B59
          simp (disch := omega) only [pm_wrongs t2.1.1, pw_if, pw_some, pw_bo, n32_le, lr_r]
          refine ⟨fun hz => ?_, fun hz => ?_⟩
          · have : k = N := by omega
            subst this
            unfold f_X12_years_K59
            simp only [pw_bo]
            have okV : sOK T V := e5.sy.ok okS
            refine pl_for (fun t s => s = (sumI (fun p => V (2 + p)) t, n32 t)) (T 0) (by omega) rfl ?_
            rintro t s ht rfl
            unfold f_X12_years_B100
            simp (disch := omega) only [pm_people t2.1.1, pw_if, pw_some, pw_g, pw_let, pw_bo, n32_le, lr_r, lr_l, n32_la, n32_in, n32_cl, n32_al]
            refine ⟨fun hx => ?_, fun hx => ⟨by omega, by omega, ?_⟩⟩
            · have : t = T 0 := by omega
              subst this
              unfold f_X12_years_K100 f_X12_years_J157
              simp only [pw_if, pw_bo, pw_some]
              refine ⟨fun z0 => ⟨by rw [if_pos z0], e7⟩, fun z0 => ⟨fun z1 => ?_, fun z1 => ⟨?_, e7⟩⟩⟩
              · rw [show f_X12_overMany 1386 m2 = _ from pm_overMany (b := 1386) t2.1.1 hT e4 okV (by omega), pw_some]
                refine ⟨?_, e7⟩
                rw [if_neg z0, if_pos z1]
                have : (fun w => V (22 + w)) = (fun w => (ysA T cd G (fu S 1 0) k).2 (22 + w)) := funext (fun w => e5 (22 + w) (by omega))
                rw [this]
              · rw [if_neg z0, if_neg z1]
                have : (fun p => V (2 + p)) = (fun p => (ysA T cd G (fu S 1 0) k).2 (2 + p)) := funext (fun w => e5 (2 + w) (by omega))
                rw [this]
                exact (sumI_ext h60 (fun w a b => (okS.2.1 w b a).1)).symm
            · rw [show 1388 + t = 1386 + (2 + t) by omega, e4 (2 + t) (by omega)]
              rfl
          · have fin : ∀ m3, (∃ V, mSt m3 1386 V ∧ eq1 V (ysN T cd (ysA T cd G (fu S 1 0) k).1 (ysA T cd G (fu S 1 0) k).2)) → m3.2.1 12 0 39 = n64 (ysG T (ysA T cd G (fu S 1 0) k).1) → kp (fun k i p => pXm k i p) m1 m3 → wo (f_X12_years_J76 ((ysA T cd G (fu S 1 0) k).2 1) (n32 k) m3) (lr (fun s' => k < N ∧ s'.1 = (ysA T cd G (fu S 1 0) (k + 1)).2 1 ∧ s'.2.1 = n32 (k + 1) ∧ (∃ V, mSt s'.2.2 1386 V ∧ eq1 V (ysA T cd G (fu S 1 0) (k + 1)).2) ∧ s'.2.2.2.1 12 0 39 = n64 (ysA T cd G (fu S 1 0) (k + 1)).1 ∧ kp (fun k i p => pXm k i p) m1 s'.2.2) (fun e => wo (f_X12_years_K59 a2 e) (fun r => r.1 = (if a2 = 0 then (ysA T cd G (fu S 1 0) N).2 1 else if a2 = 1 then sumI (fun w => (ysA T cd G (fu S 1 0) N).2 (22 + w)) 8 else sumI (fun p => (ysA T cd G (fu S 1 0) N).2 (2 + p)) 6) ∧ kp (fun k i p => pXm k i p) m1 r.2))) := by
              rintro m3 ⟨V3, s3, q3⟩ g3 k3
              have okN := ysN_ok (cd := cd) (G := (ysA T cd G (fu S 1 0) k).1) hT okS
              have t3 : mT m3 T cd := r3.mv k3 (fun k i p a b d => by omega)
              unfold f_X12_years_J76
              rw [pw_b]
              refine pw_mono (pm_passes (b := 1386) t3 s3 (q3.sy.ok okN) (by omega)) ?_
              rintro ⟨v, m4⟩ ⟨b1, b2, b3⟩
              simp only at b1 b2 b3
              subst b1
              rw [pw_let, pw_some, lr_l]
              refine ⟨by omega, ?_, by rw [n32_al], ⟨_, b2, q3.sleep⟩, ?_, k3.tr (b3.mo (fun k i p a => by omega))⟩
              · show _ = aSleep T cd (ysN T cd (ysA T cd G (fu S 1 0) k).1 (ysA T cd G (fu S 1 0) k).2) 1
                rw [aS_1, ysN_1, q3.ls]
              · show m4.2.1 12 0 39 = _
                rw [b3.2.1 12 0 39 (by omega)]; exact g3
            by_cases e0 : T 2 = 0
            · refine ⟨fun _ => ?_, fun x => absurd (by rw [e0]; decide) x⟩
              refine fin m2 ⟨V, e4, ?_⟩ ?_ e7
              · unfold ysN; rw [if_pos e0]; exact e5
              · unfold ysG; rw [if_pos e0]; exact e6
            · refine ⟨fun x => ?_, fun _ => ?_⟩
              · rw [show (0 : Int32) = n32 0 from rfl, n32_le (by omega) (by omega)] at x
                omega
              · refine pw_mono (pm_drawsDeed t2 e4 e5 okS z24 okG e6 e0) ?_
                rintro m3 ⟨b1, b2, b3⟩
                refine fin m3 b1 ?_ (e7.tr (b3.mo (fun k i p a => by omega)))
                unfold ysG; rw [if_neg e0]; exact b2
      · refine ob_no (f1 := f_X11_years a0 a1 a2) (f2 := f_X12_years a0 a1 a2) (v := -1) hR ?_ ?_
        · unfold f_X11_years f_X11_years_J30
          rw [pc_within, wi_y hg, pe_bo, if_neg (by decide), pc_within, wi_y hg2, pe_bo, if_neg (by decide), pc_within, wi_n hg3, pe_bo, if_pos rfl]
        · unfold f_X12_years f_X12_years_J35
          rw [pe_let, pm_within, wi_y hg, pe_bo, if_neg (by decide), pm_within, wi_y hg2, pe_bo, if_neg (by decide), pm_within, wi_n hg3, pe_bo, if_pos rfl]
    · refine ob_no (f1 := f_X11_years a0 a1 a2) (f2 := f_X12_years a0 a1 a2) (v := -1) hR ?_ ?_
      · unfold f_X11_years f_X11_years_J30
        rw [pc_within, wi_y hg, pe_bo, if_neg (by decide), pc_within, wi_n hg2, pe_bo, if_pos rfl]
      · unfold f_X12_years f_X12_years_J35
        rw [pe_let, pm_within, wi_y hg, pe_bo, if_neg (by decide), pm_within, wi_n hg2, pe_bo, if_pos rfl]
  · refine ob_no (f1 := f_X11_years a0 a1 a2) (f2 := f_X12_years a0 a1 a2) (v := -1) hR ?_ ?_
    · unfold f_X11_years f_X11_years_J30
      rw [pc_within, wi_n hg, pe_bo, if_pos rfl]
    · unfold f_X12_years f_X12_years_J35
      rw [pe_let, pm_within, wi_n hg, pe_bo, if_pos rfl]
