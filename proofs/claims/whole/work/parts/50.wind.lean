/-! ===== wind ===== -/
def prN (f : Nat → Nat) : Nat → Nat
  | 0 => 1
  | n + 1 => prN f n * f n
theorem sumN_mul (f : Nat → Nat) (c : Nat) : ∀ n, sumN (fun s => f s * c) n = sumN f n * c
  | 0 => by simp [sumN]
  | n + 1 => by
    show sumN (fun s => f s * c) n + f n * c = (sumN f n + f n) * c
    rw [sumN_mul f c n, Nat.add_mul]
theorem sumN_congr {f g : Nat → Nat} : ∀ {n : Nat}, (∀ k, k < n → f k = g k) → sumN f n = sumN g n
  | 0, _ => rfl
  | n + 1, h => by
    show sumN f n + f n = sumN g n + g n
    rw [sumN_congr (fun k hk => h k (by omega)), h n (by omega)]
theorem sumN_ext {f : Nat → Nat} {n : Nat} : ∀ {m : Nat}, n ≤ m → (∀ w, n ≤ w → w < m → f w = 0) → sumN f m = sumN f n
  | 0, h, _ => by rw [show n = 0 by omega]
  | m + 1, h, hf => by
    by_cases e : n = m + 1
    · rw [e]
    · show sumN f m + f m = _
      rw [hf m (by omega) (by omega), Nat.add_zero]
      exact sumN_ext (by omega) (fun w a b => hf w a (by omega))
def wcF (w b s p : Nat) : Nat := if b.testBit p then (if s.testBit p then 10 - w else w) else 10
def wmF (w b s p : Nat) : Nat := if b.testBit p then (if s.testBit p then 10 - w else w) else 1
def w1F (b p : Nat) : Nat := if b.testBit p then 1 else 10
theorem wF_mul (w b s : Nat) : ∀ n, prN (wcF w b s) n = prN (wmF w b s) n * prN (w1F b) n
  | 0 => rfl
  | n + 1 => by
    show prN (wcF w b s) n * wcF w b s n = (prN (wmF w b s) n * wmF w b s n) * (prN (w1F b) n * w1F b n)
    rw [wF_mul w b s n]
    have : wcF w b s n = wmF w b s n * w1F b n := by
      unfold wcF wmF w1F
      split <;> simp
    rw [this, Nat.mul_assoc, Nat.mul_assoc]
    congr 1
    rw [Nat.mul_left_comm]
theorem w1F_6 : ∀ b, b < 64 → prN (w1F b) 6 = 10 ^ (6 - pcN b) ∧ pcN b ≤ 6 := by decide +kernel
theorem wmF_ext {w b s P : Nat} (hb : b < 2 ^ P) : ∀ n, prN (wmF w b s) (P + n) = prN (wmF w b s) P
  | 0 => rfl
  | n + 1 => by
    show prN (wmF w b s) (P + n) * wmF w b s (P + n) = _
    have : b.testBit (P + n) = false := Nat.testBit_lt_two_pow (Nat.lt_of_lt_of_le hb (Nat.pow_le_pow_right (by omega) (by omega)))
    rw [wmF_ext hb n, show wmF w b s (P + n) = 1 by unfold wmF; rw [this]; rfl, Nat.mul_one]
theorem wF_rel {w b s P : Nat} (hP : P ≤ 6) (hb : b < 2 ^ P) : prN (wcF w b s) 6 = prN (wmF w b s) P * 10 ^ (6 - pcN b) := by
  have h64 := pow6 hP
  rw [wF_mul, (w1F_6 b (by omega)).1]
  have := wmF_ext (w := w) (s := s) hb (6 - P)
  rw [show P + (6 - P) = 6 by omega] at this
  rw [this]
theorem wmF_le {w b s : Nat} (hw : w ≤ 10) : ∀ n, prN (wmF w b s) n ≤ 10 ^ n
  | 0 => Nat.le_refl _
  | n + 1 => by
    show prN (wmF w b s) n * wmF w b s n ≤ 10 ^ n * 10
    refine Nat.mul_le_mul (wmF_le hw n) ?_
    unfold wmF
    split
    · split <;> omega
    · omega
theorem wcF_le {w b s : Nat} (hw : w ≤ 10) : ∀ n, prN (wcF w b s) n ≤ 10 ^ n
  | 0 => Nat.le_refl _
  | n + 1 => by
    show prN (wcF w b s) n * wcF w b s n ≤ 10 ^ n * 10
    refine Nat.mul_le_mul (wcF_le hw n) ?_
    unfold wcF
    split
    · split <;> omega
    · omega
theorem part_b : ∀ s, s < 64 → ∀ b, b < 64 → ((n32 s &&& (n32 b ^^^ (-1 : Int32))) = 0 ↔ s &&& b = s) := by decide +kernel
theorem pc_part {s b : Nat} {m : mi_M} (hs : s < 64) (hb : b < 64) : f_X11_isPartOf (n32 s) (n32 b) m = some (if s &&& b = s then 1 else 0) := by
  unfold f_X11_isPartOf f_X11_isPartOf_J13
  simp only [part_b s hs b hb]
  rw [pe_g (by decide), pe_g (by decide)]
  split <;> rfl
theorem n32_Ls {w : Nat} (hw : w ≤ 10) : (10 : Int32) - n32 w = n32 (10 - w) := n32_sub (a := 10) hw
theorem pc_chance {w b s : Nat} {m : mi_M} (hw : w ≤ 10) : f_X2_chanceOf (n32 w) (n32 b) (n32 s) m = some (n32 (prN (wcF w b s) 6)) := by
  unfold f_X2_chanceOf
  apply pw_eq
  rw [pw_bo]
  refine pl_for (fun k s' => s' = (n32 (prN (wcF w b s) k), n32 k)) 6 (by omega) rfl ?_
  rintro k s' hk rfl
  unfold f_X2_chanceOf_B5 f_X2_chanceOf_J47 f_X2_chanceOf_J49
  simp (disch := omega) only [pc_holds, pw_bo, pw_if, pw_some, pw_let, n32_Lle, lr_r, lr_l, n32_al, n32_ml, n32_Ls hw, n32_mul]
  refine ⟨fun hx => ?_, fun hx => ?_⟩
  · have : k = 6 := by omega
    subst this
    unfold f_X2_chanceOf_K5
    rw [pw_some]
  · have es : prN (wcF w b s) (k + 1) = prN (wcF w b s) k * wcF w b s k := rfl
    rw [es]
    unfold wcF
    cases hb : b.testBit k <;> cases hs : s.testBit k <;> simp <;> omega
/-- what a set of lamps adds -/
def wdX (T : Nat → Nat) (b i j s : Nat) : Nat := if s &&& b = s ∧ cst T s i j < 1024 then prN (wcF (T 5) b s) 6 else 0
def wdY (T : Nat → Nat) (b i j s : Nat) : Nat := if s &&& b = s ∧ cst T s i j < 1024 then prN (wmF (T 5) b s) (T 0) else 0
theorem wd_rel {T : Nat → Nat} (hT : tOK T) {b i j : Nat} (hb : b < 2 ^ T 0) : sumN (wdX T b i j) 64 = sumN (wdY T b i j) (2 ^ T 0) * 10 ^ (6 - pcN b) := by
  have h60 := hT.1.1
  have h64 := pow6 h60
  rw [sumN_ext h64 (fun s a c => ?_), ← sumN_mul]
  · refine sumN_congr (fun s hs => ?_)
    unfold wdX wdY
    split
    · rw [wF_rel h60 hb]
    · simp
  · unfold wdX
    rw [if_neg]
    rintro ⟨x, -⟩
    have := Nat.and_le_right (n := s) (m := b)
    omega
theorem po_wind : ob_wind Rel := by
  rintro a0 a1 mem ⟨T, cd, c, y, hR⟩
  obtain ⟨h1, h2, h3, h4, h5, h6, ⟨S, hc, hm, hs⟩, h8, h9, h10⟩ := id hR
  have hT := h2.1.2.1
  have h60 := hT.1.1
  have hw10 := hT.1.2.2.2.2
  have h64 := pow6 h60
  have hp0 := Nat.two_pow_pos (T 0)
  obtain ⟨b, hb⟩ : ∃ b, b = lsA S 0 := ⟨_, rfl⟩
  have hbP : b < 2 ^ T 0 := by rw [hb, ← lsA_T hT hs (by omega)]; exact bs_lt _ _
  rcases two_or (T 0) a0 a1 with ⟨i, j, hi, hj, hij, rfl, rfl⟩ | hx
  · refine ob_ev (f1 := f_X11_wind (n32 i) (n32 j)) (f2 := f_X12_wind (n32 i) (n32 j)) hR (n32 (sumN (wdX T b i j) 64)) ?_ ?_
    · unfold f_X11_wind f_X11_wind_J33 f_X2_chanceInWind
      rw [h1.2.2.1, pe_g (n8 h1.1), pc_two h2.1.1 hT hi hj hij, pe_bo, if_neg (by decide), pe_g (n8 h1.1), show f_X5_burningBehind 0 0 mem = _ from pc_burning (n := 0) hc, pe_bo, ← hb]
      simp only [pw_b, pw_bo, pw_some]
      refine pl_for (fun k s => s.1 = n32 (sumN (wdX T b i j) k) ∧ s.2.1 = n32 k ∧ cT s.2.2 c T cd ∧ kp (fun k i _ => pcE c k i) mem s.2.2) 64 (by omega) ⟨rfl, rfl, h2, kp.rf⟩ ?_
      rintro k ⟨l4, l5, m1⟩ hk ⟨e1, e2, e3, e4⟩
      simp only at e1 e2 e3 e4
      subst e1 e2
      unfold f_X2_chanceInWind_B13 f_X2_chanceInWind_J61
      simp (disch := omega) only [pw_if, pw_some, pw_b, pw_bo, pw_let, n32_Lle, lr_r, lr_l, n32_al]
      refine ⟨fun hz => ?_, fun hz => ?_⟩
      · have : k = 64 := by omega
        subst this
        unfold f_X2_chanceInWind_K13
        simp only [pw_some]
        exact ⟨by trivial, e3, e4.mo (fun k i p a => Or.inl a)⟩
      · rw [pc_part (show k < 64 by omega) (show b < 64 by omega), pw_some]
        have es : sumN (wdX T b i j) (k + 1) = sumN (wdX T b i j) k + wdX T b i j k := rfl
        by_cases hp : k &&& b = k
        · rw [if_pos hp]
          refine ⟨fun x => absurd x (by decide), fun _ => ?_⟩
          refine pw_mono (pc_isLit e3 (show k < 64 by omega) (show i < 6 by omega) (show j < 6 by omega)) ?_
          rintro ⟨v, m2⟩ ⟨b1, b2, b3⟩
          simp only at b1 b2 b3
          by_cases hl : cst T k i j < 1024
          · rw [if_pos hl] at b1
            subst b1
            refine ⟨fun x => absurd (show (1 : Int32) = 0 from x) (by decide), fun _ => ?_⟩
            rw [b2.1.1.1.2.2.2.1, pc_chance hw10, pw_some, n32_add]
            refine ⟨by omega, ?_, by trivial, b2, e4.tr b3⟩
            rw [es]
            unfold wdX
            rw [if_pos ⟨hp, hl⟩]
          · rw [if_neg hl] at b1
            subst b1
            refine ⟨fun _ => ⟨by omega, ?_, by trivial, b2, e4.tr b3⟩, fun x => absurd rfl x⟩
            rw [es, show wdX T b i j k = 0 by unfold wdX; rw [if_neg (fun x => hl x.2)], Nat.add_zero]
        · rw [if_neg hp]
          refine ⟨fun _ => ⟨by omega, ?_, by trivial, e3, e4⟩, fun x => absurd (by trivial) x⟩
          rw [es, show wdX T b i j k = 0 by unfold wdX; rw [if_neg (fun x => hp x.1)], Nat.add_zero]
    · intro m1 R1 hmm
      obtain ⟨g1, g2, g3, -⟩ := R1
      have q1 : mTw (mi_wI m1 12 0 0 0) T := g3.1.1.mv kp_thr (fun p _ x => by omega)
      have q2 : mSt (mi_wI m1 12 0 0 0) 0 S := (hmm S 0 hm).mv kp_thr (fun p a b d => by omega)
      have hn6 := (w1F_6 b (by omega)).2
      unfold f_X12_wind
      rw [pe_let, pm_two q1 hT hi hj hij, pe_bo, if_neg (by decide), show f_X12_lampsOf 0 (mi_wI m1 12 0 0 0) = _ from pm_lampsOf (b := 0) q1 hT q2 hs (Nat.zero_le _), pe_bo, ← hb, pw_bo]
      refine pl_for (fun k s => s = (n64 (10 ^ k), n32 k)) (pcN b) (by omega) rfl ?_
      rintro k s hk rfl
      unfold f_X12_wind_B31
      simp (disch := omega) only [pm_bits (show b < 256 by omega), pw_bo, pw_if, pw_some, pw_let, n32_le, lr_r, lr_l, n32_al]
      refine ⟨fun hz => ?_, fun hz => ⟨by omega, ?_⟩⟩
      · have : k = pcN b := by omega
        subst this
        clear hz hk
        unfold f_X12_wind_K31
        rw [pw_bo]
        refine pl_for (fun k s => s.1 = n64 (sumN (wdY T b i j) k) ∧ s.2.1 = n32 k ∧ kp (fun k i p => pXm k i p) m1 s.2.2) (2 ^ T 0) (by omega) ⟨rfl, rfl, kp_thr⟩ ?_
        rintro k ⟨l8, l9, m2⟩ hk ⟨e1, e2, e4⟩
        simp only at e1 e2 e4
        subst e1 e2
        have t2 : mTw m2 T := g3.1.1.mv e4 (fun p _ x => by omega)
        unfold f_X12_wind_B57 f_X12_wind_J165
        simp (disch := omega) only [pm_people t2, sh_1, pw_if, pw_some, pw_b, pw_bo, n32_le, lr_r, lr_l, n32_al]
        refine ⟨fun hz => ?_, fun hz => ?_⟩
        · have : k = 2 ^ T 0 := by omega
          subst this
          unfold f_X12_wind_K57
          simp only [pw_g, pw_some]
          have hY : sumN (wdY T b i j) (2 ^ T 0) ≤ 64000000 := by
            have := sumN_le (f := wdY T b i j) (K := 1000000) (n := 2 ^ T 0) (fun s _ => by
              unfold wdY
              split
              · have a1 := wmF_le (w := T 5) (b := b) (s := s) hw10 (T 0)
                have a2 : 10 ^ T 0 ≤ 10 ^ 6 := Nat.pow_le_pow_right (by omega) h60
                omega
              · omega)
            have := Nat.mul_le_mul_right 1000000 h64
            omega
          have hX : sumN (wdX T b i j) 64 ≤ 64000000 := by
            have := sumN_le (f := wdX T b i j) (K := 1000000) (n := 64) (fun s _ => by
              unfold wdX
              split
              · have a1 := wcF_le (w := T 5) (b := b) (s := s) hw10 6
                omega
              · omega)
            omega
          have hrel := wd_rel hT (i := i) (j := j) hbP
          have h10p : 0 < 10 ^ pcN b := Nat.pow_pos (by omega)
          have h10q : 10 ^ pcN b ≤ 10 ^ 6 := Nat.pow_le_pow_right (by omega) hn6
          have h106 : (1000000 : Nat) = 10 ^ (6 - pcN b) * 10 ^ pcN b := by
            rw [← Nat.pow_add, show 6 - pcN b + pcN b = 6 by omega]
          refine ⟨by rw [n64_0 (by omega)]; omega, ?_, e4⟩
          rw [show (1000000 : Int64) = n64 1000000 from rfl, n64_mul, n64_div (by omega) (by omega)]
          have : sumN (wdY T b i j) (2 ^ T 0) * 1000000 / 10 ^ pcN b = sumN (wdX T b i j) 64 := by
            rw [hrel]
            conv => lhs; rw [h106]
            rw [← Nat.mul_assoc, Nat.mul_div_cancel _ h10p]
          rw [this, n64_32 (by omega)]
        · have hk2 : k < 2 ^ T 0 := by omega
          have es : sumN (wdY T b i j) (k + 1) = sumN (wdY T b i j) k + wdY T b i j k := rfl
          rw [part_b k (by omega) b (by omega)]
          refine ⟨fun hp => ?_, fun hp => ⟨hk2, ?_, by trivial, e4⟩⟩
          · refine pw_mono (pm_isLit t2 hT (show k < 64 by omega) (show i < 6 by omega) (show j < 6 by omega)) ?_
            rintro ⟨v, m3⟩ ⟨b1, b3⟩
            simp only at b1 b3
            have k3 : kp (fun k i p => pXm k i p) m1 m3 := e4.tr (b3.mo (fun k i p a => Or.inr (Or.inl a)))
            by_cases hl : cst T k i j < 1024
            · rw [if_pos hl] at b1
              subst b1
              refine ⟨fun x => absurd (show (1 : Int32) = 0 from x) (by decide), fun _ => ?_⟩
              have t3 : mTw m3 T := g3.1.1.mv k3 (fun p _ x => by omega)
              have w5 : m3.1 56 0 5 = n32 (T 5) := t3 5 (by omega) (by omega)
              refine pl_for (fun t s => s = (n64 (prN (wmF (T 5) b k) t), n32 t)) (T 0) (by omega) rfl ?_
              rintro t s ht rfl
              unfold f_X12_wind_B94 f_X12_wind_J148 f_X12_wind_J150
              simp (disch := omega) only [pm_people t3, pw_if, pw_some, pw_g, pw_bo, n32_le, lr_r, lr_l, n32_al, n32_lin, n32_lcl, tb_0, tb_1, w5, n32_Ls hw10, n32_64, n64_mul]
              have et : prN (wmF (T 5) b k) (t + 1) = prN (wmF (T 5) b k) t * wmF (T 5) b k t := rfl
              refine ⟨fun hy => ?_, fun hy => ⟨fun x => ⟨by omega, ?_⟩, fun x => ⟨fun z => ⟨by omega, by omega, ?_⟩, fun z => ⟨by omega, by omega, ?_⟩⟩⟩⟩
              · have : t = T 0 := by omega
                subst this
                unfold f_X12_wind_K94 f_X12_wind_J165
                simp only [pw_let, pw_some, lr_l, n64_add, n32_al]
                refine ⟨hk2, ?_, by trivial, k3⟩
                rw [es]
                unfold wdY
                rw [if_pos ⟨hp, hl⟩]
              · rw [et]; unfold wmF; rw [x]; simp
              · have x : b.testBit t = true := by simpa using x
                rw [et, show wmF (T 5) b k t = 10 - T 5 by unfold wmF; rw [x, z]; rfl]
              · have x : b.testBit t = true := by simpa using x
                have z : k.testBit t = false := by simpa using z
                rw [et, show wmF (T 5) b k t = T 5 by unfold wmF; rw [x, z]; rfl]
            · rw [if_neg hl] at b1
              subst b1
              refine ⟨fun _ => ⟨hk2, ?_, by trivial, k3⟩, fun x => absurd rfl x⟩
              rw [es, show wdY T b i j k = 0 by unfold wdY; rw [if_neg (fun x => hl x.2)], Nat.add_zero]
          · rw [es, show wdY T b i j k = 0 by unfold wdY; rw [if_neg (fun x => hp x.1)], Nat.add_zero]
      · rw [show (10 : Int64) = n64 10 from rfl, n64_mul]
        rfl
  · refine ob_ev (f1 := f_X11_wind a0 a1) (f2 := f_X12_wind a0 a1) hR (-1) ?_ ?_
    · unfold f_X11_wind f_X11_wind_J33
      rw [h1.2.2.1, pe_g (n8 h1.1), pc_two_n h2.1.1 hT hx, pe_bo, if_pos rfl, pw_some]
      exact ⟨rfl, h2, kp.rf⟩
    · intro m1 R1 hmm
      obtain ⟨g1, g2, g3, -⟩ := R1
      have q1 : mTw (mi_wI m1 12 0 0 0) T := g3.1.1.mv kp_thr (fun p _ x => by omega)
      unfold f_X12_wind
      rw [pe_let, pm_two_n q1 hT hx, pe_bo, if_pos rfl, pw_some]
      exact ⟨rfl, kp_thr⟩
