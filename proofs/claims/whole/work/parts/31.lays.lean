/-! ===== the reference's ways ===== -/
def mTw (m : mi_M) (T : Nat → Nat) : Prop := ∀ q, q < 100 → (q < 6 ∨ 8 < q) → m.1 56 0 q = n32 (T q)
theorem mTw.mv {m m' : mi_M} {T : Nat → Nat} {P : Nat → Nat → Nat → Prop} (h : mTw m T) (hk : kp P m m') (hp : ∀ p, p < 100 → ¬ P 56 0 p) : mTw m' T := fun q hq h2 => by rw [hk.1 56 0 q (hp q hq), h q hq h2]
theorem pm_people {m : mi_M} {T : Nat → Nat} (h : mTw m T) : f_X12_people m = some (n32 (T 0)) := by
  unfold f_X12_people
  rw [pe_g (P := vp_in (0 : Int32) 200) ((n32_in (k := 0) (by omega)).mpr (by omega))]
  exact congrArg some (h 0 (by omega) (by omega))
theorem pm_wrongs {m : mi_M} {T : Nat → Nat} (h : mTw m T) : f_X12_wrongs m = some (n32 (T 2)) := by
  unfold f_X12_wrongs
  rw [pe_g (P := vp_in (2 : Int32) 200) ((n32_in (k := 2) (by omega)).mpr (by omega))]
  exact congrArg some (h 2 (by omega) (by omega))
theorem pm_walks {m : mi_M} {T : Nat → Nat} (h : mTw m T) : f_X12_walks m = some (n32 (T 3)) := by
  unfold f_X12_walks
  rw [pe_g (P := vp_in (3 : Int32) 200) ((n32_in (k := 3) (by omega)).mpr (by omega))]
  exact congrArg some (h 3 (by omega) (by omega))
theorem pm_nearer {m : mi_M} {k d f D F : Nat} (hk : k < 36) (hd : d < 3000000) (hf : f < 3000000) (hD : D < 3000000) (hF : F < 3000000) (h1 : m.1 66 0 k = n32 D) (h2 : m.1 67 0 k = n32 F) : f_X12_isNearer (n32 k) (n32 d) (n32 f) m = some (if d < D ∨ (d = D ∧ f < F) then 1 else 0) := by
  unfold f_X12_isNearer f_X12_isNearer_J30 f_X12_isNearer_J34 f_X12_isNearer_J35
  have hin : vp_in (n32 k) 36 := (n32_in (by omega)).mpr hk
  simp (disch := omega) only [pe_g hin, n32_cl, h1, h2, n32_lt, n32_le, n32_eq]
  rw [pe_g (by decide), pe_g (by decide)]
  by_cases a : d < D
  · simp [a]
  · by_cases b : d = D
    · by_cases e : F ≤ f
      · simp [a, b, e, show ¬ f < F by omega]
      · simp [b, e, show f < F by omega]
    · simp [a, b]
def fdC (T : Nat → Nat) (b i j n : Nat) : Prop := lanQ T b i n + cst T b n j = cst T b i j
/-- the first door of a way -/
def FD (T : Nat → Nat) (b i j N : Nat) (lo : Nat) (x : Int32) : Prop := (∃ n, lo ≤ n ∧ n < N ∧ x = n32 n ∧ fdC T b i j n ∧ ∀ n', lo ≤ n' → n' < n → ¬ fdC T b i j n') ∨ (x = -1 ∧ ∀ n, lo ≤ n → n < N → ¬ fdC T b i j n)
theorem FD.un {T : Nat → Nat} {b i j N : Nat} {x y : Int32} (h : FD T b i j N 0 x) (h' : FD T b i j N 0 y) : x = y := by
  rcases h with ⟨n, -, h1, rfl, h2, h3⟩ | ⟨rfl, h1⟩
  · rcases h' with ⟨n', -, g1, rfl, g2, g3⟩ | ⟨rfl, g1⟩
    · have : n = n' := by
        by_cases a : n < n'
        · exact absurd h2 (g3 n (by omega) a)
        · by_cases a2 : n' < n
          · exact absurd g2 (h3 n' (by omega) a2)
          · omega
      rw [this]
    · exact absurd h2 (g1 n (by omega) h1)
  · rcases h' with ⟨n', -, g1, rfl, g2, g3⟩ | ⟨rfl, g1⟩
    · exact absurd g2 (h1 n' (by omega) g1)
    · rfl
theorem cst_df {T : Nat → Nat} (hT : lanOK T) {b i j : Nat} (hi : i < 6) (hj : j < 6) (h : cst T b i j < XX) : ∃ d f, cst T b i j = 1024 * d + f ∧ d ≤ f ∧ f ≤ 150 ∧ dO (cst T b i j) = d ∧ fO (cst T b i j) = f := by
  obtain ⟨d, f, h1, h2, h3⟩ := fl_df (lanQ_ok hT b) (Nat.le_refl 6) hi hj h
  have h1 : cst T b i j = 1024 * d + f := h1
  have h4 := dO_of (d := d) (f := f) (by rw [← h1]; exact h) (by omega)
  rw [h1]
  exact ⟨d, f, rfl, by omega, h3, h4.1, h4.2⟩
theorem cst_le {T : Nat → Nat} (hT : lanOK T) (b i j : Nat) : cst T b i j ≤ XX := fl_le (fun i j => ((lanQ_ok hT b) i j).1) 6 i j
def DF (m : mi_M) (g : Nat → Nat → Nat) : Prop := ∀ k, k < 36 → m.1 66 0 k = n32 (dO (g (k / 6) (k % 6))) ∧ m.1 67 0 k = n32 (fO (g (k / 6) (k % 6)))
theorem dO_lt {x : Nat} (h : x ≤ XX) : dO x ≤ 1000000 ∧ fO x ≤ 1000000 ∧ (1000000 ≤ dO x ↔ x = XX) := by
  have hX : XX = 1048576 := rfl
  unfold dO fO
  by_cases e : x < XX
  · rw [if_pos e, if_pos e]; omega
  · rw [if_neg e, if_neg e]; omega
abbrev pWy (k i : Nat) : Prop := (k = 66 ∨ k = 67 ∨ k = 68) ∧ i = 0
theorem pm_lays {b : Nat} {m : mi_M} {T : Nat → Nat} (hT : lanOK T) (hP : T 0 ≤ 6) (hb : b < 64) (h : mTw m T) : wo (f_X12_laysWays (n32 b) m) (fun m' => kp (fun k i _ => pWy k i) m m' ∧ DF m' (cst T b) ∧ ∀ i j, i < 6 → j < 6 → i ≠ j → cst T b i j < XX → FD T b i j 6 0 (m'.1 68 0 (6 * i + j))) := by
  have hX : XX = 1048576 := rfl
  have hle := fl_le (fun i j => ((lanQ_ok hT b) i j).1)
  unfold f_X12_laysWays
  rw [pw_bo]
  refine pl_for (fun k s => s.1 = n32 k ∧ kp (fun k i _ => pWy k i) m s.2 ∧ ∀ q, q < k → s.2.1 66 0 q = n32 (dO (fl (lanQ T b) 0 (q / 6) (q % 6))) ∧ s.2.1 67 0 q = n32 (fO (fl (lanQ T b) 0 (q / 6) (q % 6)))) 36 (by omega) ⟨rfl, kp.rf, fun _ h => absurd h (by omega)⟩ ?_
  rintro k ⟨l70, m1⟩ hk ⟨h1, hkp, hc⟩
  simp only at h1 hkp hc
  subst h1
  unfold f_X12_laysWays_B2
  simp (disch := omega) only [pw_if, pw_some, n32_Lle, lr_r, pw_g, pw_let, n32_la, n32_in, n32_cl, n32_dl, n32_ml, n32_sub, tb_1]
  refine ⟨fun hx => ?_, fun hx => ⟨by omega, ?_⟩⟩
  · have hk6 : k = 36 := by omega
    subst hk6
    clear hx
    unfold f_X12_laysWays_K2
    rw [pw_bo]
    replace hc : DF m1 (fl (lanQ T b) 0) := hc
    refine pl_for (fun k s => s.1 = n32 k ∧ kp (fun k i _ => pWy k i) m s.2 ∧ DF s.2 (fl (lanQ T b) k)) (T 0) (by omega) ⟨rfl, hkp, hc⟩ ?_
    clear hkp hc m1
    rintro y ⟨l41, m1⟩ hy ⟨h1, hkp, hc⟩
    simp only at h1 hkp hc
    subst h1
    have hm1 : mTw m1 T := h.mv hkp (by intro p _ x; omega)
    unfold f_X12_laysWays_B136
    simp (disch := omega) only [pm_people hm1, pw_bo, pw_some, pw_if, n32_le, lr_r]
    refine ⟨fun hx => ?_, fun hx => ?_⟩
    · have hyP : y = T 0 := by omega
      subst hyP
      have hend : ∀ i j, fl (lanQ T b) (T 0) i j = cst T b i j := by
        intro i j
        have hz := fl_end (W := lanQ T b) (fun i j => ((lanQ_ok hT b) i j).1) (P := T 0) (by
          intro i j _ hh
          unfold lanQ
          by_cases e : i < 6 ∧ j < 6
          · rw [if_pos e]
            unfold lanW
            rw [if_pos ((hT i j e.1 e.2).2 hh)]
          · rw [if_neg e]) (6 - T 0) i j
        rw [show T 0 + (6 - T 0) = 6 by omega] at hz
        exact hz.symm
      replace hc : DF m1 (cst T b) := fun k hk => by rw [← hend]; exact hc k hk
      clear hend hx
      unfold f_X12_laysWays_K136
      rw [pw_bo]
      refine pl_for (fun k s => s.1 = n32 k ∧ kp (fun k i _ => pWy k i) m s.2 ∧ DF s.2 (cst T b) ∧ ∀ i j, i < 6 → j < 6 → 6 * i + j < k → i ≠ j → cst T b i j < XX → FD T b i j 6 0 (s.2.1 68 0 (6 * i + j))) 36 (by omega) ⟨rfl, hkp, hc, fun _ _ _ _ h => absurd h (by omega)⟩ ?_
      clear hkp hc hm1 m1
      rintro k ⟨l4, m1⟩ hk ⟨h1, hkp, hc, hf⟩
      simp only at h1 hkp hc hf
      subst h1
      have hm1 : mTw m1 T := h.mv hkp (by intro p _ x; omega)
      unfold f_X12_laysWays_B294
      simp (disch := omega) only [pw_bo, pw_some, pw_if, n32_Lle, lr_r, pw_g, pw_let, n32_in, n32_cl]
      refine ⟨fun hx => ?_, fun hx => ⟨by omega, ?_⟩⟩
      · have hk6 : k = 36 := by omega
        subst hk6
        unfold f_X12_laysWays_K294
        rw [pw_some]
        exact ⟨hkp, hc, fun i j hi hj => hf i j hi hj (by omega)⟩
      · have hk6 : k < 36 := by omega
        have hm2 : mTw (mi_wI m1 68 0 k (-1)) T := fun q hq h2 => by rw [rI_ne (by omega)]; exact hm1 q hq h2
        rw [pm_people hm2, pw_some]
        have out : ∀ m2, kp (fun k i _ => pWy k i) m m2 → DF m2 (cst T b) → (∀ i j, i < 6 → j < 6 → 6 * i + j < k + 1 → i ≠ j → cst T b i j < XX → FD T b i j 6 0 (m2.1 68 0 (6 * i + j))) → wo (f_X12_laysWays_K314 (n32 k) m2) (lr (fun s' => k < 36 ∧ s'.1 = n32 (k + 1) ∧ kp (fun k i _ => pWy k i) m s'.2 ∧ DF s'.2 (cst T b) ∧ ∀ i j, i < 6 → j < 6 → 6 * i + j < k + 1 → i ≠ j → cst T b i j < XX → FD T b i j 6 0 (s'.2.1 68 0 (6 * i + j))) (fun e => wo (f_X12_laysWays_K294 e) (fun m' => kp (fun k i _ => pWy k i) m m' ∧ DF m' (cst T b) ∧ ∀ i j, i < 6 → j < 6 → i ≠ j → cst T b i j < XX → FD T b i j 6 0 (m'.1 68 0 (6 * i + j))))) := by
          intro m2 a1 a2 a3
          unfold f_X12_laysWays_K314
          rw [pw_some, lr_l]
          exact ⟨hk6, by rw [n32_al], a1, a2, a3⟩
        refine pl_for (fun z s => s.1 = n32 (T 0 - z) - 1 ∧ kp (fun k' i p => k' = 68 ∧ i = 0 ∧ p = k) m1 s.2 ∧ FD T b (k / 6) (k % 6) (T 0) (T 0 - z) (s.2.1 68 0 k)) (T 0) (by omega) ⟨rfl, kp.rf.wI ⟨rfl, rfl, rfl⟩, Or.inr ⟨rI_eq, fun n a c => absurd c (by omega)⟩⟩ ?_
        rintro z ⟨l11, m2⟩ hz ⟨h1, hkp2, hfd⟩
        simp only at h1 hkp2 hfd
        subst h1
        have hc2 : DF m2 (cst T b) := fun q hq => by rw [hkp2.1 66 0 q (by omega), hkp2.1 67 0 q (by omega)]; exact hc q hq
        have hkp3 : kp (fun k i _ => pWy k i) m m2 := hkp.tr (hkp2.mo (by intro k i p hh; omega))
        have hm3 : mTw m2 T := h.mv hkp3 (by intro p _ x; omega)
        have hf3 : ∀ i j, i < 6 → j < 6 → 6 * i + j < k → i ≠ j → cst T b i j < XX → FD T b i j 6 0 (m2.1 68 0 (6 * i + j)) := fun i j hi hj hlt a b => by rw [hkp2.1 68 0 _ (by omega)]; exact hf i j hi hj hlt a b
        unfold f_X12_laysWays_B314
        simp (disch := omega) only [pw_if, pw_some, lr_r, pw_g, pw_let, n32_in, n32_cl, n32_dl, n32_ml, n32_sub, n32_eq, (hc2 k hk6).1]
        have hcl := cst_le hT b (k / 6) (k % 6)
        have hd36 := dO_lt hcl
        refine ⟨fun hx => ?_, fun hx => ⟨fun hy => ?_, fun hy => ⟨by omega, ?_⟩⟩⟩
        · have hz0 : T 0 - z = 0 := by
            by_cases e : T 0 - z = 0
            · exact e
            · exfalso
              rw [show (1 : Int32) = n32 1 from rfl, n32_sub (by omega)] at hx
              exact (n32_nn (by omega)).mp hx
          refine out m2 hkp3 hc2 (fun i j hi hj hlt hne hlx => ?_)
          by_cases e : 6 * i + j = k
          · have e1 : k / 6 = i := by omega
            have e2 : k % 6 = j := by omega
            rw [e1, e2, hz0] at hfd
            rw [e]
            rcases hfd with ⟨n, q1, q2, q3, q4, q5⟩ | ⟨q1, q2⟩
            · exact Or.inl ⟨n, q1, by omega, q3, q4, q5⟩
            · refine Or.inr ⟨q1, fun n _ hn => ?_⟩
              by_cases a : n < T 0
              · exact q2 n (by omega) a
              · intro hh
                unfold fdC lanQ at hh
                rw [if_pos ⟨hi, hn⟩] at hh
                unfold lanW at hh
                rw [if_pos ((hT i n hi hn).2 (Or.inr (by omega)))] at hh
                omega
          · exact hf3 i j hi hj (by omega) hne hlx
        · refine out m2 hkp3 hc2 (fun i j hi hj hlt hne hlx => ?_)
          by_cases e : 6 * i + j = k
          · exact absurd hy (by omega)
          · exact hf3 i j hi hj (by omega) hne hlx
        · rw [show (1000000 : Int32) = n32 1000000 from rfl, n32_le (by omega) (by omega)]
          refine ⟨fun hw => ?_, fun hw => ?_⟩
          · refine out m2 hkp3 hc2 (fun i j hi hj hlt hne hlx => ?_)
            by_cases e : 6 * i + j = k
            · have e1 : k / 6 = i := by omega
              have e2 : k % 6 = j := by omega
              rw [e1, e2] at hd36 hw
              omega
            · exact hf3 i j hi hj (by omega) hne hlx
          · have hz1 : 1 ≤ T 0 - z := by
              by_cases e : T 0 - z = 0
              · exfalso
                rw [e] at hx
                exact hx (by decide)
              · omega
            obtain ⟨n, hn⟩ : ∃ n, n = T 0 - z - 1 := ⟨_, rfl⟩
            have e0 : n32 (T 0 - z) - 1 = n32 n := by rw [show (1 : Int32) = n32 1 from rfl, n32_sub hz1, hn]
            have hn6 : n < 6 := by omega
            rw [e0]
            have hi6 : k / 6 < 6 := by omega
            have hj6 : k % 6 < 6 := by omega
            have hv := hm3 (21 + 6 * (k / 6) + n) (by omega) (by omega)
            have hTv := (hT (k / 6) n hi6 hn6).1
            have hon := hc2 (6 * n + k % 6) (by omega)
            rw [show (6 * n + k % 6) / 6 = n by omega, show (6 * n + k % 6) % 6 = k % 6 by omega] at hon
            have hcn := cst_le hT b n (k % 6)
            have hdn := dO_lt hcn
            have hlt : cst T b (k / 6) (k % 6) < XX := by omega
            obtain ⟨d, f, x1, x2, x3, x4, x5⟩ := cst_df hT hi6 hj6 hlt
            have nxt : ∀ (is : Bool) (v : Int32), (is = true ↔ fdC T b (k / 6) (k % 6) n) → v = (if is then n32 n else m2.1 68 0 k) → wo (f_X12_laysWays_J491 (n32 k) (n32 n) m2 v) (lr (fun s' => z < T 0 ∧ s'.1 = n32 (T 0 - (z + 1)) - 1 ∧ kp (fun k' i p => k' = 68 ∧ i = 0 ∧ p = k) m1 s'.2 ∧ FD T b (k / 6) (k % 6) (T 0) (T 0 - (z + 1)) (s'.2.1 68 0 k)) (fun e => wo (f_X12_laysWays_K314 (n32 k) e) (lr (fun s' => k < 36 ∧ s'.1 = n32 (k + 1) ∧ kp (fun k i _ => pWy k i) m s'.2 ∧ DF s'.2 (cst T b) ∧ ∀ i j, i < 6 → j < 6 → 6 * i + j < k + 1 → i ≠ j → cst T b i j < XX → FD T b i j 6 0 (s'.2.1 68 0 (6 * i + j))) (fun e => wo (f_X12_laysWays_K294 e) (fun m' => kp (fun k i _ => pWy k i) m m' ∧ DF m' (cst T b) ∧ ∀ i j, i < 6 → j < 6 → i ≠ j → cst T b i j < XX → FD T b i j 6 0 (m'.1 68 0 (6 * i + j))))))) := by
              intro is v his hv2
              unfold f_X12_laysWays_J491
              simp (disch := omega) only [pw_some, pw_g, pw_let, n32_in, n32_cl, lr_l]
              refine ⟨hk6, by omega, ?_, hkp2.wI ⟨rfl, rfl, rfl⟩, ?_⟩
              · rw [show T 0 - (z + 1) = n by omega, Int32.sub_eq_add_neg]
              · rw [rI_eq, hv2, show T 0 - (z + 1) = n by omega]
                rw [show T 0 - z = n + 1 by omega] at hfd
                cases is with
                | true => exact Or.inl ⟨n, Nat.le_refl _, by omega, rfl, his.mp rfl, fun n' a c => absurd c (by omega)⟩
                | false =>
                  have hno : ¬ fdC T b (k / 6) (k % 6) n := fun hh => by have := his.mpr hh; cases this
                  rcases hfd with ⟨n0, q1, q2, q3, q4, q5⟩ | ⟨q1, q2⟩
                  · refine Or.inl ⟨n0, by omega, q2, q3, q4, fun n' a c => ?_⟩
                    by_cases e : n' = n
                    · rw [e]; exact hno
                    · exact q5 n' (by omega) c
                  · refine Or.inr ⟨q1, fun n' a c => ?_⟩
                    by_cases e : n' = n
                    · rw [e]; exact hno
                    · exact q2 n' (by omega) c
            have no : (¬ fdC T b (k / 6) (k % 6) n) → _ := fun hno => nxt false (m2.1 68 0 k) ⟨fun x => absurd x (by decide), fun x => absurd x hno⟩ rfl
            have yes : fdC T b (k / 6) (k % 6) n → _ := fun hyes => nxt true (n32 n) ⟨fun _ => hyes, fun _ => rfl⟩ rfl
            have hlq : lanQ T b (k / 6) n = lanW T b (k / 6) n := if_pos ⟨hi6, hn6⟩
            have cond : ∀ u : Nat, (u = if (b.testBit (k / 6) || b.testBit n) = true then 0 else T (21 + 6 * (k / 6) + n)) → 0 < T (21 + 6 * (k / 6) + n) → cst T b n (k % 6) < XX → (fdC T b (k / 6) (k % 6) n ↔ dO (cst T b n (k % 6)) + u = dO (cst T b (k / 6) (k % 6)) ∧ fO (cst T b n (k % 6)) + T (21 + 6 * (k / 6) + n) = fO (cst T b (k / 6) (k % 6))) := by
              intro u hu h0 hl
              obtain ⟨d', f', y1, y2, y3, y4, y5⟩ := cst_df hT hn6 hj6 hl
              rw [y4, y5, x4, x5]
              unfold fdC
              rw [hlq, y1, x1]
              unfold lanW
              rw [if_neg (by omega)]
              split at hu
              · rename_i hb1
                rw [if_pos hb1]
                omega
              · rename_i hb1
                rw [if_neg hb1]
                omega
            have go : ∀ (lit : Int32), (lit = 0 ↔ (b.testBit (k / 6) || b.testBit n) = false) → wo (f_X12_laysWays_J386 (n32 k) (n32 n) m2 (n32 (T (21 + 6 * (k / 6) + n))) lit) (lr (fun s' => z < T 0 ∧ s'.1 = n32 (T 0 - (z + 1)) - 1 ∧ kp (fun k' i p => k' = 68 ∧ i = 0 ∧ p = k) m1 s'.2 ∧ FD T b (k / 6) (k % 6) (T 0) (T 0 - (z + 1)) (s'.2.1 68 0 k)) (fun e => wo (f_X12_laysWays_K314 (n32 k) e) (lr (fun s' => k < 36 ∧ s'.1 = n32 (k + 1) ∧ kp (fun k i _ => pWy k i) m s'.2 ∧ DF s'.2 (cst T b) ∧ ∀ i j, i < 6 → j < 6 → 6 * i + j < k + 1 → i ≠ j → cst T b i j < XX → FD T b i j 6 0 (s'.2.1 68 0 (6 * i + j))) (fun e => wo (f_X12_laysWays_K294 e) (fun m' => kp (fun k i _ => pWy k i) m m' ∧ DF m' (cst T b) ∧ ∀ i j, i < 6 → j < 6 → i ≠ j → cst T b i j < XX → FD T b i j 6 0 (m'.1 68 0 (6 * i + j))))))) := by
              intro lit hlit
              unfold f_X12_laysWays_J386 f_X12_laysWays_J468 f_X12_laysWays_J469
              simp (disch := omega) only [pw_if, pw_let, pw_g, n32_dl, n32_ml, n32_lm, n32_sub, n32_add, n32_in, n32_cl]
              rw [show 6 * n + (k - k / 6 * 6) = 6 * n + k % 6 by omega, hon.1, show (0 : Int32) = n32 0 from rfl, n32_le (by omega) (by omega), show (1000000 : Int32) = n32 1000000 from rfl, n32_le (by omega) (by omega)]
              refine ⟨fun e1 => ⟨fun _ => ⟨by omega, no ?_⟩, fun x => absurd (by trivial) x⟩, fun e1 => ⟨by omega, fun e2 => ⟨fun _ => ⟨by omega, no ?_⟩, fun x => absurd (by trivial) x⟩, fun e2 => ⟨by omega, fun e3 => ?_, fun e3 => ?_⟩⟩⟩
              · intro hh
                unfold fdC at hh
                rw [hlq] at hh
                unfold lanW at hh
                rw [if_pos (by omega)] at hh
                omega
              · intro hh
                unfold fdC at hh
                omega
              · have cd := cond (T (21 + 6 * (k / 6) + n)) (by rw [hlit.mp e3]; rfl) (by omega) (by omega)
                unfold f_X12_laysWays_J435 f_X12_laysWays_J468 f_X12_laysWays_J469
                simp (disch := omega) only [pw_if, pw_g, n32_in, n32_cl, hon.1, hon.2, (hc2 k hk6).1, (hc2 k hk6).2, n32_add, n32_eq]
                refine ⟨hk6, fun a1 => ⟨by omega, hk6, fun a2 => ⟨fun x => absurd x (by decide), fun _ => yes (cd.mpr ⟨a1, a2⟩)⟩, fun a2 => ⟨fun _ => ⟨hk6, no (fun hh => a2 (cd.mp hh).2)⟩, fun x => absurd (by trivial) x⟩⟩, fun a1 => ⟨fun _ => ⟨hk6, no (fun hh => a1 (cd.mp hh).1)⟩, fun x => absurd (by trivial) x⟩⟩
              · have hl1 : (b.testBit (k / 6) || b.testBit n) = true := by
                  cases q : (b.testBit (k / 6) || b.testBit n) with
                  | true => rfl
                  | false => exact absurd (hlit.mpr q) e3
                have cd := cond 0 (by rw [hl1]; rfl) (by omega) (by omega)
                unfold f_X12_laysWays_J435 f_X12_laysWays_J468 f_X12_laysWays_J469
                simp (disch := omega) only [pw_if, pw_g, n32_in, n32_cl, hon.1, hon.2, (hc2 k hk6).1, (hc2 k hk6).2, n32_add, n32_eq, show (0 : Int32) = n32 0 from rfl]
                refine ⟨hk6, fun a1 => ⟨by omega, hk6, fun a2 => ⟨fun x => absurd x (by decide), fun _ => yes (cd.mpr ⟨a1, a2⟩)⟩, fun a2 => ⟨fun _ => ⟨hk6, no (fun hh => a2 (cd.mp hh).2)⟩, fun x => absurd (by trivial) x⟩⟩, fun a1 => ⟨fun _ => ⟨hk6, no (fun hh => a1 (cd.mp hh).1)⟩, fun x => absurd (by trivial) x⟩⟩
            simp (disch := omega) only [n32_lm, n32_la, n32_add, n32_in, n32_cl, hv, tb_1]
            unfold f_X12_laysWays_J381
            refine ⟨by omega, fun a1 => go 1 ⟨fun x => absurd x (by decide), fun x => by rw [a1] at x; exact absurd x (by simp)⟩, fun a1 => ⟨fun a2 => go 1 ⟨fun x => absurd x (by decide), fun x => by rw [a2, Bool.or_true] at x; exact absurd x (by simp)⟩, fun a2 => go 0 ⟨fun _ => by simp [a1, a2], fun _ => rfl⟩⟩⟩
    · have hy : y < T 0 := by omega
      refine pl_for (fun k s => s.1 = n32 k ∧ kp (fun k i _ => pWy k i) m s.2 ∧ ∀ q, q < 36 → s.2.1 66 0 q = n32 (dO (if q < k then fl (lanQ T b) (y + 1) (q / 6) (q % 6) else fl (lanQ T b) y (q / 6) (q % 6))) ∧ s.2.1 67 0 q = n32 (fO (if q < k then fl (lanQ T b) (y + 1) (q / 6) (q % 6) else fl (lanQ T b) y (q / 6) (q % 6)))) 36 (by omega) ⟨rfl, hkp, fun q hq => hc q hq⟩ ?_
      clear hkp hc hm1 m1 hx
      rintro k ⟨l45, m1⟩ hk ⟨h1, hkp, hc⟩
      simp only at h1 hkp hc
      subst h1
      unfold f_X12_laysWays_B146 f_X12_laysWays_J280
      simp (disch := omega) only [pw_bo, pw_some, pw_if, n32_Lle, lr_r, lr_l, pw_g, pw_let, n32_dl, n32_lm, n32_ml, n32_sub, n32_add, n32_in, n32_cl]
      refine ⟨fun hx => ?_, fun hx => ?_⟩
      · have hk6 : k = 36 := by omega
        subst hk6
        unfold f_X12_laysWays_K146
        rw [pw_some, lr_l]
        refine ⟨hy, by rw [n32_al], hkp, fun q hq => ?_⟩
        have := hc q hq
        rw [if_pos hq] at this
        exact this
      · have hk6 : k < 36 := by omega
        have hi6 : k / 6 < 6 := by omega
        have hj6 : k % 6 < 6 := by omega
        rw [show k - k / 6 * 6 = k % 6 by omega]
        have ha : m1.1 66 0 (6 * (k / 6) + y) = n32 (dO (fl (lanQ T b) y (k / 6) y)) ∧ m1.1 67 0 (6 * (k / 6) + y) = n32 (fO (fl (lanQ T b) y (k / 6) y)) := by
          have := hc (6 * (k / 6) + y) (by omega)
          rw [show (6 * (k / 6) + y) / 6 = k / 6 by omega, show (6 * (k / 6) + y) % 6 = y by omega, fl_col, ite_self] at this
          exact this
        have hbb : m1.1 66 0 (6 * y + k % 6) = n32 (dO (fl (lanQ T b) y y (k % 6))) ∧ m1.1 67 0 (6 * y + k % 6) = n32 (fO (fl (lanQ T b) y y (k % 6))) := by
          have := hc (6 * y + k % 6) (by omega)
          rw [show (6 * y + k % 6) / 6 = y by omega, show (6 * y + k % 6) % 6 = k % 6 by omega, fl_row, ite_self] at this
          exact this
        have hcc := hc k hk6
        rw [if_neg (by omega)] at hcc
        have l1 := hle y (k / 6) y
        have l2 := hle y y (k % 6)
        have l3 := hle y (k / 6) (k % 6)
        have d1 := dO_lt l1
        have d2 := dO_lt l2
        have d3 := dO_lt l3
        have hmin : fl (lanQ T b) (y + 1) (k / 6) (k % 6) = min (fl (lanQ T b) y (k / 6) (k % 6)) (fl (lanQ T b) y (k / 6) y + fl (lanQ T b) y y (k % 6)) := rfl
        have g1 := fun (_ : Unit) hh => fl_df (lanQ_ok hT b) (k := y) (by omega) hi6 (show y < 6 by omega) hh
        have g2 := fun (_ : Unit) hh => fl_df (lanQ_ok hT b) (k := y) (by omega) (show y < 6 by omega) hj6 hh
        have g3 := fun (_ : Unit) hh => fl_df (lanQ_ok hT b) (k := y) (by omega) hi6 hj6 hh
        generalize fl (lanQ T b) y (k / 6) y = A at *
        generalize fl (lanQ T b) y y (k % 6) = B at *
        generalize hC : fl (lanQ T b) y (k / 6) (k % 6) = C at *
        have same : fl (lanQ T b) (y + 1) (k / 6) (k % 6) = C → k < 36 ∧ n32 k + 1 = n32 (k + 1) ∧ kp (fun k i _ => pWy k i) m m1 ∧ ∀ q, q < 36 → m1.1 66 0 q = n32 (dO (if q < k + 1 then fl (lanQ T b) (y + 1) (q / 6) (q % 6) else fl (lanQ T b) y (q / 6) (q % 6))) ∧ m1.1 67 0 q = n32 (fO (if q < k + 1 then fl (lanQ T b) (y + 1) (q / 6) (q % 6) else fl (lanQ T b) y (q / 6) (q % 6))) := by
          intro hs
          refine ⟨hk6, by rw [n32_al], hkp, fun q hq => ?_⟩
          by_cases e : q = k
          · subst e
            rw [if_pos (by omega), hs]
            exact hcc
          · have := hc q hq
            by_cases e2 : q < k
            · rw [if_pos e2] at this
              rw [if_pos (by omega)]
              exact this
            · rw [if_neg e2] at this
              rw [if_neg (by omega)]
              exact this
        rw [ha.1, ha.2, hbb.1, hbb.2, show (1000000 : Int32) = n32 1000000 from rfl]
        simp (disch := omega) only [n32_le, n32_add, pm_nearer (m := m1) hk6 (show dO A + dO B < 3000000 by omega) (show fO A + fO B < 3000000 by omega) (by omega) (by omega) hcc.1 hcc.2, pw_some, pw_bo]
        refine ⟨by omega, fun e1 => same (by omega), fun e1 => ⟨by omega, fun e2 => same (by omega), fun e2 => ⟨by omega, by omega, by omega, by omega, ?_⟩⟩⟩
        obtain ⟨p1, q1, x1, y1, z1⟩ := g1 () (by omega)
        obtain ⟨p2, q2, x2, y2, z2⟩ := g2 () (by omega)
        have s1 := dO_of (d := p1) (f := q1) (by omega) (by omega)
        have s2 := dO_of (d := p2) (f := q2) (by omega) (by omega)
        rw [← x1] at s1
        rw [← x2] at s2
        have s3 := dO_of (d := p1 + p2) (f := q1 + q2) (by omega) (by omega)
        have key : (dO A + dO B < dO C ∨ dO A + dO B = dO C ∧ fO A + fO B < fO C) ↔ A + B < C := by
          by_cases e : C < XX
          · obtain ⟨p3, q3, x3, y3, z3⟩ := g3 () e
            have s4 := dO_of (d := p3) (f := q3) (by omega) (by omega)
            rw [← x3] at s4
            omega
          · have e : C = XX := by omega
            rw [e, dO_XX.1, dO_XX.2]
            omega
        refine ⟨fun e3 => same ?_, fun e3 => ⟨by omega, by omega, by omega, by omega, by omega, by omega, hk6, by rw [n32_al], (hkp.wI ⟨Or.inl rfl, rfl⟩).wI ⟨Or.inr (Or.inl rfl), rfl⟩, fun q hq => ?_⟩⟩
        · have : ¬ (dO A + dO B < dO C ∨ dO A + dO B = dO C ∧ fO A + fO B < fO C) := by
            intro hh
            rw [if_pos hh] at e3
            exact absurd e3 (by decide)
          rw [key] at this
          omega
        · have hlt : A + B < C := by
            refine key.mp ?_
            by_cases hh : dO A + dO B < dO C ∨ dO A + dO B = dO C ∧ fO A + fO B < fO C
            · exact hh
            · rw [if_neg hh] at e3
              exact absurd rfl e3
          have hv : fl (lanQ T b) (y + 1) (k / 6) (k % 6) = 1024 * (p1 + p2) + (q1 + q2) := by omega
          by_cases e : q = k
          · subst e
            rw [rI_ne (by omega), rI_eq, rI_eq, if_pos (by omega), hv, s3.1, s3.2, rI_ne (by omega), rI_ne (by omega), ha.2, hbb.2, n32_add, s1.1, s1.2, s2.1, s2.2]
            exact ⟨rfl, rfl⟩
          · rw [rI_ne (by omega), rI_ne (by omega), rI_ne (by omega), rI_ne (by omega)]
            have := hc q hq
            by_cases e2 : q < k
            · rw [if_pos e2] at this
              rw [if_pos (by omega)]
              exact this
            · rw [if_neg e2] at this
              rw [if_neg (by omega)]
              exact this
  · have hk6 : k < 36 := by omega
    have hi6 : k / 6 < 6 := by omega
    have hj6 : k % 6 < 6 := by omega
    have hv : m1.1 56 0 (21 + k) = n32 (T (21 + 6 * (k / 6) + k % 6)) := by
      rw [hkp.1 56 0 _ (by omega), h _ (by omega) (by omega), show 21 + 6 * (k / 6) + k % 6 = 21 + k by omega]
    have h30 := (hT (k / 6) (k % 6) hi6 hj6).1
    rw [hv, show k - k / 6 * 6 = k % 6 by omega]
    have fin : ∀ lit : Int32, (lit = 0 ↔ (b.testBit (k / 6) || b.testBit (k % 6)) = false) → wo (f_X12_laysWays_J47 (n32 k) m1 (n32 (T (21 + 6 * (k / 6) + k % 6))) lit) (lr (fun s' => k < 36 ∧ s'.1 = n32 (k + 1) ∧ kp (fun k i _ => pWy k i) m s'.2 ∧ ∀ q, q < k + 1 → s'.2.1 66 0 q = n32 (dO (fl (lanQ T b) 0 (q / 6) (q % 6))) ∧ s'.2.1 67 0 q = n32 (fO (fl (lanQ T b) 0 (q / 6) (q % 6)))) (fun e => wo (f_X12_laysWays_K2 (n32 b) e) (fun m' => kp (fun k i _ => pWy k i) m m' ∧ DF m' (cst T b) ∧ ∀ i j, i < 6 → j < 6 → i ≠ j → cst T b i j < XX → FD T b i j 6 0 (m'.1 68 0 (6 * i + j))))) := by
      intro lit hlit
      have put : ∀ x y : Int32, x = n32 (dO (fl (lanQ T b) 0 (k / 6) (k % 6))) → y = n32 (fO (fl (lanQ T b) 0 (k / 6) (k % 6))) → wo (f_X12_laysWays_J127 (n32 k) (mi_wI m1 66 0 k x) y) (lr (fun s' => k < 36 ∧ s'.1 = n32 (k + 1) ∧ kp (fun k i _ => pWy k i) m s'.2 ∧ ∀ q, q < k + 1 → s'.2.1 66 0 q = n32 (dO (fl (lanQ T b) 0 (q / 6) (q % 6))) ∧ s'.2.1 67 0 q = n32 (fO (fl (lanQ T b) 0 (q / 6) (q % 6)))) (fun e => wo (f_X12_laysWays_K2 (n32 b) e) (fun m' => kp (fun k i _ => pWy k i) m m' ∧ DF m' (cst T b) ∧ ∀ i j, i < 6 → j < 6 → i ≠ j → cst T b i j < XX → FD T b i j 6 0 (m'.1 68 0 (6 * i + j))))) := by
        intro x y hx2 hy2
        unfold f_X12_laysWays_J127
        simp (disch := omega) only [pw_some, pw_g, pw_let, n32_in, n32_cl, lr_l]
        refine ⟨hk6, hk6, by rw [n32_al], (hkp.wI ⟨Or.inl rfl, rfl⟩).wI ⟨Or.inr (Or.inl rfl), rfl⟩, fun q hq => ?_⟩
        by_cases e : q = k
        · subst e
          rw [rI_ne (by omega), rI_eq, rI_eq]
          exact ⟨hx2, hy2⟩
        · rw [rI_ne (by omega), rI_ne (by omega), rI_ne (by omega), rI_ne (by omega)]
          exact hc q (by omega)
      have hlq : lanQ T b (k / 6) (k % 6) = lanW T b (k / 6) (k % 6) := if_pos ⟨hi6, hj6⟩
      unfold f_X12_laysWays_J47 f_X12_laysWays_J65 f_X12_laysWays_J101
      simp (disch := omega) only [pw_if, pw_g, pw_let, n32_dl, n32_ml, n32_sub, n32_eq, n32_in, n32_cl]
      rw [show k - k / 6 * 6 = k % 6 by omega, show (0 : Int32) = n32 0 from rfl, n32_eq (by omega) (by omega)]
      refine ⟨fun e1 => ⟨fun x => absurd x (by decide), fun _ => ⟨hk6, fun x => absurd x (by decide), fun _ => put _ _ ?_ ?_⟩⟩, fun e1 => ⟨fun _ => ⟨fun e2 => ⟨hk6, fun _ => ⟨fun _ => put _ _ ?_ ?_, fun x => absurd e2 x⟩, fun x => absurd (by trivial) x⟩, fun e2 => ⟨fun e3 => ⟨hk6, fun _ => ⟨fun x => absurd x e2, fun _ => put _ _ ?_ ?_⟩, fun x => absurd (by trivial) x⟩, fun e3 => ⟨hk6, fun _ => ⟨fun x => absurd x e2, fun _ => put _ _ ?_ ?_⟩, fun x => absurd (by trivial) x⟩⟩⟩, fun x => absurd (by trivial) x⟩⟩
      · rw [e1, fl_ii]; rfl
      · rw [e1, fl_ii]; rfl
      · unfold fl; rw [if_neg e1, hlq]; unfold lanW; rw [if_pos e2, dO_XX.1]; rfl
      · unfold fl; rw [if_neg e1, hlq]; unfold lanW; rw [if_pos e2, dO_XX.2]; rfl
      · unfold fl; rw [if_neg e1, hlq]; unfold lanW; rw [if_neg e2, hlit.mp e3]
        have := (dO_of (d := T (21 + 6 * (k / 6) + k % 6)) (f := T (21 + 6 * (k / 6) + k % 6)) (by omega) (by omega)).1
        rw [show 1024 * T (21 + 6 * (k / 6) + k % 6) + T (21 + 6 * (k / 6) + k % 6) = T (21 + 6 * (k / 6) + k % 6) * 1025 by omega] at this
        simp [this]
      · unfold fl; rw [if_neg e1, hlq]; unfold lanW; rw [if_neg e2, hlit.mp e3]
        have := (dO_of (d := T (21 + 6 * (k / 6) + k % 6)) (f := T (21 + 6 * (k / 6) + k % 6)) (by omega) (by omega)).2
        rw [show 1024 * T (21 + 6 * (k / 6) + k % 6) + T (21 + 6 * (k / 6) + k % 6) = T (21 + 6 * (k / 6) + k % 6) * 1025 by omega] at this
        simp [this]
      · have hl : (b.testBit (k / 6) || b.testBit (k % 6)) = true := by
          cases q : (b.testBit (k / 6) || b.testBit (k % 6)) with
          | true => rfl
          | false => exact absurd (hlit.mpr q) e3
        unfold fl; rw [if_neg e1, hlq]; unfold lanW; rw [if_neg e2, if_pos hl]
        have := (dO_of (d := 0) (f := T (21 + 6 * (k / 6) + k % 6)) (by omega) (by omega)).1
        rw [show 1024 * 0 + T (21 + 6 * (k / 6) + k % 6) = T (21 + 6 * (k / 6) + k % 6) by omega] at this
        rw [this]
      · have hl : (b.testBit (k / 6) || b.testBit (k % 6)) = true := by
          cases q : (b.testBit (k / 6) || b.testBit (k % 6)) with
          | true => rfl
          | false => exact absurd (hlit.mpr q) e3
        unfold fl; rw [if_neg e1, hlq]; unfold lanW; rw [if_neg e2, if_pos hl]
        have := (dO_of (d := 0) (f := T (21 + 6 * (k / 6) + k % 6)) (by omega) (by omega)).2
        rw [show 1024 * 0 + T (21 + 6 * (k / 6) + k % 6) = T (21 + 6 * (k / 6) + k % 6) by omega] at this
        rw [this]
    unfold f_X12_laysWays_J42
    refine ⟨fun a1 => fin 1 ⟨fun x => absurd x (by decide), fun x => by rw [a1] at x; exact absurd x (by simp)⟩, fun a1 => ⟨fun a2 => fin 1 ⟨fun x => absurd x (by decide), fun x => by rw [a2, Bool.or_true] at x; exact absurd x (by simp)⟩, fun a2 => fin 0 ⟨fun _ => by simp [a1, a2], fun _ => rfl⟩⟩⟩
