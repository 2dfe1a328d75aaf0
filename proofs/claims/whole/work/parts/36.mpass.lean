/-! ===== the reference's night, copies; the developers' copies; what is within ===== -/
theorem pm_passes {m : mi_M} {T : Nat → Nat} {cd : Nat → List Int32} {S : Nat → Int32} {b : Nat} (h : mT m T cd) (hS : mSt m b S) (hs : sOK T S) (hb : b ≤ 1400) : wo (f_X12_passes (n32 b) m) (fun r => r.1 = n32 (hmN T (lsA S 0)) ∧ mSt r.2 b (aSleep T cd S) ∧ kp (fun k i p => pmE k i ∨ pmS b k i p) m r.2) := by
  have hT := h.1.2.1
  have h8 := hT.1.2.1
  have h60 := hT.1.1
  unfold f_X12_passes
  rw [pm_lampsOf h.1.1 hT hS hs hb, pe_bo, pw_b]
  refine pw_mono (pm_harmBy h.1.1 hT (lsA_lt S 0)) ?_
  rintro ⟨v, m1⟩ ⟨a1, a2⟩
  simp only at a1 a2
  subst a1
  have S1 := hS.fr a2
  simp (disch := omega) only [pw_g, pw_let, pw_bo, n32_al, n32_in, n32_cl]
  rw [S1 1 (by omega)]
  refine ⟨by omega, by omega, ?_⟩
  have k1 : kp (fun k i p => pmE k i ∨ pmS b k i p) m (mi_wI m1 64 0 (b + 1) (S 1 + n32 (hmN T (lsA S 0)))) := (a2.mo (fun k i p a => Or.inl a)).wI (Or.inr ⟨rfl, rfl, by omega, by omega⟩)
  refine pl_for (fun k s => s.1 = n32 k ∧ kp (fun k i p => pmE k i ∨ pmS b k i p) m s.2 ∧ mSt s.2 b (fun q => if q = 1 ∨ (2 ≤ q ∧ q < 2 + k) then aSleep T cd S q else S q)) (T 0) (by omega) ⟨rfl, k1, ?_⟩ ?_
  · intro q hq
    dsimp only
    rw [rI]
    by_cases e : q = 1
    · subst e
      rw [if_pos ⟨rfl, rfl, rfl⟩, if_pos (Or.inl rfl)]; rfl
    · rw [if_neg (by omega), if_neg (by omega)]; exact S1 q hq
  clear k1 S1 a2 m1
  rintro k ⟨l32, m1⟩ hk ⟨e1, k1, s1⟩
  simp only at e1 k1
  replace s1 : ∀ q, q < 38 → m1.1 64 0 (b + q) = if q = 1 ∨ (2 ≤ q ∧ q < 2 + k) then aSleep T cd S q else S q := s1
  subst e1
  have h1 : mT m1 T cd := h.mv k1 (fun k i p a b d => by omega)
  unfold f_X12_passes_B24 f_X12_passes_J61
  simp (disch := omega) only [pm_people h1.1.1, pw_if, pw_some, pw_g, pw_let, pw_bo, n32_le, lr_r, lr_l, n32_add, n32_in, n32_cl, n32_al]
  rw [show b + 2 + k = b + (2 + k) by omega]
  refine ⟨fun hx => ?_, fun hx => ⟨by omega, by omega, ?_⟩⟩
  · have : k = T 0 := by omega
    subst this
    clear hx
    have s2 : ∀ q, q < 38 → m1.1 64 0 (b + q) = if q = 1 ∨ (2 ≤ q ∧ q < 8) then aSleep T cd S q else S q := by
      intro q hq
      rw [s1 q hq]
      by_cases e : q = 1 ∨ (2 ≤ q ∧ q < 2 + T 0)
      · rw [if_pos e, if_pos (by omega)]
      · rw [if_neg e]
        by_cases e2 : q = 1 ∨ (2 ≤ q ∧ q < 8)
        · rw [if_pos e2]
          have z := (hs.2.1 (q - 2) (by omega) (by omega)).1
          rw [show 2 + (q - 2) = q by omega] at z
          unfold aSleep
          rw [if_neg (by omega), if_neg (by omega), if_pos (by omega), z]
          rfl
        · rw [if_neg e2]
    clear s1
    unfold f_X12_passes_K24
    rw [pw_bo]
    refine pl_for (fun k s => s.1 = n32 k ∧ kp (fun k i p => pmE k i ∨ pmS b k i p) m s.2 ∧ mSt s.2 b (fun q => if q = 1 ∨ (2 ≤ q ∧ q < 8) ∨ (14 ≤ q ∧ q < 14 + k) ∨ (30 ≤ q ∧ q < 30 + k) then aSleep T cd S q else S q)) (T 2) (by omega) ⟨rfl, k1, ?_⟩ ?_
    · intro q hq
      dsimp only
      rw [s2 q hq]
      by_cases e : q = 1 ∨ (2 ≤ q ∧ q < 8)
      · rw [if_pos e, if_pos (by omega)]
      · rw [if_neg e, if_neg (by omega)]
    clear k1 s2 h1 m1
    rintro k ⟨l12, m1⟩ hk ⟨e1, k1, s1⟩
    simp only at e1 k1
    have s0 := s1
    replace s1 : ∀ q, q < 38 → m1.1 64 0 (b + q) = if q = 1 ∨ (2 ≤ q ∧ q < 8) ∨ (14 ≤ q ∧ q < 14 + k) ∨ (30 ≤ q ∧ q < 30 + k) then aSleep T cd S q else S q := s1
    subst e1
    have h1 : mT m1 T cd := h.mv k1 (fun k i p a b d => by omega)
    unfold f_X12_passes_B71
    simp (disch := omega) only [pm_wrongs h1.1.1, pw_if, pw_some, pw_g, pw_let, pw_bo, pw_b, n32_le, lr_r, n32_add, n32_in, n32_cl, n32_al]
    refine ⟨fun hx => ?_, fun hx => ?_⟩
    · have : k = T 2 := by omega
      subst this
      unfold f_X12_passes_K71
      simp (disch := omega) only [pw_g, pw_let, pw_some, n32_al, n32_in, n32_cl]
      rw [s1 0 (by omega), if_neg (by omega)]
      refine ⟨by omega, by omega, by trivial, ?_, k1.wI (Or.inr ⟨rfl, rfl, by omega, by omega⟩)⟩
      intro q hq
      rw [rI]
      by_cases e : q = 0
      · subst e
        rw [if_pos ⟨rfl, rfl, rfl⟩]; rfl
      · rw [if_neg (by omega), s1 q hq]
        by_cases e2 : q = 1 ∨ (2 ≤ q ∧ q < 8) ∨ (14 ≤ q ∧ q < 14 + T 2) ∨ (30 ≤ q ∧ q < 30 + T 2)
        · rw [if_pos e2]
        · rw [if_neg e2]
          unfold aSleep
          rw [if_neg e, if_neg (by omega), if_neg (by omega)]
          by_cases e3 : q < 14
          · rw [if_pos e3]
          · rw [if_neg e3]
            by_cases e4 : q < 22
            · rw [if_pos e4, if_neg (by omega)]
            · rw [if_neg e4]
              by_cases e5 : q < 30
              · rw [if_pos e5]
              · rw [if_neg e5]
                have z := (hs.2.2.2.2.2 (q - 30) (by omega) (by omega)).2
                rw [show 30 + (q - 30) = q by omega] at z
                exact z
    · have hk : k < T 2 := by omega
      have fin : ∀ m2, kp (fun k i p => pmE k i ∨ pmS b k i p) m m2 → mSt m2 b (fun q => if q = 1 ∨ (2 ≤ q ∧ q < 8) ∨ (14 ≤ q ∧ q < 14 + (k + 1)) ∨ (30 ≤ q ∧ q < 30 + k) then aSleep T cd S q else S q) → wo (f_X12_passes_J168 (n32 b) (n32 k) m2) (lr (fun s' => k < T 2 ∧ s'.1 = n32 (k + 1) ∧ kp (fun k i p => pmE k i ∨ pmS b k i p) m s'.2 ∧ mSt s'.2 b (fun q => if q = 1 ∨ (2 ≤ q ∧ q < 8) ∨ (14 ≤ q ∧ q < 14 + (k + 1)) ∨ (30 ≤ q ∧ q < 30 + (k + 1)) then aSleep T cd S q else S q)) (fun e => wo (f_X12_passes_K71 (n32 b) (n32 (hmN T (lsA S 0))) e) (fun r => r.1 = n32 (hmN T (lsA S 0)) ∧ mSt r.2 b (aSleep T cd S) ∧ kp (fun k i p => pmE k i ∨ pmS b k i p) m r.2))) := by
        intro m2 kk ss0
        have ss : ∀ q, q < 38 → m2.1 64 0 (b + q) = if q = 1 ∨ (2 ≤ q ∧ q < 8) ∨ (14 ≤ q ∧ q < 14 + (k + 1)) ∨ (30 ≤ q ∧ q < 30 + k) then aSleep T cd S q else S q := ss0
        unfold f_X12_passes_J168
        simp (disch := omega) only [pw_g, pw_let, pw_some, n32_al, n32_add, n32_in, n32_cl, lr_l]
        rw [show b + 30 + k = b + (30 + k) by omega]
        refine ⟨by omega, hk, by trivial, kk.wI (Or.inr ⟨rfl, rfl, by omega, by omega⟩), ?_⟩
        intro q hq
        dsimp only
        rw [rI]
        by_cases e : q = 30 + k
        · subst e
          rw [if_pos ⟨rfl, rfl, rfl⟩, if_pos (by omega)]
          unfold aSleep
          rw [if_neg (by omega), if_neg (by omega), if_neg (by omega), if_neg (by omega), if_neg (by omega), if_neg (by omega)]
        · rw [if_neg (by omega), ss q hq]
          by_cases e2 : q = 1 ∨ (2 ≤ q ∧ q < 8) ∨ (14 ≤ q ∧ q < 14 + (k + 1)) ∨ (30 ≤ q ∧ q < 30 + k)
          · rw [if_pos e2, if_pos (by omega)]
          · rw [if_neg e2, if_neg (by omega)]
      have e22 := s1 (22 + k) (by omega)
      rw [if_neg (by omega)] at e22
      have e14 := s1 (14 + k) (by omega)
      rw [if_neg (by omega)] at e14
      have e0 := s1 0 (by omega)
      rw [if_neg (by omega)] at e0
      have op : f_X12_isOpen (n32 b) (n32 k) m1 = some (if S (22 + k) = 0 then 1 else 0) := by
        have := pm_isOpen h1.1.1 hT s0 hb hk
        rw [if_neg (show ¬ (22 + k = 1 ∨ (2 ≤ 22 + k ∧ 22 + k < 8) ∨ (14 ≤ 22 + k ∧ 22 + k < 14 + k) ∨ (30 ≤ 22 + k ∧ 22 + k < 30 + k)) by omega)] at this
        exact this
      rw [op, pw_some, show b + 14 + k = b + (14 + k) by omega, e14, e0]
      refine ⟨fun hz => ?_, fun hz => ⟨by omega, by omega, ?_⟩⟩
      · have hz : ¬ S (22 + k) = 0 := fun e => by rw [if_pos e] at hz; exact absurd hz (by decide)
        refine fin m1 k1 (fun q hq => ?_)
        dsimp only
        rw [s1 q hq]
        by_cases e : q = 14 + k
        · subst e
          rw [if_neg (by omega), if_pos (by omega)]
          unfold aSleep
          rw [if_neg (by omega), if_neg (by omega), if_neg (by omega), if_neg (by omega), if_pos (by omega), if_neg (fun x => hz (by rw [show 14 + k + 8 = 22 + k by omega] at x; exact x.2))]
        · by_cases e2 : q = 1 ∨ (2 ≤ q ∧ q < 8) ∨ (14 ≤ q ∧ q < 14 + k) ∨ (30 ≤ q ∧ q < 30 + k)
          · rw [if_pos e2, if_pos (by omega)]
          · rw [if_neg e2, if_neg (by omega)]
      · have hz : S (22 + k) = 0 := by
          by_cases e : S (22 + k) = 0
          · exact e
          · rw [if_neg e] at hz; exact absurd rfl hz
        refine pw_mono (pm_law (l := 1) h1 (by omega) hk lwA_d1) ?_
        rintro ⟨v, m2⟩ ⟨a1, a2⟩
        simp only at a1 a2
        subst a1
        have a3 : kp (fun k i _ => pmE k i) m1 m2 := a2.mo (fun k i p a => by omega)
        have s2 : ∀ q, q < 38 → m2.1 64 0 (b + q) = if q = 1 ∨ (2 ≤ q ∧ q < 8) ∨ (14 ≤ q ∧ q < 14 + k) ∨ (30 ≤ q ∧ q < 30 + k) then aSleep T cd S q else S q := mSt.fr s0 a3
        have k2 : kp (fun k i p => pmE k i ∨ pmS b k i p) m m2 := k1.tr (a3.mo (fun k i p a => Or.inl a))
        have put : ∀ u, u = clA (-9) 9 (lwA T cd 1 k (S (14 + k)) (S 0)) → wo (f_X12_passes_J163 (n32 b) (n32 k) m2 u) (lr (fun s' => k < T 2 ∧ s'.1 = n32 (k + 1) ∧ kp (fun k i p => pmE k i ∨ pmS b k i p) m s'.2 ∧ mSt s'.2 b (fun q => if q = 1 ∨ (2 ≤ q ∧ q < 8) ∨ (14 ≤ q ∧ q < 14 + (k + 1)) ∨ (30 ≤ q ∧ q < 30 + (k + 1)) then aSleep T cd S q else S q)) (fun e => wo (f_X12_passes_K71 (n32 b) (n32 (hmN T (lsA S 0))) e) (fun r => r.1 = n32 (hmN T (lsA S 0)) ∧ mSt r.2 b (aSleep T cd S) ∧ kp (fun k i p => pmE k i ∨ pmS b k i p) m r.2))) := by
          intro u hu
          unfold f_X12_passes_J163
          simp (disch := omega) only [pw_g, pw_let, pw_bo, pm_atMost, pw_some, n32_al, n32_add, n32_in, n32_cl]
          rw [show b + 14 + k = b + (14 + k) by omega]
          refine ⟨by omega, fin _ (k2.wI (Or.inr ⟨rfl, rfl, by omega, by omega⟩)) (fun q hq => ?_)⟩
          dsimp only
          rw [rI]
          by_cases e : q = 14 + k
          · subst e
            have e15 := s2 (14 + k) (by omega)
            rw [if_neg (by omega)] at e15
            rw [if_pos ⟨rfl, rfl, rfl⟩, if_pos (by omega), e15, hu]
            unfold aSleep
            rw [if_neg (by omega), if_neg (by omega), if_neg (by omega), if_neg (by omega), if_pos (by omega), if_pos ⟨by omega, by rw [show 14 + k + 8 = 22 + k by omega]; exact hz⟩, show 14 + k - 14 = k by omega]
            rfl
          · rw [if_neg (by omega), s2 q hq]
            by_cases e2 : q = 1 ∨ (2 ≤ q ∧ q < 8) ∨ (14 ≤ q ∧ q < 14 + k) ∨ (30 ≤ q ∧ q < 30 + k)
            · rw [if_pos e2, if_pos (by omega)]
            · rw [if_neg e2, if_neg (by omega)]
        refine ⟨by omega, fun e => ⟨fun e2 => put _ ?_, fun e2 => put _ ?_⟩, fun e => put _ ?_⟩
        · unfold clA; rw [if_neg (i32_nlt.mpr e), if_neg (i32_nlt.mpr e2)]
        · unfold clA; rw [if_neg (i32_nlt.mpr e), if_pos (i32_nle.mp e2)]
        · unfold clA; rw [if_pos (i32_nle.mp e)]
  · have hk : k < T 0 := by omega
    have e2 := s1 (2 + k) (by omega)
    rw [if_neg (by omega)] at e2
    rw [e2]
    obtain ⟨n, hn, en⟩ := hs.1 k (by omega)
    have go : ∀ v : Int32, v = aSleep T cd S (2 + k) → k < T 0 ∧ True ∧ kp (fun k i p => pmE k i ∨ pmS b k i p) m (mi_wI m1 64 0 (b + (2 + k)) v) ∧ mSt (mi_wI m1 64 0 (b + (2 + k)) v) b (fun q => if q = 1 ∨ (2 ≤ q ∧ q < 2 + (k + 1)) then aSleep T cd S q else S q) := by
      intro v hv
      refine ⟨hk, trivial, k1.wI (Or.inr ⟨rfl, rfl, by omega, by omega⟩), fun q hq => ?_⟩
      dsimp only
      rw [rI]
      by_cases e : q = 2 + k
      · subst e
        rw [if_pos ⟨rfl, rfl, rfl⟩, if_pos (by omega), hv]
      · rw [if_neg (by omega), s1 q hq]
        by_cases e3 : q = 1 ∨ (2 ≤ q ∧ q < 2 + k)
        · rw [if_pos e3, if_pos (by omega)]
        · rw [if_neg e3, if_neg (by omega)]
    refine ⟨fun hy => ⟨by omega, go _ ?_⟩, fun hy => ⟨by omega, go _ ?_⟩⟩
    · unfold aSleep
      rw [if_neg (by omega), if_neg (by omega), if_pos (by omega), if_neg (i32_nlt.mpr hy)]
      rw [en, show (0 : Int32) = n32 0 from rfl, n32_le (by omega) (by omega)] at hy
      rw [en, show n = 0 by omega]
      rfl
    · unfold aSleep
      rw [if_neg (by omega), if_neg (by omega), if_pos (by omega), if_pos (i32_nle.mp hy)]
theorem pm_copies {m : mi_M} {a b n : Nat} (ha : a + n ≤ 1449) (hb : b + n ≤ 1449) (hd : a + n ≤ b ∨ b + n ≤ a) : wo (f_X12_copies (n32 a) (n32 b) (n32 n) m) (fun m' => kp (fun k i p => k = 64 ∧ i = 0 ∧ b ≤ p ∧ p < b + n) m m' ∧ ∀ q, q < n → m'.1 64 0 (b + q) = m.1 64 0 (a + q)) := by
  unfold f_X12_copies
  rw [pw_bo]
  refine pl_for (fun k s => s.1 = n32 k ∧ kp (fun k i p => k = 64 ∧ i = 0 ∧ b ≤ p ∧ p < b + n) m s.2 ∧ ∀ q, q < k → s.2.1 64 0 (b + q) = m.1 64 0 (a + q)) n (by omega) ⟨rfl, kp.rf, fun q hq => absurd hq (by omega)⟩ ?_
  rintro k ⟨l, m1⟩ hk ⟨e1, k1, s1⟩
  simp only at e1 k1 s1
  subst e1
  unfold f_X12_copies_B3
  simp (disch := omega) only [pw_if, pw_some, pw_g, pw_let, n32_le, lr_r, lr_l, n32_add, n32_in, n32_cl, n32_al]
  refine ⟨fun hx => ?_, fun hx => ⟨by omega, by omega, by omega, by trivial, k1.wI ⟨rfl, rfl, by omega, by omega⟩, fun q hq => ?_⟩⟩
  · have : k = n := by omega
    subst this
    unfold f_X12_copies_K3
    rw [pw_some]
    exact ⟨k1, s1⟩
  · rw [rI]
    by_cases e : q = k
    · subst e
      rw [if_pos ⟨rfl, rfl, rfl⟩, k1.1 64 0 _ (by omega)]
    · rw [if_neg (by omega)]; exact s1 q (by omega)
theorem pc_become {m : mi_M} {i j : Nat} {S : Nat → Int32} (h : cSt m j S) : wo (f_X5_become i j m) (fun m' => cSt m' i S ∧ kp (fun k x _ => pcS i k x) m m') := by
  unfold f_X5_become
  simp only [pw_let, pw_some]
  refine ⟨⟨⟨?_, ?_, ?_, ?_⟩, fun p hp => ?_, fun p hp => ?_, fun w hw => ?_⟩, ⟨fun k x p hn => ?_, fun _ _ _ _ => rfl, rfl⟩⟩
  · rw [← h.1.1]; simp [mi_cp, mi_wI]
  · rw [← h.1.2.1]; simp [mi_cp, mi_wI]
  · rw [← h.1.2.2.1]; simp [mi_cp, mi_wI]
  · rw [← h.1.2.2.2]; simp [mi_cp, mi_wI]
  · rw [← h.2.1 p hp]; simp [mi_cp, mi_wI, hp]
  · rw [← h.2.2.1 p hp]; simp [mi_cp, mi_wI, hp]
  · rw [← h.2.2.2 w hw]; simp [mi_cp, mi_wI, hw]
  · simp only [mi_cp, mi_wI]
    rw [if_neg (by omega), if_neg (by omega), if_neg (by omega), if_neg (by omega), if_neg (by omega), if_neg (by omega), if_neg (by omega)]
theorem pc_within {x lo hi : Int32} {m : mi_M} : f_X11_isWithin x lo hi m = some (if lo ≤ x ∧ x ≤ hi then 1 else 0) := by
  unfold f_X11_isWithin f_X11_isWithin_J14 f_X11_isWithin_J15
  rw [pe_g (by decide), pe_g (by decide)]
  by_cases a : x < lo
  · rw [if_pos a, if_neg (fun y => absurd a (i32_nlt.mpr y.1))]
  · by_cases b : hi < x
    · rw [if_neg a, if_pos b, if_neg (fun y => absurd b (i32_nlt.mpr y.2))]
    · rw [if_neg a, if_neg b, if_pos ⟨i32_nlt.mp a, i32_nlt.mp b⟩]
theorem pm_within {x lo hi : Int32} {m : mi_M} : f_X12_within x lo hi m = some (if lo ≤ x ∧ x ≤ hi then 1 else 0) := by
  unfold f_X12_within f_X12_within_J14 f_X12_within_J15
  rw [pe_g (by decide), pe_g (by decide)]
  by_cases a : x < lo
  · rw [if_pos a, if_neg (fun y => absurd a (i32_nlt.mpr y.1))]
  · by_cases b : hi < x
    · rw [if_neg a, if_pos b, if_neg (fun y => absurd b (i32_nlt.mpr y.2))]
    · rw [if_neg a, if_neg b, if_pos ⟨i32_nlt.mp a, i32_nlt.mp b⟩]
theorem wi_y {x lo hi : Int32} (h : lo ≤ x ∧ x ≤ hi) : (if lo ≤ x ∧ x ≤ hi then (1 : Int32) else 0) = 1 := if_pos h
theorem wi_n {x lo hi : Int32} (h : ¬ (lo ≤ x ∧ x ≤ hi)) : (if lo ≤ x ∧ x ≤ hi then (1 : Int32) else 0) = 0 := if_neg h
theorem wi_of {x : Int32} {lo hi : Nat} (hl : lo < 2147483648) (hh : hi < 2147483648) (h : n32 lo ≤ x ∧ x ≤ n32 hi) : ∃ k, lo ≤ k ∧ k ≤ hi ∧ x = n32 k := by
  have h0 : (0 : Int32) ≤ x := by
    have h1 := i32_le.mp h.1
    rw [n32_int hl] at h1
    rw [i32_le, show (0 : Int32).toInt = 0 by decide]
    omega
  obtain ⟨k, hk, rfl⟩ := n32_of h0
  exact ⟨k, (n32_le hl hk).mp h.1, (n32_le hk hh).mp h.2, rfl⟩
theorem in_or (W : Nat) (x : Int32) : (∃ w, w < W ∧ x = n32 w) ∨ ∀ w, w < W → x ≠ n32 w := by
  by_cases h : ∃ w, w < W ∧ x = n32 w
  · exact Or.inl h
  · exact Or.inr (fun w hw e => h ⟨w, hw, e⟩)
theorem w1_int {W : Nat} (hW : W < 100) : (n32 W - 1).toInt = (W : Int) - 1 := by
  have : ∀ W, W < 100 → (n32 W - 1).toInt = (W : Int) - 1 := by decide +kernel
  exact this W hW
theorem pc_hasW {W k : Nat} {m : mi_M} (hW : W < 100) (hk : k < W) : f_X11_isWithin (n32 k) 0 (n32 W - 1) m = some 1 := by
  rw [pc_within, if_pos]
  refine ⟨n32_ge0 (by omega), ?_⟩
  rw [i32_le, w1_int hW, n32_int (by omega)]
  omega
theorem pc_hasW_n {W : Nat} {x : Int32} {m : mi_M} (hW : W < 100) (hx : ∀ w, w < W → x ≠ n32 w) : f_X11_isWithin x 0 (n32 W - 1) m = some 0 := by
  rw [pc_within, if_neg]
  rintro ⟨h1, h2⟩
  obtain ⟨k, hk, rfl⟩ := n32_of h1
  rw [i32_le, w1_int hW, n32_int hk] at h2
  exact hx k (by omega) rfl
theorem pc_hasWrong {m : mi_M} {c w : Nat} {T : Nat → Nat} (h : cTw m c T) (hT : tOK T) (hw : w < T 2) : f_X8_hasWrong c (n32 w) m = some 1 := by
  unfold f_X8_hasWrong
  rw [h.1.2.1, pc_hasW (by have := hT.1.2.1; omega) hw, pe_bo, pe_g (by decide)]
theorem pc_hasWrong_n {m : mi_M} {c : Nat} {x : Int32} {T : Nat → Nat} (h : cTw m c T) (hT : tOK T) (hx : ∀ w, w < T 2 → x ≠ n32 w) : f_X8_hasWrong c x m = some 0 := by
  unfold f_X8_hasWrong
  rw [h.1.2.1, pc_hasW_n (by have := hT.1.2.1; omega) hx, pe_bo, pe_g (by decide)]
theorem pc_hasPerson {m : mi_M} {c w : Nat} {T : Nat → Nat} (h : cTw m c T) (hT : tOK T) (hw : w < T 0) : f_X8_hasPerson c (n32 w) m = some 1 := by
  unfold f_X8_hasPerson
  rw [h.1.1, pc_hasW (by have := hT.1.1; omega) hw, pe_bo, pe_g (by decide)]
theorem pc_hasPerson_n {m : mi_M} {c : Nat} {x : Int32} {T : Nat → Nat} (h : cTw m c T) (hT : tOK T) (hx : ∀ w, w < T 0 → x ≠ n32 w) : f_X8_hasPerson c x m = some 0 := by
  unfold f_X8_hasPerson
  rw [h.1.1, pc_hasW_n (by have := hT.1.1; omega) hx, pe_bo, pe_g (by decide)]
/-- two doors, or not -/
theorem two_or (P : Nat) (x y : Int32) : (∃ i j, i < P ∧ j < P ∧ i ≠ j ∧ x = n32 i ∧ y = n32 j) ∨ ¬ ∃ i j, i < P ∧ j < P ∧ i ≠ j ∧ x = n32 i ∧ y = n32 j := by
  by_cases h : ∃ i j, i < P ∧ j < P ∧ i ≠ j ∧ x = n32 i ∧ y = n32 j
  · exact Or.inl h
  · exact Or.inr h
theorem pc_two {m : mi_M} {c i j : Nat} {T : Nat → Nat} (h : cTw m c T) (hT : tOK T) (hi : i < T 0) (hj : j < T 0) (hij : i ≠ j) : f_X8_hasTwoDoors c (n32 i) (n32 j) m = some 1 := by
  have h6 := hT.1.1
  unfold f_X8_hasTwoDoors f_X8_hasTwoDoors_J25 f_X8_hasTwoDoors_J26
  rw [pc_hasPerson h hT hi, pe_bo, if_neg (by decide), pc_hasPerson h hT hj, pe_bo, if_neg (by decide), if_neg (by rw [n32_eq (by omega) (by omega)]; exact hij), pe_g (by decide)]
theorem pc_two_n {m : mi_M} {c : Nat} {x y : Int32} {T : Nat → Nat} (h : cTw m c T) (hT : tOK T) (hn : ¬ ∃ i j, i < T 0 ∧ j < T 0 ∧ i ≠ j ∧ x = n32 i ∧ y = n32 j) : f_X8_hasTwoDoors c x y m = some 0 := by
  unfold f_X8_hasTwoDoors f_X8_hasTwoDoors_J25 f_X8_hasTwoDoors_J26
  rw [pe_g (by decide), pe_g (by decide)]
  rcases in_or (T 0) x with ⟨i, hi, rfl⟩ | hx
  · rw [pc_hasPerson h hT hi, pe_bo, if_neg (by decide)]
    rcases in_or (T 0) y with ⟨j, hj, rfl⟩ | hy
    · rw [pc_hasPerson h hT hj, pe_bo, if_neg (by decide), if_pos]
      by_cases e : i = j
      · rw [e]
      · exact absurd ⟨i, j, hi, hj, e, rfl, rfl⟩ hn
    · rw [pc_hasPerson_n h hT hy, pe_bo, if_pos rfl]
  · rw [pc_hasPerson_n h hT hx, pe_bo, if_pos rfl]
theorem pm_two {m : mi_M} {i j : Nat} {T : Nat → Nat} (h : mTw m T) (hT : tOK T) (hi : i < T 0) (hj : j < T 0) (hij : i ≠ j) : f_X12_areTwo (n32 i) (n32 j) m = some 1 := by
  have h6 := hT.1.1
  unfold f_X12_areTwo f_X12_areTwo_J25 f_X12_areTwo_J26
  rw [pm_isPerson h hT hi, pe_bo, if_neg (by decide), pm_isPerson h hT hj, pe_bo, if_neg (by decide), if_neg (by rw [n32_eq (by omega) (by omega)]; exact hij), pe_g (by decide)]
theorem pm_two_n {m : mi_M} {x y : Int32} {T : Nat → Nat} (h : mTw m T) (hT : tOK T) (hn : ¬ ∃ i j, i < T 0 ∧ j < T 0 ∧ i ≠ j ∧ x = n32 i ∧ y = n32 j) : f_X12_areTwo x y m = some 0 := by
  unfold f_X12_areTwo f_X12_areTwo_J25 f_X12_areTwo_J26
  rw [pe_g (by decide), pe_g (by decide)]
  rcases in_or (T 0) x with ⟨i, hi, rfl⟩ | hx
  · rw [pm_isPerson h hT hi, pe_bo, if_neg (by decide)]
    rcases in_or (T 0) y with ⟨j, hj, rfl⟩ | hy
    · rw [pm_isPerson h hT hj, pe_bo, if_neg (by decide), if_pos]
      by_cases e : i = j
      · rw [e]
      · exact absurd ⟨i, j, hi, hj, e, rfl, rfl⟩ hn
    · rw [pm_isPerson_n h hT hy, pe_bo, if_pos rfl]
  · rw [pm_isPerson_n h hT hx, pe_bo, if_pos rfl]
