/-! ===== sets, look ===== -/
def prB (T : Nat → Nat) (S : Nat → Int32) (s w : Nat) : Bool := !s.testBit w || rpB T S w
def ftB (T : Nat → Nat) (cd : Nat → List Int32) (S : Nat → Int32) (n : Nat) (V : Nat → Nat × Nat × Nat) (s : Nat) : Bool := alB (prB T S s) (T 2) && alB (agP V (lmA T cd S s (T 2))) n
theorem part_r {T : Nat → Nat} {S : Nat → Int32} {s : Nat} (hs : s < 2 ^ T 2) : (∀ w, s.testBit w = true → (rpS T S).testBit w = true) ↔ alB (prB T S s) (T 2) = true := by
  rw [alB_iff]
  refine ⟨fun h w hw => ?_, fun h w hb => ?_⟩
  · unfold prB
    cases hb : s.testBit w
    · rfl
    · have := h w hb
      unfold rpS at this
      rw [bs_tb] at this
      simp [hw] at this
      simp [this]
  · have hw : w < T 2 := by
      by_cases q : w < T 2
      · exact q
      · have := Nat.testBit_lt_two_pow (Nat.lt_of_lt_of_le hs (Nat.pow_le_pow_right (show 0 < 2 by omega) (show T 2 ≤ w by omega)))
        rw [this] at hb; cases hb
    have := h w hw
    unfold prB at this
    rw [hb] at this
    unfold rpS
    rw [bs_tb]
    simp [hw]
    simpa using this
section ST
variable (F : Nat → Bool) (lm : Nat → Nat → Int32) (e0 : Nat)
def stC : Nat → Nat
  | 0 => 0
  | k + 1 => if F k then stC k + 1 else stC k
def stO : Nat → Nat
  | 0 => 0
  | k + 1 => if F k then stO k ||| k else stO k
def stE : Nat → Nat
  | 0 => e0
  | k + 1 => if F k then stE k &&& k else stE k
def stL : Nat → Nat → Nat
  | 0, _ => 0
  | k + 1, q => stL k q + (if F k = true ∧ n32 (q % 10) < lm k (q / 10) then 1 else 0)
end ST
theorem stC_le {F : Nat → Bool} : ∀ k, stC F k ≤ k
  | 0 => Nat.le_refl _
  | k + 1 => by
    have := stC_le (F := F) k
    unfold stC
    split <;> omega
theorem stL_le {F : Nat → Bool} {lm : Nat → Nat → Int32} {q : Nat} : ∀ k, stL F lm k q ≤ stC F k
  | 0 => Nat.le_refl _
  | k + 1 => by
    have := stL_le (F := F) (lm := lm) (q := q) k
    unfold stL stC
    by_cases h : F k = true
    · rw [if_pos h]
      split <;> omega
    · rw [if_neg h, if_neg (fun x => h x.1)]
      omega
theorem stO_lt {F : Nat → Bool} {N : Nat} : ∀ k, k ≤ 2 ^ N → stO F k < 2 ^ N
  | 0, _ => Nat.two_pow_pos N
  | k + 1, h => by
    have := stO_lt (F := F) (N := N) k (by omega)
    unfold stO
    split
    · exact Nat.or_lt_two_pow this (by omega)
    · exact this
theorem stE_le {F : Nat → Bool} {e0 : Nat} : ∀ k, stE F e0 k ≤ e0
  | 0 => Nat.le_refl _
  | k + 1 => by
    have := stE_le (F := F) (e0 := e0) k
    unfold stE
    split
    · exact Nat.le_trans Nat.and_le_left this
    · exact this
theorem stE_rel {F : Nat → Bool} {e0 e1 : Nat} (h0 : ∀ k, F k = true → k &&& e0 = k) (h1 : ∀ k, F k = true → k &&& e1 = k) : ∀ k, (stC F k = 0 → stE F e0 k = e0 ∧ stE F e1 k = e1) ∧ (0 < stC F k → stE F e0 k = stE F e1 k)
  | 0 => ⟨fun _ => ⟨rfl, rfl⟩, fun h => absurd h (Nat.lt_irrefl _)⟩
  | k + 1 => by
    obtain ⟨i1, i2⟩ := stE_rel h0 h1 k
    unfold stC stE
    by_cases h : F k = true
    · rw [if_pos h, if_pos h, if_pos h]
      refine ⟨fun x => absurd x (by omega), fun _ => ?_⟩
      by_cases z : stC F k = 0
      · rw [(i1 z).1, (i1 z).2, Nat.and_comm e0, h0 k h, Nat.and_comm e1, h1 k h]
      · rw [i2 (by omega)]
    · rw [if_neg h, if_neg h, if_neg h]
      exact ⟨i1, i2⟩
theorem pc_sort {mem : mi_M} {T : Nat → Nat} {cd : Nat → List Int32} {c n : Nat} {S : Nat → Int32} {V : Nat → Nat × Nat × Nat} (h2 : cT mem c T cd) (hc : cSt mem 0 S) (hs : sOK T S) (hn : n ≤ 8) (hV : ∀ k, k < n → (V k).1 < T 0 ∧ (V k).2.1 ≤ 9 ∧ (V k).2.2 ≤ 1) (hsi : cSi mem 0 n V) :
    wo (f_X2_sortSets c 0 0 mem) (fun m' => cT m' c T cd ∧ m'.1 27 0 0 = n32 (stC (ftB T cd S n V) (2 ^ T 2)) ∧ m'.1 27 0 1 = n32 (stE (ftB T cd S n V) (rpS T S) (2 ^ T 2)) ∧ m'.1 27 0 2 = n32 (stO (ftB T cd S n V) (2 ^ T 2)) ∧ (∀ q, q < 60 → m'.1 26 0 q = n32 (stL (ftB T cd S n V) (fun s => lmA T cd S s (T 2)) (2 ^ T 2) q)) ∧ kp (fun k i _ => pXc c k i) mem m') := by
  have hT := h2.1.2.1
  have h82 := hT.1.2.1
  have h256 := pow8 h82
  unfold f_X2_sortSets
  rw [pw_bo]
  refine pw_mono (pc_weigh h2 hc hs) ?_
  rintro m1 ⟨a1, a2, a3⟩
  have S1 : cSt m1 0 S := hc.mv a3 (fun k j p a b d => by omega)
  rw [pc_ripeWrongs a1 S1 hs, pe_bo, pw_bo]
  have k0 : kp (fun k i _ => pXc c k i) mem m1 := a3.mo (fun k i p a => by omega)
  refine pl_for (fun k s => s.1 = n32 k ∧ cT s.2 c T cd ∧ WP s.2 T cd S ∧ (∀ q, q < k → s.2.1 26 0 q = 0) ∧ kp (fun k i _ => pXc c k i) mem s.2) 60 (by omega) ⟨rfl, a1, a2, fun q hq => absurd hq (by omega), k0⟩ ?_
  clear a1 a2 a3 k0 S1 m1
  rintro k ⟨l30, m1⟩ hk ⟨e1, e2, e3, e4, e5⟩
  simp only at e1 e2 e3 e4 e5
  subst e1
  unfold f_X2_sortSets_B16
  simp (disch := omega) only [pw_if, pw_some, pw_g, pw_let, n32_Lle, lr_r, lr_l, n32_in, n32_cl, n32_al]
  refine ⟨fun hz => ?_, fun hz => ⟨by omega, by omega, by trivial, e2.mv (kp.rf.wI (P := fun k i p => k = 26) rfl) (fun k j p a b => by unfold cTk at b; omega), e3.mv (kp.rf.wI (P := fun k i p => k = 26) rfl) (fun k i p a => by omega), fun q hq => ?_, e5.wI (by omega)⟩⟩
  · have : k = 60 := by omega
    subst this
    unfold f_X2_sortSets_K16
    simp (disch := omega) only [pw_g, pw_let, pw_bo, n32_lin, n32_lcl]
    refine ⟨by omega, by omega, by omega, ?_⟩
    have kq : kp (fun k i _ => k = 27) m1 (mi_wI (mi_wI (mi_wI m1 27 0 0 0) 27 0 1 (n32 (rpS T S))) 27 0 2 0) := ((kp.rf.wI rfl).wI rfl).wI rfl
    refine pl_for (fun k s => s.1 = n32 k ∧ cT s.2 c T cd ∧ WP s.2 T cd S ∧ s.2.1 27 0 0 = n32 (stC (ftB T cd S n V) k) ∧ s.2.1 27 0 1 = n32 (stE (ftB T cd S n V) (rpS T S) k) ∧ s.2.1 27 0 2 = n32 (stO (ftB T cd S n V) k) ∧ (∀ q, q < 60 → s.2.1 26 0 q = n32 (stL (ftB T cd S n V) (fun s => lmA T cd S s (T 2)) k q)) ∧ kp (fun k i _ => pXc c k i) mem s.2) (2 ^ T 2) (by omega) ⟨rfl, e2.mv kq (fun k j p a b => by unfold cTk at b; omega), e3.mv kq (fun k i p a => by omega), by simp (disch := omega) only [rI_ne, rI_eq]; rfl, by simp (disch := omega) only [rI_ne, rI_eq]; rfl, by simp (disch := omega) only [rI_ne, rI_eq]; rfl, fun q hq => by simp (disch := omega) only [rI_ne]; exact e4 q hq, e5.tr (kq.mo (fun k i p a => by omega))⟩ ?_
    clear kq e2 e3 e4 e5 hz hk m1
    rintro k ⟨l11, m1⟩ hk ⟨e1, e2, e3, e4, e5, e6, e7, e8⟩
    simp only at e1 e2 e3 e4 e5 e6 e7 e8
    subst e1
    have S1 : cSt m1 0 S := hc.mv e8 (fun k j p a b d => by omega)
    unfold f_X2_sortSets_B65 f_X2_sortSets_J141
    simp (disch := omega) only [sh_1, pw_if, pw_some, pw_bo, e2.1.1.1.2.1, n32_le, lr_r, lr_l, n32_al]
    refine ⟨fun hz => ?_, fun hz => ?_⟩
    · have : k = 2 ^ T 2 := by omega
      subst this
      unfold f_X2_sortSets_K65
      rw [pw_some]
      exact ⟨e2, e4, e5, e6, e7, e8⟩
    · have hk : k < 2 ^ T 2 := by omega
      have sC : stC (ftB T cd S n V) (k + 1) = if ftB T cd S n V k then stC (ftB T cd S n V) k + 1 else stC (ftB T cd S n V) k := rfl
      have sE : stE (ftB T cd S n V) (rpS T S) (k + 1) = if ftB T cd S n V k then stE (ftB T cd S n V) (rpS T S) k &&& k else stE (ftB T cd S n V) (rpS T S) k := rfl
      have sO : stO (ftB T cd S n V) (k + 1) = if ftB T cd S n V k then stO (ftB T cd S n V) k ||| k else stO (ftB T cd S n V) k := rfl
      have sL : ∀ q, stL (ftB T cd S n V) (fun s => lmA T cd S s (T 2)) (k + 1) q = stL (ftB T cd S n V) (fun s => lmA T cd S s (T 2)) k q + (if ftB T cd S n V k = true ∧ n32 (q % 10) < lmA T cd S k (T 2) (q / 10) then 1 else 0) := fun q => rfl
      have skip : ∀ m2, ftB T cd S n V k = false → cT m2 c T cd → WP m2 T cd S → (∀ q, q < 3 → m2.1 27 0 q = m1.1 27 0 q) → (∀ q, q < 60 → m2.1 26 0 q = m1.1 26 0 q) → kp (fun k i _ => pXc c k i) mem m2 → k < 2 ^ T 2 ∧ True ∧ cT m2 c T cd ∧ WP m2 T cd S ∧ m2.1 27 0 0 = n32 (stC (ftB T cd S n V) (k + 1)) ∧ m2.1 27 0 1 = n32 (stE (ftB T cd S n V) (rpS T S) (k + 1)) ∧ m2.1 27 0 2 = n32 (stO (ftB T cd S n V) (k + 1)) ∧ (∀ q, q < 60 → m2.1 26 0 q = n32 (stL (ftB T cd S n V) (fun s => lmA T cd S s (T 2)) (k + 1) q)) ∧ kp (fun k i _ => pXc c k i) mem m2 := by
        intro m2 hf t2 w2 z1 z2 k2
        refine ⟨hk, trivial, t2, w2, ?_, ?_, ?_, fun q hq => ?_, k2⟩
        · rw [z1 0 (by omega), e4, sC, hf]; rfl
        · rw [z1 1 (by omega), e5, sE, hf]; rfl
        · rw [z1 2 (by omega), e6, sO, hf]; rfl
        · rw [z2 q hq, e7 q hq, sL, hf]; simp
      have ep : f_X11_isPartOf (n32 k) (n32 (rpS T S)) m1 = some (if alB (prB T S k) (T 2) then 1 else 0) := by
        unfold f_X11_isPartOf f_X11_isPartOf_J13
        rw [pe_g (by decide), pe_g (by decide)]
        by_cases hp : alB (prB T S k) (T 2) = true
        · rw [if_pos ((part_g (by omega)).mpr ((part_r hk).mpr hp)), if_pos hp]
        · rw [if_neg (fun x => hp ((part_r hk).mp ((part_g (by omega)).mp x))), if_neg hp]
      rw [ep, pw_some]
      by_cases hp : alB (prB T S k) (T 2) = true
      · rw [if_pos hp]
        refine ⟨fun x => absurd x (by decide), fun _ => ?_⟩
        refine pw_mono (pc_lightBy (s := k) e2 S1 hs e3) ?_
        rintro m2 ⟨b1, b2⟩
        have k2 : kp (fun k i _ => pXc c k i) mem m2 := e8.tr (b2.mo (fun k i p a => by omega))
        have t2 : cT m2 c T cd := e2.mv b2 (fun k j p a b => by unfold cTk at b; omega)
        have w2 : WP m2 T cd S := e3.mv b2 (fun k i p a => by omega)
        have si2 : cSi m2 0 n V := hsi.mv k2 (fun k j p a b d => by omega)
        rw [pc_agree (lm := lmA T cd S k (T 2)) hn hT hV si2 b1, pw_some]
        by_cases hg : alB (agP V (lmA T cd S k (T 2))) n = true
        · have hf : ftB T cd S n V k = true := by unfold ftB; rw [hp, hg]; rfl
          rw [if_pos hg]
          refine ⟨fun x => absurd x (by decide), fun _ => ?_⟩
          have r0 : m2.1 27 0 0 = n32 (stC (ftB T cd S n V) k) := by rw [b2.1 27 0 0 (by omega)]; exact e4
          have r1 : m2.1 27 0 1 = n32 (stE (ftB T cd S n V) (rpS T S) k) := by rw [b2.1 27 0 1 (by omega)]; exact e5
          have r2 : m2.1 27 0 2 = n32 (stO (ftB T cd S n V) k) := by rw [b2.1 27 0 2 (by omega)]; exact e6
          simp (disch := omega) only [pw_g, pw_let, pw_bo, n32_lin, n32_lcl, rI_ne, r0, r1, r2, n32_al, n32_and, n32_or]
          refine ⟨by omega, by omega, by omega, by omega, by omega, by omega, ?_⟩
          have kq : kp (fun k i _ => k = 27) m2 (mi_wI (mi_wI (mi_wI m2 27 0 0 (n32 (stC (ftB T cd S n V) k + 1))) 27 0 1 (n32 (stE (ftB T cd S n V) (rpS T S) k &&& k))) 27 0 2 (n32 (stO (ftB T cd S n V) k ||| k))) := ((kp.rf.wI rfl).wI rfl).wI rfl
          refine pw_mono (pc_countB (lm := lmA T cd S k (T 2)) (fun p hp => by simp (disch := omega) only [rI_ne]; exact b1 p hp) (fun p hp => lmA_n hs (T 2) p hp)) ?_
          rintro m3 ⟨d1, d2⟩
          rw [pw_some, lr_l]
          refine ⟨hk, by trivial, (t2.mv kq (fun k j p a b => by unfold cTk at b; omega)).mv d2 (fun k j p a b => by unfold cTk at b; omega), (w2.mv kq (fun k i p a => by omega)).mv d2 (fun k i p a => by omega), ?_, ?_, ?_, fun q hq => ?_, (k2.tr (kq.mo (fun k i p a => by omega))).tr (d2.mo (fun k i p a => by omega))⟩
          · rw [d2.1 27 0 0 (by omega), sC, hf]
            simp (disch := omega) only [rI_ne, rI_eq]
            rfl
          · rw [d2.1 27 0 1 (by omega), sE, hf]
            simp (disch := omega) only [rI_ne, rI_eq]
            rfl
          · rw [d2.1 27 0 2 (by omega), sO, hf, rI_eq]
            rfl
          · rw [d1 q hq, sL, hf]
            simp (disch := omega) only [rI_ne]
            rw [b2.1 26 0 q (by omega), e7 q hq]
            by_cases z : n32 (q % 10) < lmA T cd S k (T 2) (q / 10)
            · rw [if_pos z, if_pos ⟨by trivial, z⟩, n32_al]
            · rw [if_neg z, if_neg (fun x => z x.2), Int32.add_zero, Nat.add_zero]
        · rw [if_neg hg]
          have hf : ftB T cd S n V k = false := by unfold ftB; rw [show alB (agP V (lmA T cd S k (T 2))) n = false by simpa using hg, Bool.and_false]
          exact ⟨fun _ => skip m2 hf t2 w2 (fun q hq => b2.1 27 0 q (by omega)) (fun q hq => b2.1 26 0 q (by omega)) k2, fun x => absurd (by trivial) x⟩
      · rw [if_neg hp]
        have hf : ftB T cd S n V k = false := by unfold ftB; rw [show alB (prB T S k) (T 2) = false by simpa using hp, Bool.false_and]
        exact ⟨fun _ => skip m1 hf e2 e3 (fun q hq => rfl) (fun q hq => rfl) e8, fun x => absurd (by trivial) x⟩
  · rw [rI]
    by_cases eq : q = k
    · subst eq
      rw [if_pos ⟨rfl, rfl, rfl⟩]
    · rw [if_neg (fun x => eq x.2.2)]; exact e4 q (by omega)
/-! the reference -/
theorem pm_fits {m : mi_M} {T : Nat → Nat} {cd : Nat → List Int32} {S : Nat → Int32} {n s : Nat} {V : Nat → Nat × Nat × Nat} (h : mT m T cd) (hS : mSt m 0 S) (hs : sOK T S) (hn : n ≤ 8) (hV : ∀ k, k < n → (V k).1 < T 0 ∧ (V k).2.1 ≤ 9 ∧ (V k).2.2 ≤ 1) (h38 : m.1 64 0 38 = n32 n) (hsi : ∀ k, k < n → m.1 64 0 (39 + 3 * k) = n32 (V k).1 ∧ m.1 64 0 (40 + 3 * k) = n32 (V k).2.1 ∧ m.1 64 0 (41 + 3 * k) = n32 (V k).2.2) :
    wo (f_X12_fitsSights (n32 s) m) (fun r => r.1 = (if ftB T cd S n V s then 1 else 0) ∧ (ftB T cd S n V s = true → ∀ p, p < T 0 → r.2.1 74 0 p = lmA T cd S s (T 2) p) ∧ kp (fun k i _ => pmE k i ∨ (k = 74 ∧ i = 0)) m r.2) := by
  have hT := h.1.2.1
  have h82 := hT.1.2.1
  have h60 := hT.1.1
  unfold f_X12_fitsSights
  rw [pw_bo]
  refine pl_for (fun k s' => s'.1 = n32 k ∧ (∀ p, p < k → s'.2.1 74 0 p = S (2 + p)) ∧ kp (fun k i _ => pmE k i ∨ (k = 74 ∧ i = 0)) m s'.2) (T 0) (by omega) ⟨rfl, fun p hp => absurd hp (by omega), kp.rf⟩ ?_
  rintro k ⟨l43, m1⟩ hk ⟨e1, e2, e3⟩
  simp only at e1 e2 e3
  subst e1
  have t1 : mT m1 T cd := h.mv e3 (fun k i p a b d => by omega)
  have S1 : mSt m1 0 S := hS.mv e3 (fun p a b d => by omega)
  unfold f_X12_fitsSights_B2
  simp (disch := omega) only [pm_people t1.1.1, pw_if, pw_some, pw_g, pw_let, pw_bo, n32_le, lr_r, lr_l, n32_la, n32_in, n32_cl, n32_al]
  refine ⟨fun hz => ?_, fun hz => ⟨by omega, by omega, by omega, by trivial, fun p hp => ?_, e3.wI (Or.inr ⟨rfl, rfl⟩)⟩⟩
  · have : k = T 0 := by omega
    subst this
    unfold f_X12_fitsSights_K2
    rw [pw_bo]
    refine pl_for (fun k s' => s'.1 = (if alB (prB T S s) k then (1 : Int32) else 0) ∧ s'.2.1 = n32 k ∧ (alB (prB T S s) k = true → ∀ p, p < T 0 → s'.2.2.1 74 0 p = lmA T cd S s k p) ∧ kp (fun k i _ => pmE k i ∨ (k = 74 ∧ i = 0)) m s'.2.2) (T 2) (by omega) ⟨rfl, rfl, fun _ p hp => e2 p hp, e3⟩ ?_
    clear e2 e3 t1 S1 hz hk m1
    rintro k ⟨l22, l23, m1⟩ hk ⟨e1, e2, e3, e4⟩
    simp only at e1 e2 e3 e4
    subst e1 e2
    have t1 : mT m1 T cd := h.mv e4 (fun k i p a b d => by omega)
    have S1 : mSt m1 0 S := hS.mv e4 (fun p a b d => by omega)
    have ea : alB (prB T S s) (k + 1) = (alB (prB T S s) k && prB T S s k) := rfl
    have el : lmA T cd S s (k + 1) = if s.testBit k = true then fu (lmA T cd S s k) (toA T k) (clA 0 99 (lmA T cd S s k (toA T k) + loW T cd S k)) else lmA T cd S s k := rfl
    unfold f_X12_fitsSights_B34
    simp (disch := omega) only [pm_wrongs t1.1.1, pw_if, pw_some, pw_bo, n32_le, lr_r, tb_1]
    refine ⟨fun hz => ?_, fun hz => ⟨fun ht => ?_, fun ht => ?_⟩⟩
    · have : k = T 2 := by omega
      subst this
      unfold f_X12_fitsSights_K34
      simp only [pw_bo]
      have r38 : m1.1 64 0 38 = n32 n := by rw [e4.1 64 0 38 (by omega)]; exact h38
      have rsi : ∀ k, k < n → m1.1 64 0 (39 + 3 * k) = n32 (V k).1 ∧ m1.1 64 0 (40 + 3 * k) = n32 (V k).2.1 ∧ m1.1 64 0 (41 + 3 * k) = n32 (V k).2.2 := fun k hk => by
        rw [e4.1 64 0 _ (by omega), e4.1 64 0 _ (by omega), e4.1 64 0 _ (by omega)]; exact hsi k hk
      refine pl_for (fun t s' => s' = ((if (alB (prB T S s) (T 2) && alB (agP V (lmA T cd S s (T 2))) t) then (1 : Int32) else 0), n32 t)) n (by omega) (by show (_, _) = _; rw [show alB (agP V (lmA T cd S s (T 2))) 0 = true from rfl, Bool.and_true]; rfl) ?_
      rintro t s' ht rfl
      unfold f_X12_fitsSights_B124
      simp (disch := omega) only [n32_lin, n32_lcl, r38, pw_if, pw_some, pw_g, pw_let, n32_le, lr_r, n32_lm, n32_la, n32_al, n32_in, n32_cl]
      refine ⟨by omega, fun hy => ?_, fun hy => ?_⟩
      · have : t = n := by omega
        subst this
        unfold f_X12_fitsSights_K124
        rw [pw_g, pw_some]
        refine ⟨by split <;> decide, rfl, fun hf => ?_, e4⟩
        unfold ftB at hf
        exact e3 (by simp at hf; exact hf.1)
      · have ht : t < n := by omega
        obtain ⟨v1, v2, v3⟩ := hV t ht
        obtain ⟨z1, z2, z3⟩ := rsi t ht
        have eg : alB (agP V (lmA T cd S s (T 2))) (t + 1) = (alB (agP V (lmA T cd S s (T 2))) t && agP V (lmA T cd S s (T 2)) t) := rfl
        have j202 : ∀ (u : Bool), u = (alB (prB T S s) (T 2) && alB (agP V (lmA T cd S s (T 2))) (t + 1)) → wo (f_X12_fitsSights_J202 (n32 t) (if u then 1 else 0)) (lr (fun s' => t < n ∧ s' = ((if (alB (prB T S s) (T 2) && alB (agP V (lmA T cd S s (T 2))) (t + 1)) then (1 : Int32) else 0), n32 (t + 1))) (fun e => wo (f_X12_fitsSights_K124 m1 e) (fun r => r.1 = (if ftB T cd S n V s then 1 else 0) ∧ (ftB T cd S n V s = true → ∀ p, p < T 0 → r.2.1 74 0 p = lmA T cd S s (T 2) p) ∧ kp (fun k i _ => pmE k i ∨ (k = 74 ∧ i = 0)) m r.2))) := by
          intro u hu
          unfold f_X12_fitsSights_J202
          rw [pw_some, lr_l, ← hu, n32_al]
          exact ⟨ht, rfl⟩
        by_cases hb : (alB (prB T S s) (T 2) && alB (agP V (lmA T cd S s (T 2))) t) = true
        · rw [hb]
          refine ⟨fun x => absurd x (by decide), fun _ => ?_⟩
          have hp : alB (prB T S s) (T 2) = true := by simp at hb; exact hb.1
          have hq : alB (agP V (lmA T cd S s (T 2))) t = true := by simp at hb; exact hb.2
          rw [hp, eg, hq, Bool.true_and, Bool.true_and] at j202
          rw [z1, show 39 + 3 * t + 1 = 40 + 3 * t by omega, z2]
          simp (disch := omega) only [n32_in, n32_cl, e3 hp (V t).1 v1]
          have j176 : ∀ (u : Bool), u = decide (n32 (V t).2.1 < lmA T cd S s (T 2) (V t).1) → wo (f_X12_fitsSights_J176 m1 (n32 t) (n32 (39 + 3 * t)) (if u then 1 else 0)) (lr (fun s' => t < n ∧ s' = ((if (alB (prB T S s) (T 2) && alB (agP V (lmA T cd S s (T 2))) (t + 1)) then (1 : Int32) else 0), n32 (t + 1))) (fun e => wo (f_X12_fitsSights_K124 m1 e) (fun r => r.1 = (if ftB T cd S n V s then 1 else 0) ∧ (ftB T cd S n V s = true → ∀ p, p < T 0 → r.2.1 74 0 p = lmA T cd S s (T 2) p) ∧ kp (fun k i _ => pmE k i ∨ (k = 74 ∧ i = 0)) m r.2))) := by
            intro u hu
            unfold f_X12_fitsSights_J176 f_X12_fitsSights_J194 f_X12_fitsSights_J201
            simp (disch := omega) only [n32_al, n32_in, n32_cl, pw_g, pw_if]
            rw [show 39 + 3 * t + 2 = 41 + 3 * t by omega, z3]
            have key : agP V (lmA T cd S s (T 2)) t = (u == decide ((V t).2.2 = 1)) := by unfold agP; rw [hu]
            rw [hp, eg, hq, Bool.true_and, Bool.true_and]
            rw [key] at j202 ⊢
            refine ⟨by omega, fun x => ?_, fun x => ?_⟩
            · rw [show (1 : Int32) = n32 1 from rfl, n32_eq (by omega) (by omega)] at x
              rw [x] at j202 ⊢
              cases u with
              | true => exact ⟨fun _ => j202 true rfl, fun z => absurd rfl z⟩
              | false => exact ⟨fun z => absurd z (by decide), fun _ => j202 false rfl⟩
            · rw [show (1 : Int32) = n32 1 from rfl, n32_eq (by omega) (by omega)] at x
              rw [show (V t).2.2 = 0 by omega] at j202 ⊢
              cases u with
              | true => exact ⟨fun z => absurd z (by decide), fun _ => j202 false rfl⟩
              | false => exact ⟨fun _ => j202 true rfl, fun z => absurd rfl z⟩
          refine ⟨by omega, by omega, by omega, fun x => ?_, fun x => ?_⟩
          · exact j176 false (decide_eq_false (i32_nlt.mpr x)).symm
          · exact j176 true (decide_eq_true (i32_nle.mp x)).symm
        · have hb : (alB (prB T S s) (T 2) && alB (agP V (lmA T cd S s (T 2))) t) = false := by simpa using hb
          rw [hb]
          refine ⟨fun _ => ?_, fun x => absurd rfl x⟩
          unfold f_X12_fitsSights_J201
          refine j202 false ?_
          rw [eg, ← Bool.and_assoc, hb]; rfl
    · have hk : k < T 2 := by omega
      obtain ⟨b1, b2, b3, b4, b5⟩ := hT.2.2.1 k hk
      have e14 := S1 (14 + k) (by omega)
      have e0 := S1 0 (by omega)
      rw [Nat.zero_add] at e14 e0
      have j69 : ∀ (u : Bool), u = (alB (prB T S s) (k + 1)) → wo (f_X12_fitsSights_J69 (n32 k) m1 (if u then 1 else 0)) (lr (fun s' => k < T 2 ∧ s'.1 = (if alB (prB T S s) (k + 1) then (1 : Int32) else 0) ∧ s'.2.1 = n32 (k + 1) ∧ (alB (prB T S s) (k + 1) = true → ∀ p, p < T 0 → s'.2.2.1 74 0 p = lmA T cd S s (k + 1) p) ∧ kp (fun k i _ => pmE k i ∨ (k = 74 ∧ i = 0)) m s'.2.2) (fun e => wo (f_X12_fitsSights_K34 e) (fun r => r.1 = (if ftB T cd S n V s then 1 else 0) ∧ (ftB T cd S n V s = true → ∀ p, p < T 0 → r.2.1 74 0 p = lmA T cd S s (T 2) p) ∧ kp (fun k i _ => pmE k i ∨ (k = 74 ∧ i = 0)) m r.2))) := by
        intro u hu
        unfold f_X12_fitsSights_J69 f_X12_fitsSights_J116
        rw [pm_to t1.1.1 (by omega), pe_bo]
        simp (disch := omega) only [pw_g, pw_b, pw_bo, pw_let, pw_some, n32_la, n32_lin, n32_lcl, n32_in, n32_cl, e14, e0]
        refine ⟨by omega, by omega, by omega, pw_mono (pm_burnOf t1 hk) ?_⟩
        rintro ⟨v, m2⟩ ⟨d1, d2⟩
        simp only at d1 d2
        subst d1
        simp only [pm_atMost, pw_some, lr_l, n32_al]
        refine ⟨by omega, hk, by rw [← hu], by trivial, fun ha p hp => ?_, (e4.tr (d2.mo (fun k i p a => by omega))).wI (Or.inr ⟨rfl, rfl⟩)⟩
        have ha2 : alB (prB T S s) k = true ∧ prB T S s k = true := by rw [ea] at ha; simpa using ha
        have hr : S (22 + k) = 0 ∧ S (14 + k) ≤ n32 (barA T k) := by
          have := ha2.2
          unfold prB at this
          rw [ht] at this
          have : rpB T S k = true := by simpa using this
          exact of_decide_eq_true this
        have hlo : loW T cd S k = burnA T cd k (S (14 + k)) (S 0) := by
          obtain ⟨esn, lsn⟩ := sN_eq hs (show k < 8 by omega)
          have lb := barA_le hT k
          have := hr.2
          rw [esn, n32_le (by omega) (by omega)] at this
          unfold loW
          rw [show min (sN S k) (barA T k) = sN S k by omega, ← esn]
        rw [el, if_pos ht, rI]
        by_cases ep : p = toA T k
        · subst ep
          rw [if_pos ⟨rfl, rfl, rfl⟩, fu_eq, hlo, e3 ha2.1 (toA T k) b2]
        · rw [if_neg (fun x => ep x.2.2), fu_ne ep, d2.1 74 0 p (by omega)]
          exact e3 ha2.1 p hp
      unfold f_X12_fitsSights_J68
      by_cases ha : alB (prB T S s) k = true
      · rw [ha] at ea ⊢
        rw [Bool.true_and] at ea
        refine ⟨fun x => absurd x (by decide), fun _ => ?_⟩
        rw [show f_X12_isRipe 0 (n32 k) m1 = _ from pm_isRipe (b := 0) t1.1.1 hT S1 (Nat.zero_le _) hk, pw_some]
        by_cases hr : S (22 + k) = 0 ∧ S (14 + k) ≤ n32 (barA T k)
        · rw [if_pos hr]
          exact ⟨fun x => absurd x (by decide), fun _ => j69 true (by rw [ea]; unfold prB rpB; rw [ht, decide_eq_true hr]; rfl)⟩
        · rw [if_neg hr]
          exact ⟨fun _ => j69 false (by rw [ea]; unfold prB rpB; rw [ht, decide_eq_false hr]; rfl), fun x => absurd (by trivial) x⟩
      · have ha : alB (prB T S s) k = false := by simpa using ha
        rw [ha] at ea ⊢
        exact ⟨fun _ => j69 false (by rw [ea]; rfl), fun x => absurd rfl x⟩
    · have ht : s.testBit k = false := by simpa using ht
      have ea2 : alB (prB T S s) (k + 1) = alB (prB T S s) k := by
        rw [ea]; unfold prB; rw [ht]; simp
      unfold f_X12_fitsSights_J116
      rw [pw_some, lr_l, ea2, n32_al, el, ht]
      exact ⟨by omega, rfl, rfl, e3, e4⟩
  · rw [rI]
    have e2k := S1 (2 + k) (by omega)
    rw [Nat.zero_add] at e2k
    by_cases ep : p = k
    · subst ep
      rw [if_pos ⟨rfl, rfl, rfl⟩, e2k]
    · rw [if_neg (fun x => ep x.2.2)]; exact e2 p (by omega)
