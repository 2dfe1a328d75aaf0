def wO (n N : Nat) (m : mi_M) : Option (Nat × Nat) → Prop
  | none => m.1 0 0 4 = 1048576
  | some b => m.1 0 0 4 = n32 b.1 ∧ b.1 ≤ 1800 ∧ ∀ i, i < N → m.1 15 0 i = dg n (b.2 / 9 ^ (N - 1 - i) % 9)
theorem wO.mv {n N : Nat} {m m' : mi_M} {o : Option (Nat × Nat)} {P : Nat → Nat → Nat → Prop} (h : wO n N m o) (hk : kp P m m') (h4 : ¬ P 0 0 4) (h15 : ∀ p, ¬ P 15 0 p) : wO n N m' o := by
  cases o with
  | none => show m'.1 0 0 4 = _; rw [hk.1 0 0 4 h4]; exact h
  | some b => exact ⟨by rw [hk.1 0 0 4 h4]; exact h.1, h.2.1, fun i hi => by rw [hk.1 15 0 i (h15 i)]; exact h.2.2 i hi⟩
abbrev kW (c d k i p : Nat) : Prop := pcE c k i ∨ ((k = 5 ∨ k = 34 ∨ k = 35 ∨ k = 36) ∧ 22 + d < i) ∨ (k = 14 ∧ i = 0 ∧ d ≤ p) ∨ (k = 15 ∧ i = 0) ∨ (k = 0 ∧ i = 0 ∧ p = 4)
theorem d9p {c j e : Nat} (hj : j < 9) : (c * 9 + j) / 9 ^ (e + 1) = c / 9 ^ e := by
  rw [show 9 ^ (e + 1) = 9 * 9 ^ e by rw [Nat.pow_succ, Nat.mul_comm], ← Nat.div_div_eq_div_mul]
  congr 1
  omega
theorem pc_try {cc N : Nat} {T : Nat → Nat} {cd : Nat → List Int32} (hN : N ≤ 3) : ∀ k d fu (S : Nat → Int32) h c o m, d + k = N → k < fu → cT m cc T cd → cSt m (22 + d) S → sOK T S → S 1 = n32 h → h ≤ 600 * d → wO (T 2) N m o → (∀ i, i < d → m.1 14 0 i = dg (T 2) (c / 9 ^ (d - 1 - i) % 9)) → (∀ b, o = some b → b.2 < c * 9 ^ k ∧ h < b.1) → wo (fg_X0_tryAsks fu cc (n32 d) (n32 N) m) (fun m' => cT m' cc T cd ∧ kp (fun k i p => kW cc d k i p) m m' ∧ ∃ o', wO (T 2) N m' o' ∧ wPost (fun h' c' => c' / 9 ^ k = c ∧ sim T cd k S h c' = some h') o o' ((c + 1) * 9 ^ k))
  | k, d, 0, _, _, _, _, _, _, hf, _, _, _, _, _, _, _, _ => absurd hf (by omega)
  | 0, d, fu + 1, S, h, c, o, m, hd, hf, hc, hS, hs, hh, hl, ho, hp, hb => by
    show wo (f_X0_tryAsks_ (fg_X0_tryAsks fu) cc (n32 d) (n32 N) m) _
    have : d = N := by omega
    subst this
    unfold f_X0_tryAsks_ f_X0_tryAsks_J10
    rw [if_pos (by rw [n32_le (by omega) (by omega)]; omega), pw_g, n32_in (by omega), n32_cl (by omega), pw_let, pw_let, pw_some]
    rw [show 0 * 0 + 22 + d = 22 + d by omega, hS.1.2.1, hh]
    have kc : kp (fun k i p => k = 15 ∧ i = 0 ∨ k = 0 ∧ i = 0 ∧ p = 4) m (mi_cp (mi_wI m 0 0 4 (n32 h)) 14 0 15 0 3) := by
      have k0 : kp (fun k i p => k = 15 ∧ i = 0 ∨ k = 0 ∧ i = 0 ∧ p = 4) m (mi_wI m 0 0 4 (n32 h)) := kp.rf.wI (Or.inr ⟨rfl, rfl, rfl⟩)
      generalize mi_wI m 0 0 4 (n32 h) = mw at k0
      have k1 : kp (fun k i p => k = 15 ∧ i = 0 ∨ k = 0 ∧ i = 0 ∧ p = 4) mw (mi_cp mw 14 0 15 0 3) := by
        refine ⟨fun a b c hn => ?_, fun a b c _ => rfl, rfl⟩
        unfold mi_cp
        dsimp only
        rw [if_neg (fun z => hn (Or.inl ⟨z.1, z.2.1⟩))]
      exact k0.tr k1
    refine ⟨by omega, hc.mv kc (fun k i p a b => by unfold cTk at b; omega), kc.mo (fun k i p a => by omega), some (h, c), ⟨?_, by show h ≤ 1800; omega, fun i hi => ?_⟩, Or.inr ⟨h, c, rfl, by simp, rfl⟩, fun b hb2 => ⟨_, rfl, ?_⟩, fun h' c' g => ⟨_, rfl, ?_⟩, fun b hb2 => ?_⟩
    · unfold mi_cp
      dsimp only
      rw [if_neg (by omega), rI_eq]
    · unfold mi_cp
      dsimp only
      rw [if_pos ⟨rfl, rfl, by omega⟩, rI_ne (by omega)]
      exact hp i hi
    · have := (hb b hb2).2
      unfold btw; dsimp only; omega
    · have g1 : c' = c := by simpa using g.1
      have g2 : h = h' := Option.some.inj g.2
      unfold btw; dsimp only; omega
    · cases hb2
      show c < (c + 1) * 9 ^ 0
      omega
  | k + 1, d, fu + 1, S, h, c, o, m, hd, hf, hc, hS, hs, hh, hl, ho, hp, hb => by
    have hT := hc.1.2.1
    have h8 := hT.1.2.1
    show wo (f_X0_tryAsks_ (fg_X0_tryAsks fu) cc (n32 d) (n32 N) m) _
    unfold f_X0_tryAsks_
    rw [if_neg (by rw [n32_le (by omega) (by omega)]; omega), if_pos (by rw [show (3 : Int32) = n32 3 from rfl, n32_lt (by omega) (by omega)]; omega), pw_g, n32_in (by omega), n32_cl (by omega), pw_let, pw_g, n32_al, n32_in (by omega), n32_cl (by omega), pw_let, pw_bo]
    rw [show 0 * 0 + 22 + d = 22 + d by omega, show 0 * 0 + 22 + (d + 1) = 22 + (d + 1) by omega]
    refine ⟨by omega, by omega, ?_⟩
    refine pl_for (fun j z => z.1 = n32 j ∧ cT z.2 cc T cd ∧ kp (fun k i p => kW cc d k i p) m z.2 ∧ ∃ o', wO (T 2) N z.2 o' ∧ wPost (fun h' c' => (∃ x, x < j ∧ c' / 9 ^ k = c * 9 + x) ∧ sim T cd (k + 1) S h c' = some h') o o' ((c * 9 + j) * 9 ^ k)) (T 2 + 1) (by omega) ⟨rfl, hc, kp.rf, o, ho, wPost.no (fun b hb2 => ?_) (fun h' c' g => ?_)⟩ ?_
    · have := (hb b hb2).1
      rw [Nat.pow_succ] at this
      rw [Nat.add_zero, Nat.mul_assoc, Nat.mul_comm 9]
      exact this
    · obtain ⟨x, hx, -⟩ := g.1
      omega
    · rintro j ⟨l, m1⟩ hj ⟨e1, c1, k1, o1, w1, p1⟩
      simp only at e1 c1 k1 w1
      subst e1
      have s1 : cSt m1 (22 + d) S := hS.mv k1 (fun k j p a b e => by omega)
      unfold f_X0_tryAsks_B59
      dsimp only
      rw [show m1.1 8 cc 1 = n32 (T 2) from c1.1.1.1.2.1]
      simp (disch := omega) only [pw_if, n32_lt, pw_some, lr_r, n32_le]
      refine ⟨fun x => ?_, fun x => ?_⟩
      · have : j = T 2 + 1 := by omega
        subst this
        unfold f_X0_tryAsks_K59
        rw [pw_some]
        refine ⟨c1, k1, o1, w1, p1.cg (fun h' c' => ⟨fun g => ?_, fun g => ?_⟩) ?_⟩
        · obtain ⟨⟨x, x1, x2⟩, g2⟩ := g
          exact ⟨(d9r x2 (by omega)).1, g2⟩
        · refine ⟨⟨c' / 9 ^ k % 9, ?_, d9 g.1⟩, g.2⟩
          have g2 := g.2
          rw [sim_s] at g2
          split at g2
          · cases g2
          · omega
        · rw [Nat.pow_succ, Nat.mul_comm (9 ^ k) 9, ← Nat.mul_assoc]
          exact Nat.mul_le_mul_right _ (by omega)
      · have skip : ∀ m2 o2, cT m2 cc T cd → kp (fun k i p => kW cc d k i p) m m2 → wO (T 2) N m2 o2 → wPost (fun h' c' => c' / 9 ^ k = c * 9 + j ∧ sim T cd (k + 1) S h c' = some h') o1 o2 ((c * 9 + j + 1) * 9 ^ k) → wo (f_X0_tryAsks_J167 (n32 j) m2) (lr (fun z => j < T 2 + 1 ∧ z.1 = n32 (j + 1) ∧ cT z.2 cc T cd ∧ kp (fun k i p => kW cc d k i p) m z.2 ∧ ∃ o', wO (T 2) N z.2 o' ∧ wPost (fun h' c' => (∃ x, x < j + 1 ∧ c' / 9 ^ k = c * 9 + x) ∧ sim T cd (k + 1) S h c' = some h') o o' ((c * 9 + (j + 1)) * 9 ^ k)) (fun e => wo (f_X0_tryAsks_K59 e) (fun m' => cT m' cc T cd ∧ kp (fun k i p => kW cc d k i p) m m' ∧ ∃ o', wO (T 2) N m' o' ∧ wPost (fun h' c' => c' / 9 ^ (k + 1) = c ∧ sim T cd (k + 1) S h c' = some h') o o' ((c + 1) * 9 ^ (k + 1))))) := by
          intro m2 o2 c2 k2 w2 p2
          unfold f_X0_tryAsks_J167
          rw [pw_some, lr_l, n32_al]
          refine ⟨by omega, rfl, c2, k2, o2, w2, (p1.sq p2).cg (fun h' c' => ⟨fun g => ?_, fun g => ?_⟩) (Nat.le_of_eq (by rw [Nat.add_assoc]))⟩
          · rcases g with ⟨⟨x, x1, x2⟩, g⟩ | ⟨g1, g⟩
            · exact ⟨⟨x, by omega, x2⟩, g⟩
            · exact ⟨⟨j, by omega, g1⟩, g⟩
          · obtain ⟨⟨x, x1, x2⟩, g⟩ := g
            by_cases e : x = j
            · subst e; exact Or.inr ⟨x2, g⟩
            · exact Or.inl ⟨⟨x, by omega, x2⟩, g⟩
        have bd : ∀ b, o1 = some b → b.2 < (c * 9 + j) * 9 ^ k := p1.2.2.2
        have gap : (c * 9 + j) * 9 ^ k < (c * 9 + j + 1) * 9 ^ k := Nat.mul_lt_mul_of_pos_right (by omega) (by first | exact Nat.pow_pos (by decide) | exact Nat.pos_pow (by decide))
        have hm := hmN_le hT (lsA (wQ T cd S j) 0)
        have hm : wH T cd S j ≤ 600 := hm
        have opn : ∀ c' h', c' / 9 ^ k = c * 9 + j → (sim T cd (k + 1) S h c' = some h' ↔ ¬ (j < T 2 ∧ S (22 + j) ≠ 0) ∧ sim T cd k (wS T cd S j) (h + wH T cd S j) c' = some h') := by
          intro c' h' g
          rw [sim_s, (d9r g (by omega)).2]
          by_cases q : j < T 2 ∧ S (22 + j) ≠ 0
          · rw [if_pos (Or.inr q)]
            exact ⟨fun z => (by cases z), fun z => absurd q z.1⟩
          · rw [if_neg (by rintro (z | z); omega; exact q z)]
            exact ⟨fun z => ⟨q, z⟩, fun z => z.2⟩
        have j145 : ¬ (j < T 2 ∧ S (22 + j) ≠ 0) → ∀ m2, cT m2 cc T cd → cSt m2 (22 + (d + 1)) (wS T cd S j) → kp (fun k i _ => pcE cc k i ∨ pcS (22 + (d + 1)) k i) m1 m2 → wo (f_X0_tryAsks_J145 (fg_X0_tryAsks fu) cc (n32 d) (n32 N) (22 + (d + 1)) (n32 j) m2 (dg (T 2) j)) (lr (fun z => j < T 2 + 1 ∧ z.1 = n32 (j + 1) ∧ cT z.2 cc T cd ∧ kp (fun k i p => kW cc d k i p) m z.2 ∧ ∃ o', wO (T 2) N z.2 o' ∧ wPost (fun h' c' => (∃ x, x < j + 1 ∧ c' / 9 ^ k = c * 9 + x) ∧ sim T cd (k + 1) S h c' = some h') o o' ((c * 9 + (j + 1)) * 9 ^ k)) (fun e => wo (f_X0_tryAsks_K59 e) (fun m' => cT m' cc T cd ∧ kp (fun k i p => kW cc d k i p) m m' ∧ ∃ o', wO (T 2) N m' o' ∧ wPost (fun h' c' => c' / 9 ^ (k + 1) = c ∧ sim T cd (k + 1) S h c' = some h') o o' ((c + 1) * 9 ^ (k + 1))))) := by
          intro ok m2 c2 s2 k2
          have hS1 := wS_1 (T := T) (cd := cd) (o := j) hh
          unfold f_X0_tryAsks_J145
          rw [pw_g, n32_in (by omega), n32_cl (by omega), pw_let]
          refine ⟨by omega, ?_⟩
          have kw : kp (fun k i p => k = 14 ∧ i = 0 ∧ p = d) m2 (mi_wI m2 14 0 d (dg (T 2) j)) := kp.rf.wI ⟨rfl, rfl, rfl⟩
          have c3 := c2.mv kw (fun k i p a b => by unfold cTk at b; omega)
          have s3 : cSt (mi_wI m2 14 0 d (dg (T 2) j)) (22 + (d + 1)) (wS T cd S j) := s2.mv kw (fun k i p a b e => by omega)
          have w3 : wO (T 2) N (mi_wI m2 14 0 d (dg (T 2) j)) o1 := (w1.mv k2 (by omega) (fun p x => by omega)).mv kw (by omega) (fun p x => by omega)
          have kk : kp (fun k i p => kW cc d k i p) m (mi_wI m2 14 0 d (dg (T 2) j)) := (k1.tr (k2.mo (fun k i p a => by omega))).tr (kw.mo (fun k i p a => by omega))
          rw [s3.1.2.1, hS1, pw_if]
          have cutv : (mi_wI m2 14 0 d (dg (T 2) j)).1 0 0 4 ≤ n32 (h + wH T cd S j) ↔ ∃ b, o1 = some b ∧ b.1 ≤ h + wH T cd S j := by
            cases o1 with
            | none =>
              rw [show (mi_wI m2 14 0 d (dg (T 2) j)).1 0 0 4 = n32 1048576 from w3, n32_le (by omega) (by omega)]
              exact ⟨fun z => absurd z (by omega), fun ⟨b, z, _⟩ => (by cases z)⟩
            | some b =>
              have := w3.2.1
              rw [w3.1, n32_le (by omega) (by omega)]
              exact ⟨fun z => ⟨b, rfl, z⟩, fun ⟨b2, z, z2⟩ => (by cases z; exact z2)⟩
          rw [cutv]
          refine ⟨fun ⟨b, q1, q2⟩ => skip _ o1 c3 kk w3 (wPost.no (fun b hb2 => by have := bd b hb2; omega) (fun h' c' g => ⟨b, q1, ?_⟩)), fun q => ?_⟩
          · have g2 := ((opn c' h' g.1).mp g.2).2
            have := sim_le g2
            have := bd b q1
            have : (c * 9 + j) * 9 ^ k ≤ c' := by rw [← g.1]; exact Nat.div_mul_le_self _ _
            unfold btw; dsimp only; omega
          · rw [pw_bo, n32_al]
            refine pw_mono (pc_try hN k (d + 1) fu (wS T cd S j) (h + wH T cd S j) (c * 9 + j) o1 _ (by omega) (by omega) c3 s3 (aSleep_ok hT (wQ_ok hT hs)) hS1 (by omega) w3 (fun i hi => ?_) (fun b hb2 => ⟨bd b hb2, ?_⟩)) ?_
            · by_cases e : i = d
              · subst e
                rw [rI_eq, show i + 1 - 1 - i = 0 by omega]
                congr 1
                simp only [Nat.pow_zero, Nat.div_one]
                omega
              · rw [rI_ne (by omega), k2.1 14 0 i (by omega), k1.1 14 0 i (by omega), hp i (by omega), show d + 1 - 1 - i = (d - 1 - i) + 1 by omega, d9p (by omega)]
            · exact Classical.byContradiction (fun z => q ⟨b, hb2, by omega⟩)
            · rintro m4 ⟨c4, k4, o4, w4, p4⟩
              exact skip m4 o4 c4 (kk.tr (k4.mo (fun k i p a => by omega))) w4 (p4.cg (fun h' c' => ⟨fun g => ⟨g.1, (opn c' h' g.1).mpr ⟨ok, g.2⟩⟩, fun g => ⟨g.1, ((opn c' h' g.1).mp g.2).2⟩⟩) (Nat.le_refl _))
        have run : ¬ (j < T 2 ∧ S (22 + j) ≠ 0) → ∀ u : Int32, (u = 0 ∧ T 2 ≤ j ∨ u = 1 ∧ j < T 2) → wo (f_X0_tryAsks_J102 (fg_X0_tryAsks fu) cc (n32 d) (n32 N) (22 + d) (22 + (d + 1)) (n32 j) m1 u) (lr (fun z => j < T 2 + 1 ∧ z.1 = n32 (j + 1) ∧ cT z.2 cc T cd ∧ kp (fun k i p => kW cc d k i p) m z.2 ∧ ∃ o', wO (T 2) N z.2 o' ∧ wPost (fun h' c' => (∃ x, x < j + 1 ∧ c' / 9 ^ k = c * 9 + x) ∧ sim T cd (k + 1) S h c' = some h') o o' ((c * 9 + (j + 1)) * 9 ^ k)) (fun e => wo (f_X0_tryAsks_K59 e) (fun m' => cT m' cc T cd ∧ kp (fun k i p => kW cc d k i p) m m' ∧ ∃ o', wO (T 2) N m' o' ∧ wPost (fun h' c' => c' / 9 ^ (k + 1) = c ∧ sim T cd (k + 1) S h c' = some h') o o' ((c + 1) * 9 ^ (k + 1))))) := by
          intro ok u hu
          unfold f_X0_tryAsks_J102 f_X0_tryAsks_J123
          rw [pw_bo]
          refine pw_mono (pc_become (i := 22 + (d + 1)) s1) ?_
          rintro m2 ⟨s2, k2⟩
          have c2 := c1.mv k2 (fun k i p a b => by unfold cTk at b; omega)
          rcases hu with ⟨rfl, hu⟩ | ⟨rfl, hu⟩
          · rw [if_pos rfl, pw_bo]
            refine pw_mono (pc_sleep c2 s2 hs) ?_
            rintro m3 ⟨s3, c3, k3'⟩
            rw [if_pos rfl]
            have e1 : wS T cd S j = aSleep T cd S := by unfold wS wQ; rw [if_neg (by omega)]
            have := j145 ok m3 c3 (by rw [e1]; exact s3) ((k2.mo (fun k i p a => Or.inr a)).tr k3')
            rw [show dg (T 2) j = -1 from if_neg (by omega)] at this
            exact this
          · rw [if_neg (by decide), pw_bo]
            have h0 : S (22 + j) = 0 := Classical.byContradiction (fun z => ok ⟨hu, z⟩)
            refine pw_mono (pc_beg (k := 0) c2 s2 hs hu (by omega) h0) ?_
            rintro m3 ⟨s3, c3, k3'⟩
            rw [pw_bo]
            refine pw_mono (pc_sleep c3 s3 (aAsk_ok hT hs hu)) ?_
            rintro m4 ⟨s4, c4, k4⟩
            rw [if_neg (by decide)]
            have e1 : wS T cd S j = aSleep T cd (aAsk T cd S j 0) := by unfold wS wQ; rw [if_pos hu]
            have := j145 ok m4 c4 (by rw [e1]; exact s4) (((k2.mo (fun k i p a => Or.inr a)).tr k3').tr k4)
            rw [show dg (T 2) j = n32 j from if_pos hu] at this
            exact this
        unfold f_X0_tryAsks_J82
        refine ⟨fun y => ?_, fun y => ?_⟩
        · rw [if_pos rfl]
          exact run (fun z => by omega) 0 (Or.inl ⟨rfl, y⟩)
        · rw [if_neg (by decide), pc_isForgiven s1 hs (by omega), pw_bo, pw_some]
          by_cases e : S (22 + j) = 0
          · rw [if_pos e]
            exact run (fun z => z.2 e) 1 (Or.inr ⟨rfl, by omega⟩)
          · rw [if_neg e]
            exact skip m1 o1 c1 k1 w1 (wPost.no (fun b hb2 => by have := bd b hb2; omega) (fun h' c' g => absurd ⟨by omega, e⟩ ((opn c' h' g.1).mp g.2).1))
