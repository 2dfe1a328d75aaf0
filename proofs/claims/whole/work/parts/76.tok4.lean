def nxT (L : List Nat) (p : Nat) : Nat := if p < L.length then (if ltr (gT L p) then spA ltr L p else if dgt (gT L p) then spA dgt L p else p + 1) else p
/-- 0 the end, 1 nothing, 2 a word, 3 a number, 4 a sign -/
def kdT (L : List Nat) (p : Nat) : Nat := if p < L.length then (if ltr (gT L p) then (if spA ltr L p - p ≤ 8 then 2 else 1) else if dgt (gT L p) then (if spA dgt L p - p ≤ 4 then 3 else 1) else if sgn (gT L p) then 4 else 1) else 0
def tokC (m : mi_M) (L : List Nat) (p : Nat) : Prop := m.1 6 0 2 = n32 p ∧ m.1 6 0 6 = n32 (nxT L p) ∧ m.1 6 0 1 = n32 (kdT L p) ∧ (kdT L p = 3 → m.1 6 0 3 = n32 (wN 10 48 L p (nxT L p - p))) ∧ (kdT L p = 4 → m.1 6 0 3 = n32 (gT L p)) ∧ (kdT L p = 2 → m.2.1 6 0 4 = n64 (wN 32 96 L p (nxT L p - p)))
theorem skA_b {L : List Nat} {k : Nat} (hk : k ≤ L.length) : k ≤ skA L k ∧ skA L k ≤ L.length := by
  obtain ⟨a1, a2, -, -⟩ := fq_sp (P := fun i => !blk (gT L i)) (L.length - k) k
  unfold skA
  omega
theorem pc_advance {m : mi_M} {L : List Nat} {k : Nat} (h : tpC m L) (hL : okL L) (hk : k ≤ L.length) (hn : m.1 6 0 6 = n32 k) : wo (f_X6_advance m) (fun m' => tokC m' L (skA L k) ∧ tpC m' L ∧ kp (fun k i p => k6 k i p) m m') := by
  have h1 := hL.1
  obtain ⟨s1, s2⟩ := skA_b (L := L) hk
  unfold f_X6_advance
  rw [pw_let, hn, pc_skip h hL hk, pw_bo, pw_some]
  generalize skA L k = p at s1 s2
  unfold f_X6_advance_K5 f_X6_advance_J162
  rw [pw_let, pw_let, pw_let, pw_let]
  have kw : kp (fun k i p => k6 k i p) m (mi_wL (mi_wI (mi_wI (mi_wI m 6 0 2 (n32 p)) 6 0 6 (n32 p)) 6 0 3 0) 6 0 4 0) := (((kp.rf.wI ⟨rfl, by omega⟩).wI ⟨rfl, by omega⟩).wI ⟨rfl, by omega⟩).wL ⟨rfl, by omega⟩
  have w2 : (mi_wL (mi_wI (mi_wI (mi_wI m 6 0 2 (n32 p)) 6 0 6 (n32 p)) 6 0 3 0) 6 0 4 0).1 6 0 2 = n32 p := by rw [rLI, rI_ne (by omega), rI_ne (by omega), rI_eq]
  have w6 : (mi_wL (mi_wI (mi_wI (mi_wI m 6 0 2 (n32 p)) 6 0 6 (n32 p)) 6 0 3 0) 6 0 4 0).1 6 0 6 = n32 p := by rw [rLI, rI_ne (by omega), rI_eq]
  have w3 : (mi_wL (mi_wI (mi_wI (mi_wI m 6 0 2 (n32 p)) 6 0 6 (n32 p)) 6 0 3 0) 6 0 4 0).1 6 0 3 = 0 := by rw [rLI, rI_eq]
  have w4 : (mi_wL (mi_wI (mi_wI (mi_wI m 6 0 2 (n32 p)) 6 0 6 (n32 p)) 6 0 3 0) 6 0 4 0).2.1 6 0 4 = 0 := by rw [rL, if_pos ⟨rfl, rfl, rfl⟩]
  generalize mi_wL (mi_wI (mi_wI (mi_wI m 6 0 2 (n32 p)) 6 0 6 (n32 p)) 6 0 3 0) 6 0 4 0 = m1 at kw w2 w6 w3 w4
  have t1 := h.mv kw (fun p x => by omega) (by omega)
  rw [t1.1]
  by_cases hp : p < L.length
  · have g := gT_lt hL p
    rw [if_pos (by rw [n32_lt (by omega) (by omega)]; exact hp), pw_g, n32_in (by omega), n32_cl (by omega), tp_c t1 hp]
    refine ⟨by omega, ?_⟩
    rw [pc_within, pw_bo, pw_some]
    simp (disch := omega) only [n32_Lle, n32_leL]
    by_cases hl : 97 ≤ gT L p ∧ gT L p ≤ 122
    · have hl2 : ltr (gT L p) = true := decide_eq_true hl
      rw [if_pos hl, if_neg (by decide), pw_bo]
      refine pw_mono (pc_takeWord t1 hL s2 w2 w4) ?_
      rintro m2 ⟨a1, a2, a3, a4⟩
      rw [pw_some]
      have en : nxT L p = spA ltr L p := by unfold nxT; rw [if_pos hp, if_pos hl2]
      have ek : kdT L p = if spA ltr L p - p ≤ 8 then 2 else 1 := by unfold kdT; rw [if_pos hp, if_pos hl2]
      refine ⟨⟨by rw [a4.1 6 0 2 (by omega)]; exact w2, by rw [en]; exact a1, ?_, fun x => ?_, fun x => ?_, fun x => ?_⟩, t1.mv a4 (fun p x => by omega) (by omega), kw.tr (a4.mo (fun k i p a => by omega))⟩
      · rw [a2, ek]; split <;> rfl
      · rw [ek] at x; split at x <;> omega
      · rw [ek] at x; split at x <;> omega
      · rw [en]
        refine a3 ?_
        rw [ek] at x
        split at x
        · assumption
        · omega
    · have hl2 : ltr (gT L p) = false := decide_eq_false hl
      rw [if_neg hl, if_pos rfl, pw_g, pc_within, pw_bo, pw_some]
      simp (disch := omega) only [n32_Lle, n32_leL]
      refine ⟨by omega, ?_⟩
      by_cases hd : 48 ≤ gT L p ∧ gT L p ≤ 57
      · have hd2 : dgt (gT L p) = true := decide_eq_true hd
        rw [if_pos hd, if_neg (by decide), pw_bo]
        refine pw_mono (pc_takeNumber t1 hL s2 w2 w3) ?_
        rintro m2 ⟨a1, a2, a3, a4⟩
        rw [pw_some]
        have en : nxT L p = spA dgt L p := by unfold nxT; rw [if_pos hp, if_neg (by rw [hl2]; decide), if_pos hd2]
        have ek : kdT L p = if spA dgt L p - p ≤ 4 then 3 else 1 := by unfold kdT; rw [if_pos hp, if_neg (by rw [hl2]; decide), if_pos hd2]
        refine ⟨⟨by rw [a4.1 6 0 2 (by omega)]; exact w2, by rw [en]; exact a1, ?_, fun x => ?_, fun x => ?_, fun x => ?_⟩, t1.mv a4 (fun p x => by omega) (by omega), kw.tr (a4.mo (fun k i p a => by omega))⟩
        · rw [a2, ek]; split <;> rfl
        · rw [en]
          refine a3 ?_
          rw [ek] at x
          split at x
          · assumption
          · omega
        · rw [ek] at x; split at x <;> omega
        · rw [ek] at x; split at x <;> omega
      · have hd2 : dgt (gT L p) = false := decide_eq_false hd
        rw [if_neg hd, if_pos rfl, pw_g, pw_let, rI_eq, pw_bo]
        have en : nxT L p = p + 1 := by unfold nxT; rw [if_pos hp, if_neg (by rw [hl2]; decide), if_neg (by rw [hd2]; decide)]
        have ek : kdT L p = if sgn (gT L p) then 4 else 1 := by unfold kdT; rw [if_pos hp, if_neg (by rw [hl2]; decide), if_neg (by rw [hd2]; decide)]
        refine ⟨by omega, pw_mono (pc_sign (s := gT L p) (by omega)) ?_⟩
        rintro r ⟨r1, r2⟩
        have fin : ∀ u : Int32, u = n32 (kdT L p) → wo (f_X6_advance_J152 (n32 p) (mi_wI m1 6 0 3 (n32 (gT L p))) u) (fun m' => tokC m' L p ∧ tpC m' L ∧ kp (fun k i p => k6 k i p) m m') := by
          rintro u rfl
          unfold f_X6_advance_J152 f_X6_advance_J162
          rw [pw_let, pw_let, pw_some, n32_al]
          have kk : kp (fun k i p => i = 0 ∧ k = 6 ∧ (p = 1 ∨ p = 3 ∨ p = 6)) m1 (mi_wI (mi_wI (mi_wI m1 6 0 3 (n32 (gT L p))) 6 0 1 (n32 (kdT L p))) 6 0 6 (n32 (p + 1))) := ((kp.rf.wI ⟨rfl, rfl, by omega⟩).wI ⟨rfl, rfl, by omega⟩).wI ⟨rfl, rfl, by omega⟩
          refine ⟨⟨by rw [kk.1 6 0 2 (by omega)]; exact w2, by rw [rI_eq, en], by rw [rI_ne (by omega), rI_eq], fun x => ?_, fun x => by rw [rI_ne (by omega), rI_ne (by omega), rI_eq], fun x => ?_⟩, t1.mv kk (fun p x => by omega) (by omega), kw.tr (kk.mo (fun k i p a => by omega))⟩
          · rw [ek] at x; split at x <;> omega
          · rw [ek] at x; split at x <;> omega
        cases q : sgn (gT L p) with
        | true =>
          rw [if_neg (r1 q)]
          exact fin 4 (by rw [ek, q]; rfl)
        | false =>
          rw [if_pos (r2 q)]
          exact fin 1 (by rw [ek, q]; rfl)
  · have en : nxT L p = p := if_neg hp
    have ek : kdT L p = 0 := if_neg hp
    rw [if_neg (by rw [n32_lt (by omega) (by omega)]; exact hp), pw_let, pw_some]
    have kk : kp (fun k i p => i = 0 ∧ k = 6 ∧ p = 1) m1 (mi_wI m1 6 0 1 0) := kp.rf.wI ⟨rfl, rfl, rfl⟩
    exact ⟨⟨by rw [kk.1 6 0 2 (by omega)]; exact w2, by rw [kk.1 6 0 6 (by omega), en]; exact w6, by rw [rI_eq, ek]; rfl, fun x => absurd x (by omega), fun x => absurd x (by omega), fun x => absurd x (by omega)⟩, t1.mv kk (fun p x => by omega) (by omega), kw.tr (kk.mo (fun k i p a => by omega))⟩
