/-- all tokens as the reference lays them -/
def cutM (m : mi_M) (L : List Nat) : Prop := ∃ c, c ≤ L.length ∧ plT L c = L.length ∧ (∀ i, i < c → plT L i < L.length) ∧ ∀ i, i ≤ c → tokM m L i (plT L i)
theorem pm_cutAll {m : mi_M} {L : List Nat} (h : tpM m L) (hL : okL L) : wo (f_X12_cutAll m) (fun m' => cutM m' L ∧ m'.1 12 0 2 = 0 ∧ m'.1 12 0 7 = 0 ∧ m'.1 12 0 8 = 0 ∧ kp (fun k i p => kC k i p ∨ i = 0 ∧ k = 12 ∧ (p = 2 ∨ p = 3 ∨ p = 7 ∨ p = 8)) m m') := by
  have h1 := hL.1
  unfold f_X12_cutAll
  rw [pw_let, pw_let, pw_bo]
  have kw : kp (fun k i p => kC k i p ∨ i = 0 ∧ k = 12 ∧ (p = 2 ∨ p = 3 ∨ p = 7 ∨ p = 8)) m (mi_wI (mi_wI m 12 0 3 (m.1 12 0 2)) 12 0 2 0) := (kp.rf.wI (Or.inr ⟨rfl, rfl, by omega⟩)).wI (Or.inr ⟨rfl, rfl, by omega⟩)
  have w3 : (mi_wI (mi_wI m 12 0 3 (m.1 12 0 2)) 12 0 2 0).1 12 0 3 = n32 L.length := by rw [rI_ne (by omega), rI_eq]; exact h.1
  have w2 : (mi_wI (mi_wI m 12 0 3 (m.1 12 0 2)) 12 0 2 0).1 12 0 2 = 0 := rI_eq
  generalize mi_wI (mi_wI m 12 0 3 (m.1 12 0 2)) 12 0 2 0 = m1 at kw w3 w2
  have t1 : ∀ i, i < L.length → m1.1 51 0 i = n32 (gT L i) := fun i hi => by rw [kw.1 51 0 i (by omega)]; exact tp_m h hi
  refine pl_for (fun t z => ∃ n k m2, z = (n32 n, n32 k, m2) ∧ t ≤ k ∧ n ≤ k ∧ k ≤ L.length ∧ skA L k = plT L n ∧ (∀ i, i < n → plT L i < L.length ∧ tokM m2 L i (plT L i)) ∧ kp (fun k i p => kC k i p) m1 m2) L.length (by omega) ⟨0, 0, m1, rfl, by omega, by omega, by omega, rfl, fun i hi => absurd hi (by omega), kp.rf⟩ ?_
  rintro t z ht ⟨n, k, m2, rfl, a1, a2, a3, a4, a5, a6⟩
  have t2 : ∀ i, i < L.length → m2.1 51 0 i = n32 (gT L i) := fun i hi => by rw [a6.1 51 0 i (by omega)]; exact t1 i hi
  have z2 : m2.1 12 0 3 = n32 L.length := by rw [a6.1 12 0 3 (by omega)]; exact w3
  by_cases hk : k = L.length
  · subst hk
    unfold f_X12_cutAll_B17
    dsimp only
    rw [z2, if_pos (by rw [n32_le (by omega) (by omega)]; exact Nat.le_refl _), pw_some, lr_r]
    unfold f_X12_cutAll_K17
    dsimp only
    have pe : plT L n = L.length := by rw [← a4]; exact skA_n (fun x => absurd x (Nat.lt_irrefl _))
    rw [pw_g, n32_in (by omega), n32_cl (by omega), pw_let, pw_g, pw_let, pw_let, pw_let, pw_some, rI_ne (by omega), z2]
    refine ⟨by omega, by omega, ⟨n, a2, pe, fun i hi => (a5 i hi).1, fun i hi => ?_⟩, ?_, ?_, ?_, (kw.tr (a6.mo (fun k i p a => Or.inl a))).tr ((((kp.rf.wI (Or.inl ⟨rfl, by omega⟩)).wI (Or.inl ⟨rfl, by omega⟩)).wI (Or.inr ⟨rfl, rfl, by omega⟩)).wI (Or.inr ⟨rfl, rfl, by omega⟩))⟩
    · have kk : kp (fun k i p => (k = 52 ∨ k = 53) ∧ i = 0 ∧ p = n ∨ k = 12 ∧ i = 0 ∧ (p = 7 ∨ p = 8)) m2 (mi_wI (mi_wI (mi_wI (mi_wI m2 52 0 n 0) 53 0 n (n32 L.length)) 12 0 7 0) 12 0 8 0) := (((kp.rf.wI (Or.inl ⟨by omega, rfl, rfl⟩)).wI (Or.inl ⟨by omega, rfl, rfl⟩)).wI (Or.inr ⟨rfl, rfl, by omega⟩)).wI (Or.inr ⟨rfl, rfl, by omega⟩)
      by_cases e : i = n
      · subst e
        have ek : kdT L (plT L i) = 0 := by rw [pe]; exact if_neg (Nat.lt_irrefl _)
        refine ⟨?_, ?_, fun x => absurd x (by omega), fun x => absurd x (by omega), fun x => absurd x (by omega)⟩
        · rw [rI_ne (by omega), rI_ne (by omega), rI_ne (by omega), rI_eq, ek]; rfl
        · rw [rI_ne (by omega), rI_ne (by omega), rI_eq, pe]
      · exact (a5 i (by omega)).2.mv kk (by omega) (by omega) (by omega)
    · rw [rI_ne (by omega), rI_ne (by omega), rI_ne (by omega), rI_ne (by omega), a6.1 12 0 2 (by omega)]; exact w2
    · rw [rI_ne (by omega), rI_eq]
    · rw [rI_eq]
  · have hk : k < L.length := by omega
    cases hb : blk (gT L k) with
    | true =>
      have g := gT_lt hL k
      have hb2 : gT L k = 10 ∨ gT L k = 32 := of_decide_eq_true hb
      have fin : wo (f_X12_cutAll_J44 (n32 n) (n32 k) m2) (lr (fun z => t < L.length ∧ ∃ n k m2, z = (n32 n, n32 k, m2) ∧ t + 1 ≤ k ∧ n ≤ k ∧ k ≤ L.length ∧ skA L k = plT L n ∧ (∀ i, i < n → plT L i < L.length ∧ tokM m2 L i (plT L i)) ∧ kp (fun k i p => kC k i p) m1 m2) (fun e => wo (f_X12_cutAll_K17 e) (fun m' => cutM m' L ∧ m'.1 12 0 2 = 0 ∧ m'.1 12 0 7 = 0 ∧ m'.1 12 0 8 = 0 ∧ kp (fun k i p => kC k i p ∨ i = 0 ∧ k = 12 ∧ (p = 2 ∨ p = 3 ∨ p = 7 ∨ p = 8)) m m'))) := by
        unfold f_X12_cutAll_J44
        rw [pw_some, lr_l, n32_al]
        exact ⟨by omega, n, k + 1, m2, rfl, by omega, by omega, by omega, by rw [← skA_y hk hb]; exact a4, a5, a6⟩
      unfold f_X12_cutAll_B17
      dsimp only
      rw [z2, if_neg (by rw [n32_le (by omega) (by omega)]; omega), pw_g, n32_in (by omega), n32_cl (by omega), pw_let, t2 k hk]
      refine ⟨by omega, ?_⟩
      simp (disch := omega) only [pw_if, n32_eqL]
      exact ⟨fun _ => fin, fun x => ⟨fun _ => fin, fun y => absurd hb2 (by omega)⟩⟩
    | false =>
      have ek : skA L k = k := skA_n (fun _ => hb)
      rw [ek] at a4
      have nb := nxT_b hk
      refine pm_token t2 z2 hL hk hb (by omega) _ _ (fun m3 tk k3' => ⟨by omega, n + 1, nxT L k, m3, rfl, by omega, by omega, nb.2, ?_, fun i hi => ?_, a6.tr (k3'.mo (fun k i p a => a.1))⟩)
      · show skA L (nxT L k) = skA L (nxT L (plT L n))
        rw [← a4]
      · by_cases e : i = n
        · subst e
          rw [← a4]
          exact ⟨hk, tk⟩
        · exact ⟨(a5 i (by omega)).1, (a5 i (by omega)).2.mv k3' (by omega) (by omega) (by omega)⟩
