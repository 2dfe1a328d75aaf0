/-! ===== tokens: where they begin, where they end ===== -/
def gT (L : List Nat) (i : Nat) : Nat := L.getD i 0
def ltr (s : Nat) : Bool := decide (97 ≤ s ∧ s ≤ 122)
def dgt (s : Nat) : Bool := decide (48 ≤ s ∧ s ≤ 57)
def blk (s : Nat) : Bool := decide (s = 10 ∨ s = 32)
/-- the first place from k on that is no blank -/
def skA (L : List Nat) (k : Nat) : Nat := fq (fun i => !blk (gT L i)) (L.length - k) k
/-- the first place from k on where that does not hold -/
def spA (P : Nat → Bool) (L : List Nat) (k : Nat) : Nat := fq (fun i => !P (gT L i)) (L.length - k) k
theorem fq_at {P : Nat → Bool} {k w v : Nat} (h1 : w ≤ v) (h2 : v ≤ w + k) (h3 : ∀ j, w ≤ j → j < v → P j = false) (h4 : v < w + k → P v = true) : fq P k w = v := by
  obtain ⟨a1, a2, a3, a4⟩ := fq_sp (P := P) k w
  have x1 : ¬ v < fq P k w := fun x => by
    have := a3 v h1 x
    rw [h4 (by omega)] at this
    cases this
  have x2 : ¬ fq P k w < v := fun x => by
    have := h3 _ a1 x
    rw [a4 (by omega)] at this
    cases this
  omega
theorem gT_at {L : List Nat} {i : Nat} (h : i < L.length) : gT L i = L[i] := by
  unfold gT
  rw [List.getD_eq_getElem?_getD, List.getElem?_eq_getElem h]
  rfl
theorem tp_c {m : mi_M} {L : List Nat} {i : Nat} (h : tpC m L) (hi : i < L.length) : m.1 37 0 i = n32 (gT L i) := by rw [gT_at hi]; exact h.2 i hi
theorem tp_m {m : mi_M} {L : List Nat} {i : Nat} (h : tpM m L) (hi : i < L.length) : m.1 51 0 i = n32 (gT L i) := by rw [gT_at hi]; exact h.2 i hi
theorem gT_lt {L : List Nat} (h : okL L) (i : Nat) : gT L i ≤ 126 := by
  by_cases e : i < L.length
  · rw [gT_at e]
    have := h.2 _ (List.getElem_mem e)
    unfold okS at this
    omega
  · unfold gT
    rw [List.getD_eq_getElem?_getD, List.getElem?_eq_none (by omega)]
    exact Nat.zero_le _
theorem pc_skip {m : mi_M} {L : List Nat} {k : Nat} (h : tpC m L) (hL : okL L) (hk : k ≤ L.length) : mi_lp (f_X6_advance_B5 m) mi_fu (n32 k) = some (n32 (skA L k)) := by
  have h1 := hL.1
  apply pw_eq
  refine pl_for (fun j l => l = n32 (k + j) ∧ ∀ i, k ≤ i → i < k + j → blk (gT L i) = true) (L.length - k) (by omega) ⟨rfl, fun i a b => absurd b (by omega)⟩ ?_
  rintro j l hj ⟨rfl, a2⟩
  unfold f_X6_advance_B5 f_X6_advance_J35
  rw [h.1]
  have done : (k + j < L.length → blk (gT L (k + j)) = false) → n32 (k + j) = n32 (skA L k) := by
    intro q
    unfold skA
    rw [fq_at (v := k + j) (by omega) (by omega) (fun i x y => by simp only [a2 i x y, Bool.not_true]) (fun x => by simp only [q (by omega), Bool.not_false])]
  simp (disch := omega) only [pw_if, n32_le, pw_some, lr_r, lr_l, pw_g, n32_in, n32_cl, n32_al]
  refine ⟨fun x => done (fun y => absurd y (by omega)), fun x => ⟨by omega, ?_⟩⟩
  have g := gT_lt hL (k + j)
  rw [tp_c h (by omega)]
  simp (disch := omega) only [n32_eqL]
  have nx : blk (gT L (k + j)) = true → j < L.length - k ∧ n32 (k + j + 1) = n32 (k + (j + 1)) ∧ ∀ i, k ≤ i → i < k + (j + 1) → blk (gT L i) = true := by
    intro q
    refine ⟨by omega, rfl, fun i a b => ?_⟩
    by_cases e : i = k + j
    · rw [e]; exact q
    · exact a2 i a (by omega)
  refine ⟨fun y => nx (decide_eq_true (Or.inl y)), fun y => ⟨by omega, fun z => nx (decide_eq_true (Or.inr z)), fun z => done (fun _ => decide_eq_false (fun q => q.elim y z))⟩⟩
