/-- a row of signs from p as a number to a base, z the sign before the first digit -/
def wN (b z : Nat) (L : List Nat) (p : Nat) : Nat → Nat
  | 0 => 0
  | n + 1 => wN b z L p n * b + (gT L (p + n) - z)
theorem wN_s {b z p n : Nat} {L : List Nat} : wN b z L p (n + 1) = wN b z L p n * b + (gT L (p + n) - z) := rfl
theorem sp_at {P : Nat → Bool} {L : List Nat} {k v : Nat} (h1 : k ≤ v) (h2 : v ≤ L.length) (h3 : ∀ j, k ≤ j → j < v → P (gT L j) = true) (h4 : v < L.length → P (gT L v) = false) : spA P L k = v := by
  unfold spA
  exact fq_at h1 (by omega) (fun j a b => by simp only [h3 j a b, Bool.not_true]) (fun x => by simp only [h4 (by omega), Bool.not_false])
abbrev k6 (k i p : Nat) : Prop := i = 0 ∧ (k = 6 ∧ (p = 1 ∨ p = 2 ∨ p = 3 ∨ p = 6) ∨ k = 106 ∧ p = 4)
theorem pc_takeNumber {m : mi_M} {L : List Nat} {k : Nat} (h : tpC m L) (hL : okL L) (hk : k ≤ L.length) (hp : m.1 6 0 2 = n32 k) (hv : m.1 6 0 3 = 0) : wo (f_X6_takeNumber m) (fun m' => m'.1 6 0 6 = n32 (spA dgt L k) ∧ m'.1 6 0 1 = (if spA dgt L k - k ≤ 4 then 3 else 1) ∧ (spA dgt L k - k ≤ 4 → m'.1 6 0 3 = n32 (wN 10 48 L k (spA dgt L k - k))) ∧ kp (fun k i p => i = 0 ∧ k = 6 ∧ (p = 1 ∨ p = 3 ∨ p = 6)) m m') := by
  have h1 := hL.1
  unfold f_X6_takeNumber
  rw [pw_let, hp, pw_bo]
  refine pl_for (fun j z => z.1 = n32 (k + j) ∧ (∀ i, k ≤ i → i < k + j → dgt (gT L i) = true) ∧ (j ≤ 4 → z.2.1 6 0 3 = n32 (wN 10 48 L k j)) ∧ kp (fun k i p => i = 0 ∧ k = 6 ∧ p = 3) m z.2) (L.length - k) (by omega) ⟨rfl, fun i a b => absurd b (by omega), fun _ => hv, kp.rf⟩ ?_
  rintro j ⟨l, m1⟩ hj ⟨a1, a2, a3, a4⟩
  simp only at a1 a3 a4
  subst a1
  have t1 := h.mv a4 (fun p x => by omega) (by omega)
  have p1 : m1.1 6 0 2 = n32 k := by rw [a4.1 6 0 2 (by omega)]; exact hp
  have fin : (k + j < L.length → dgt (gT L (k + j)) = false) → wo (f_X6_takeNumber_K5 (n32 (k + j), m1)) (fun m' => m'.1 6 0 6 = n32 (spA dgt L k) ∧ m'.1 6 0 1 = (if spA dgt L k - k ≤ 4 then 3 else 1) ∧ (spA dgt L k - k ≤ 4 → m'.1 6 0 3 = n32 (wN 10 48 L k (spA dgt L k - k))) ∧ kp (fun k i p => i = 0 ∧ k = 6 ∧ (p = 1 ∨ p = 3 ∨ p = 6)) m m') := by
    intro q
    have e := sp_at (P := dgt) (L := L) (k := k) (v := k + j) (by omega) (by omega) a2 q
    rw [e, show k + j - k = j by omega]
    unfold f_X6_takeNumber_K5 f_X6_takeNumber_J78
    dsimp only
    rw [p1, n32_sub (by omega), show k + j - k = j by omega]
    have kk : ∀ u : Int32, kp (fun k i p => i = 0 ∧ k = 6 ∧ (p = 1 ∨ p = 3 ∨ p = 6)) m (mi_wI (mi_wI m1 6 0 1 u) 6 0 6 (n32 (k + j))) := fun u => ((a4.mo (fun k i p a => ⟨a.1, a.2.1, by omega⟩)).wI ⟨rfl, rfl, by omega⟩).wI ⟨rfl, rfl, by omega⟩
    simp (disch := omega) only [pw_if, n32_Llt, pw_let, pw_some]
    refine ⟨fun x => ⟨rI_eq, ?_, fun y => absurd y (by omega), kk 1⟩, fun x => ⟨rI_eq, ?_, fun y => ?_, kk 3⟩⟩
    · rw [rI_ne (by omega), rI_eq, if_neg (by omega)]
    · rw [rI_ne (by omega), rI_eq, if_pos (by omega)]
    · rw [rI_ne (by omega), rI_ne (by omega)]; exact a3 (by omega)
  unfold f_X6_takeNumber_B5
  dsimp only
  rw [t1.1]
  simp (disch := omega) only [pw_if, n32_le, pw_some, lr_r, pw_g, n32_in, n32_cl]
  refine ⟨fun x => fin (fun y => absurd y (by omega)), fun x => ⟨by omega, ?_⟩⟩
  have g := gT_lt hL (k + j)
  rw [tp_c t1 (by omega)]
  simp (disch := omega) only [n32_ltL, n32_Llt, pw_let, pw_some, lr_l, n32_al]
  refine ⟨fun y => fin (fun _ => decide_eq_false (by omega)), fun y => ⟨by omega, fun z => fin (fun _ => decide_eq_false (by omega)), fun z => ⟨by omega, by omega, rfl, fun i a b => ?_, fun q => ?_, a4.wI ⟨rfl, rfl, rfl⟩⟩⟩⟩
  · by_cases e : i = k + j
    · rw [e]; exact decide_eq_true ⟨by omega, by omega⟩
    · exact a2 i a (by omega)
  · rw [rI_eq, a3 (by omega), n32_ml, n32_add, show (48 : Int32) = n32 48 from rfl, n32_sub (by omega), wN_s]
    congr 1
    omega
theorem pc_takeWord {m : mi_M} {L : List Nat} {k : Nat} (h : tpC m L) (hL : okL L) (hk : k ≤ L.length) (hp : m.1 6 0 2 = n32 k) (hv : m.2.1 6 0 4 = 0) : wo (f_X6_takeWord m) (fun m' => m'.1 6 0 6 = n32 (spA ltr L k) ∧ m'.1 6 0 1 = (if spA ltr L k - k ≤ 8 then 2 else 1) ∧ (spA ltr L k - k ≤ 8 → m'.2.1 6 0 4 = n64 (wN 32 96 L k (spA ltr L k - k))) ∧ kp (fun k i p => i = 0 ∧ (k = 6 ∧ (p = 1 ∨ p = 6) ∨ k = 106 ∧ p = 4)) m m') := by
  have h1 := hL.1
  unfold f_X6_takeWord
  rw [pw_let, hp, pw_bo]
  refine pl_for (fun j z => z.1 = n32 (k + j) ∧ (∀ i, k ≤ i → i < k + j → ltr (gT L i) = true) ∧ (j ≤ 8 → z.2.2.1 6 0 4 = n64 (wN 32 96 L k j)) ∧ kp (fun k i p => i = 0 ∧ k = 106 ∧ p = 4) m z.2) (L.length - k) (by omega) ⟨rfl, fun i a b => absurd b (by omega), fun _ => hv, kp.rf⟩ ?_
  rintro j ⟨l, m1⟩ hj ⟨a1, a2, a3, a4⟩
  simp only at a1 a3 a4
  subst a1
  have t1 := h.mv a4 (fun p x => by omega) (by omega)
  have p1 : m1.1 6 0 2 = n32 k := by rw [a4.1 6 0 2 (by omega)]; exact hp
  have fin : (k + j < L.length → ltr (gT L (k + j)) = false) → wo (f_X6_takeWord_K5 (n32 (k + j), m1)) (fun m' => m'.1 6 0 6 = n32 (spA ltr L k) ∧ m'.1 6 0 1 = (if spA ltr L k - k ≤ 8 then 2 else 1) ∧ (spA ltr L k - k ≤ 8 → m'.2.1 6 0 4 = n64 (wN 32 96 L k (spA ltr L k - k))) ∧ kp (fun k i p => i = 0 ∧ (k = 6 ∧ (p = 1 ∨ p = 6) ∨ k = 106 ∧ p = 4)) m m') := by
    intro q
    have e := sp_at (P := ltr) (L := L) (k := k) (v := k + j) (by omega) (by omega) a2 q
    rw [e, show k + j - k = j by omega]
    unfold f_X6_takeWord_K5 f_X6_takeWord_J82
    dsimp only
    rw [p1, n32_sub (by omega), show k + j - k = j by omega]
    have kk : ∀ u : Int32, kp (fun k i p => i = 0 ∧ (k = 6 ∧ (p = 1 ∨ p = 6) ∨ k = 106 ∧ p = 4)) m (mi_wI (mi_wI m1 6 0 1 u) 6 0 6 (n32 (k + j))) := fun u => ((a4.mo (fun k i p a => ⟨a.1, Or.inr a.2⟩)).wI ⟨rfl, by omega⟩).wI ⟨rfl, by omega⟩
    simp (disch := omega) only [pw_if, n32_Llt, pw_let, pw_some]
    refine ⟨fun x => ⟨rI_eq, ?_, fun y => absurd y (by omega), kk 1⟩, fun x => ⟨rI_eq, ?_, fun y => ?_, kk 2⟩⟩
    · rw [rI_ne (by omega), rI_eq, if_neg (by omega)]
    · rw [rI_ne (by omega), rI_eq, if_pos (by omega)]
    · exact a3 (by omega)
  unfold f_X6_takeWord_B5
  dsimp only
  rw [t1.1]
  simp (disch := omega) only [pw_if, n32_le, pw_some, lr_r, pw_g, n32_in, n32_cl]
  refine ⟨fun x => fin (fun y => absurd y (by omega)), fun x => ⟨by omega, ?_⟩⟩
  have g := gT_lt hL (k + j)
  rw [tp_c t1 (by omega)]
  simp (disch := omega) only [n32_ltL, n32_Llt, pw_let, pw_some, lr_l, n32_al]
  refine ⟨fun y => fin (fun _ => decide_eq_false (by omega)), fun y => ⟨by omega, fun z => fin (fun _ => decide_eq_false (by omega)), fun z => ⟨by omega, by omega, rfl, fun i a b => ?_, fun q => ?_, a4.wL ⟨rfl, rfl, rfl⟩⟩⟩⟩
  · by_cases e : i = k + j
    · rw [e]; exact decide_eq_true ⟨by omega, by omega⟩
    · exact a2 i a (by omega)
  · rw [rL, if_pos ⟨rfl, rfl, rfl⟩, a3 (by omega), n32_64 (by omega), show (32 : Int64) = n64 32 from rfl, n64_mul, n64_add, show (96 : Int64) = n64 96 from rfl, n64_sub (by omega), wN_s]
    congr 1
    omega
