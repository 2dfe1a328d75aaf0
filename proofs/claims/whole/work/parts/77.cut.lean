/-! ===== tokens: the reference cuts all of them ===== -/
theorem pm_isDigit {s : Nat} {m : mi_M} (hs : s < 127) : f_X12_isDigit (n32 s) m = some (if dgt s then 1 else 0) := by
  apply pw_eq
  unfold f_X12_isDigit f_X12_isDigit_J16 f_X12_isDigit_J17 dgt
  simp (disch := omega) only [pw_if, pw_g, pw_some, n32_ltL, n32_Llt]
  refine ⟨fun x => ⟨by decide, ?_⟩, fun x => ⟨fun y => ⟨by decide, ?_⟩, fun y => ⟨by decide, ?_⟩⟩⟩
  · rw [decide_eq_false (by omega)]; rfl
  · rw [decide_eq_false (by omega)]; rfl
  · rw [decide_eq_true (by omega)]; rfl
theorem pm_isLetter {s : Nat} {m : mi_M} (hs : s < 127) : f_X12_isLetter (n32 s) m = some (if ltr s then 1 else 0) := by
  apply pw_eq
  unfold f_X12_isLetter f_X12_isLetter_J16 f_X12_isLetter_J17 ltr
  simp (disch := omega) only [pw_if, pw_g, pw_some, n32_ltL, n32_Llt]
  refine ⟨fun x => ⟨by decide, ?_⟩, fun x => ⟨fun y => ⟨by decide, ?_⟩, fun y => ⟨by decide, ?_⟩⟩⟩
  · rw [decide_eq_false (by omega)]; rfl
  · rw [decide_eq_false (by omega)]; rfl
  · rw [decide_eq_true (by omega)]; rfl
theorem pm_isSignOf {m : mi_M} {s : Nat} (hs : s < 127) : f_X12_isSignOf (n32 s) m = some (if sgn s then 1 else 0) := by
  apply pw_eq
  unfold f_X12_isSignOf f_X12_isSignOf_J48 f_X12_isSignOf_J53 sgn
  simp (disch := omega) only [pw_if, pw_g, pw_some, n32_eqL]
  refine ⟨fun x => ⟨by decide, ?_⟩, fun x1 => ⟨fun x => ⟨by decide, ?_⟩, fun x2 => ⟨fun x => ⟨by decide, ?_⟩, fun x3 => ⟨fun x => ⟨by decide, ?_⟩, fun x4 => ⟨fun x => ⟨by decide, ?_⟩, fun x5 => ⟨fun x => ⟨by decide, ?_⟩, fun x6 => ⟨fun x => ⟨by decide, ?_⟩, fun x7 => ⟨fun x => ⟨by decide, ?_⟩, fun x8 => ⟨by decide, ?_⟩⟩⟩⟩⟩⟩⟩⟩⟩
  all_goals first | (rw [decide_eq_true (by omega)]; rfl) | (rw [decide_eq_false (by omega)]; rfl)
theorem pm_word {m : mi_M} {L : List Nat} {p : Nat} (h : ∀ i, i < L.length → m.1 51 0 i = n32 (gT L i)) (hz : m.1 12 0 3 = n32 L.length) (hL : okL L) (hp : p ≤ L.length) : wo (mi_lp (f_X12_cutAll_B70 (n32 p) m) mi_fu (n32 p, (0 : Int64))) (fun e => e.1 = n32 (spA ltr L p) ∧ (spA ltr L p - p ≤ 8 → e.2 = n64 (wN 37 96 L p (spA ltr L p - p)))) := by
  have h1 := hL.1
  refine pl_for (fun j z => z.1 = n32 (p + j) ∧ (∀ i, p ≤ i → i < p + j → ltr (gT L i) = true) ∧ (j ≤ 8 → z.2 = n64 (wN 37 96 L p j))) (L.length - p) (by omega) ⟨rfl, fun i a b => absurd b (by omega), fun _ => rfl⟩ ?_
  rintro j ⟨l, v⟩ hj ⟨a1, a2, a3⟩
  simp only at a1 a3
  subst a1
  have done : (p + j < L.length → ltr (gT L (p + j)) = false) → n32 (p + j) = n32 (spA ltr L p) ∧ (spA ltr L p - p ≤ 8 → v = n64 (wN 37 96 L p (spA ltr L p - p))) := by
    intro q
    have e := sp_at (P := ltr) (L := L) (k := p) (v := p + j) (by omega) (by omega) a2 q
    rw [e, show p + j - p = j by omega]
    exact ⟨rfl, a3⟩
  unfold f_X12_cutAll_B70 f_X12_cutAll_J121
  dsimp only
  rw [hz]
  simp (disch := omega) only [pw_if, n32_le, pw_some, lr_r, pw_g, n32_in, n32_cl]
  refine ⟨fun x => done (fun y => absurd y (by omega)), fun x => ⟨by omega, ?_⟩⟩
  have g := gT_lt hL (p + j)
  rw [h _ (by omega), pm_isLetter (by omega), pw_bo, pw_some]
  cases q : ltr (gT L (p + j)) with
  | false =>
    rw [if_pos (show (if false = true then (1 : Int32) else 0) = 0 by decide), pw_some, lr_r]
    exact done (fun _ => q)
  | true =>
    have q2 : 97 ≤ gT L (p + j) ∧ gT L (p + j) ≤ 122 := of_decide_eq_true q
    have nx : ∀ i, p ≤ i → i < p + (j + 1) → ltr (gT L i) = true := by
      intro i a b
      by_cases e : i = p + j
      · rw [e]; exact q
      · exact a2 i a (by omega)
    rw [if_neg (show ¬ (if true = true then (1 : Int32) else 0) = 0 by decide), n32_sub (by omega), show p + j - p = j by omega]
    unfold f_X12_rank f_X12_rank_J18
    rw [pm_isLetter (by omega), q]
    simp (disch := omega) only [pw_if, n32_Lle, pw_some, lr_l, n32_al, pw_g, n32_in, pw_bo]
    refine ⟨fun y => ⟨by omega, rfl, nx, fun z => absurd z (by omega)⟩, fun y => ⟨by omega, fun z => absurd z (by decide), fun _ => ⟨by omega, rfl, nx, fun z => ?_⟩⟩⟩
    rw [a3 (by omega), show (96 : Int32) = n32 96 from rfl, n32_sub (by omega), n32_64 (by omega), show (37 : Int64) = n64 37 from rfl, n64_mul, n64_add, wN_s, Nat.mul_comm 37]
theorem pm_numb {m : mi_M} {L : List Nat} {p : Nat} (h : ∀ i, i < L.length → m.1 51 0 i = n32 (gT L i)) (hz : m.1 12 0 3 = n32 L.length) (hL : okL L) (hp : p ≤ L.length) : wo (mi_lp (f_X12_cutAll_B159 (n32 p) m) mi_fu (n32 p, (0 : Int64))) (fun e => e.1 = n32 (spA dgt L p) ∧ (spA dgt L p - p ≤ 4 → e.2 = n64 (wN 10 48 L p (spA dgt L p - p)))) := by
  have h1 := hL.1
  refine pl_for (fun j z => z.1 = n32 (p + j) ∧ (∀ i, p ≤ i → i < p + j → dgt (gT L i) = true) ∧ (j ≤ 4 → z.2 = n64 (wN 10 48 L p j))) (L.length - p) (by omega) ⟨rfl, fun i a b => absurd b (by omega), fun _ => rfl⟩ ?_
  rintro j ⟨l, v⟩ hj ⟨a1, a2, a3⟩
  simp only at a1 a3
  subst a1
  have done : (p + j < L.length → dgt (gT L (p + j)) = false) → n32 (p + j) = n32 (spA dgt L p) ∧ (spA dgt L p - p ≤ 4 → v = n64 (wN 10 48 L p (spA dgt L p - p))) := by
    intro q
    have e := sp_at (P := dgt) (L := L) (k := p) (v := p + j) (by omega) (by omega) a2 q
    rw [e, show p + j - p = j by omega]
    exact ⟨rfl, a3⟩
  unfold f_X12_cutAll_B159 f_X12_cutAll_J210
  dsimp only
  rw [hz]
  simp (disch := omega) only [pw_if, n32_le, pw_some, lr_r, pw_g, n32_in, n32_cl]
  refine ⟨fun x => done (fun y => absurd y (by omega)), fun x => ⟨by omega, ?_⟩⟩
  have g := gT_lt hL (p + j)
  rw [h _ (by omega), pm_isDigit (by omega), pw_bo, pw_some]
  cases q : dgt (gT L (p + j)) with
  | false =>
    rw [if_pos (show (if false = true then (1 : Int32) else 0) = 0 by decide), pw_some, lr_r]
    exact done (fun _ => q)
  | true =>
    have q2 : 48 ≤ gT L (p + j) ∧ gT L (p + j) ≤ 57 := of_decide_eq_true q
    have nx : ∀ i, p ≤ i → i < p + (j + 1) → dgt (gT L i) = true := by
      intro i a b
      by_cases e : i = p + j
      · rw [e]; exact q
      · exact a2 i a (by omega)
    rw [if_neg (show ¬ (if true = true then (1 : Int32) else 0) = 0 by decide), n32_sub (by omega), show p + j - p = j by omega]
    simp (disch := omega) only [pw_if, n32_Lle, pw_some, lr_l, n32_al, pw_g, n32_in]
    refine ⟨fun y => ⟨by omega, rfl, nx, fun z => absurd z (by omega)⟩, fun y => ⟨by omega, by omega, rfl, nx, fun z => ?_⟩⟩
    rw [a3 (by omega), n32_64 (by omega), show (10 : Int64) = n64 10 from rfl, n64_mul, n64_add, show (48 : Int64) = n64 48 from rfl, n64_sub (by omega), wN_s, Nat.mul_comm 10]
    congr 1
    omega
