/-! ===== words: letters and their numbers ===== -/
def wd (L : List Nat) (p n : Nat) : Prop := ∀ i, i < n → ltr (gT L (p + i)) = true
theorem wN_inj {b : Nat} (hb : 27 ≤ b) {L L' : List Nat} {p p' : Nat} : ∀ {n n' : Nat}, wd L p n → wd L' p' n' → wN b 96 L p n = wN b 96 L' p' n' → n = n' ∧ ∀ i, i < n → gT L (p + i) = gT L' (p' + i)
  | 0, 0, _, _, _ => ⟨rfl, fun i hi => absurd hi (by omega)⟩
  | 0, n' + 1, _, h', e => by
    have q : 97 ≤ gT L' (p' + n') ∧ gT L' (p' + n') ≤ 122 := of_decide_eq_true (h' n' (by omega))
    rw [wN_s] at e
    have : wN b 96 L p 0 = 0 := rfl
    rw [this] at e
    generalize wN b 96 L' p' n' * b = x at e
    omega
  | n + 1, 0, h, _, e => by
    have q : 97 ≤ gT L (p + n) ∧ gT L (p + n) ≤ 122 := of_decide_eq_true (h n (by omega))
    rw [wN_s] at e
    have : wN b 96 L' p' 0 = 0 := rfl
    rw [this] at e
    generalize wN b 96 L p n * b = x at e
    omega
  | n + 1, n' + 1, h, h', e => by
    have q : 97 ≤ gT L (p + n) ∧ gT L (p + n) ≤ 122 := of_decide_eq_true (h n (by omega))
    have q' : 97 ≤ gT L' (p' + n') ∧ gT L' (p' + n') ≤ 122 := of_decide_eq_true (h' n' (by omega))
    rw [wN_s, wN_s] at e
    have e1 : (gT L (p + n) - 96) = (gT L' (p' + n') - 96) := by
      have m := congrArg (· % b) e
      simp only [Nat.mul_add_mod_of_lt (show gT L (p + n) - 96 < b by omega), Nat.mul_add_mod_of_lt (show gT L' (p' + n') - 96 < b by omega), Nat.add_mod, Nat.mul_mod_left, Nat.zero_add, Nat.mod_mod, Nat.mod_eq_of_lt (show gT L (p + n) - 96 < b by omega), Nat.mod_eq_of_lt (show gT L' (p' + n') - 96 < b by omega)] at m
      exact m
    have e2 : wN b 96 L p n = wN b 96 L' p' n' := by
      rw [e1] at e
      have e := Nat.add_right_cancel e
      exact Nat.eq_of_mul_eq_mul_right (by omega) e
    obtain ⟨i1, i2⟩ := wN_inj hb (fun i hi => h i (by omega)) (fun i hi => h' i (by omega)) e2
    subst i1
    refine ⟨rfl, fun i hi => ?_⟩
    by_cases z : i = n
    · subst z; omega
    · exact i2 i (by omega)
