/-! ===== least ways by one number: the darkness times 1024, and the minutes ===== -/
abbrev XX : Nat := 1048576
def fl (W : Nat → Nat → Nat) : Nat → Nat → Nat → Nat
  | 0, i, j => if i = j then 0 else W i j
  | k + 1, i, j => min (fl W k i j) (fl W k i k + fl W k k j)
theorem fl_ii (W : Nat → Nat → Nat) : ∀ k i, fl W k i i = 0
  | 0, i => by simp [fl]
  | k + 1, i => by
    show min _ _ = 0
    rw [fl_ii W k i]
    omega
theorem fl_le {W : Nat → Nat → Nat} (hW : ∀ i j, W i j ≤ XX) : ∀ k i j, fl W k i j ≤ XX
  | 0, i, j => by
    unfold fl
    split
    · omega
    · exact hW i j
  | k + 1, i, j => by
    have := fl_le hW k i j
    show min _ _ ≤ _
    omega
theorem fl_dn (W : Nat → Nat → Nat) (k i j : Nat) : fl W (k + 1) i j ≤ fl W k i j := by
  show min _ _ ≤ _
  omega
theorem fl_col (W : Nat → Nat → Nat) (k i : Nat) : fl W (k + 1) i k = fl W k i k := by
  have := fl_ii W k k
  show min _ _ = _
  omega
theorem fl_row (W : Nat → Nat → Nat) (k j : Nat) : fl W (k + 1) k j = fl W k k j := by
  have := fl_ii W k k
  show min _ _ = _
  omega
theorem fl_tri (W : Nat → Nat → Nat) : ∀ k v i j, v < k → fl W k i j ≤ fl W k i v + fl W k v j
  | 0, v, i, j, h => absurd h (by omega)
  | k + 1, v, i, j, h => by
    by_cases e : v = k
    · subst e
      rw [fl_col, fl_row]
      show min _ _ ≤ _
      omega
    · have h1 := fl_tri W k v i j (by omega)
      have h2 := fl_tri W k v k j (by omega)
      have h3 := fl_tri W k v i k (by omega)
      show min (fl W k i j) (fl W k i k + fl W k k j) ≤ min (fl W k i v) (fl W k i k + fl W k k v) + min (fl W k v j) (fl W k v k + fl W k k j)
      omega
def c6 (V : Nat → Bool) : Nat := (V 0).toNat + (V 1).toNat + (V 2).toNat + (V 3).toNat + (V 4).toNat + (V 5).toNat
theorem c6_1 {V1 V2 : Nat → Bool} {k : Nat} (hk : k < 6) (h1 : V1 k = false) (h2 : V2 k = false) (hd : ∀ v, V1 v = true → V2 v = true → False) : c6 (fun v => V1 v || V2 v || decide (v = k)) = c6 V1 + c6 V2 + 1 := by
  have key : ∀ v, ((V1 v || V2 v || decide (v = k)).toNat : Nat) = (V1 v).toNat + (V2 v).toNat + (if v = k then 1 else 0) := by
    intro v
    by_cases e : v = k
    · subst e; simp [h1, h2]
    · have := hd v
      cases ha : V1 v <;> cases hb : V2 v <;> simp_all
  unfold c6
  simp only [key]
  have : k = 0 ∨ k = 1 ∨ k = 2 ∨ k = 3 ∨ k = 4 ∨ k = 5 := by omega
  rcases this with rfl | rfl | rfl | rfl | rfl | rfl <;> simp <;> omega
theorem c6_4 {V : Nat → Bool} {i j : Nat} (hi : i < 6) (hj : j < 6) (hij : i ≠ j) (h1 : V i = false) (h2 : V j = false) : c6 V ≤ 4 := by
  have key : ∀ v, (V v).toNat ≤ 1 := fun v => by cases V v <;> simp
  have k0 := key 0
  have k1 := key 1
  have k2 := key 2
  have k3 := key 3
  have k4 := key 4
  have k5 := key 5
  have e1 : (V i).toNat = 0 := by simp [h1]
  have e2 : (V j).toNat = 0 := by simp [h2]
  unfold c6
  have a : i = 0 ∨ i = 1 ∨ i = 2 ∨ i = 3 ∨ i = 4 ∨ i = 5 := by omega
  have b : j = 0 ∨ j = 1 ∨ j = 2 ∨ j = 3 ∨ j = 4 ∨ j = 5 := by omega
  rcases a with rfl | rfl | rfl | rfl | rfl | rfl <;> rcases b with rfl | rfl | rfl | rfl | rfl | rfl <;> first | exact absurd rfl hij | omega
/-- lanes: the darkness is at most e times the minutes, and these are at most 30 -/
def flW (e : Nat) (W : Nat → Nat → Nat) : Prop := ∀ i j, W i j ≤ XX ∧ (W i j < XX → ∃ d f, W i j = 1024 * d + f ∧ d ≤ e * f ∧ f ≤ 30)
theorem fl_gh {e : Nat} {W : Nat → Nat → Nat} (hW : flW e W) : ∀ k, k ≤ 6 → ∀ i j, i ≠ j → i < 6 → j < 6 → fl W k i j < XX → ∃ V : Nat → Bool, (∀ v, V v = true → v < k ∧ v ≠ i ∧ v ≠ j ∧ fl W k i v + fl W k v j ≤ fl W k i j) ∧ ∃ d f, fl W k i j = 1024 * d + f ∧ d ≤ e * f ∧ f ≤ 30 * (c6 V + 1)
  | 0, _, i, j, hij, _, _, h => by
    refine ⟨fun _ => false, fun v hv => by simp at hv, ?_⟩
    have e1 : fl W 0 i j = W i j := by unfold fl; rw [if_neg hij]
    rw [e1] at h ⊢
    obtain ⟨d, f, h1, h2, h3⟩ := (hW i j).2 h
    exact ⟨d, f, h1, h2, by unfold c6; simp; omega⟩
  | k + 1, hk, i, j, hij, hi, hj, h => by
    by_cases hc : fl W k i j ≤ fl W k i k + fl W k k j
    · have e1 : fl W (k + 1) i j = fl W k i j := by show min _ _ = _; omega
      rw [e1] at h ⊢
      obtain ⟨V, hV, hdf⟩ := fl_gh hW k (by omega) i j hij hi hj h
      refine ⟨V, fun v hv => ?_, hdf⟩
      obtain ⟨a1, a2, a3, a4⟩ := hV v hv
      have b1 := fl_dn W k i v
      have b2 := fl_dn W k v j
      exact ⟨by omega, a2, a3, by omega⟩
    · have e1 : fl W (k + 1) i j = fl W k i k + fl W k k j := by show min _ _ = _; omega
      have hle := fl_le (fun i j => (hW i j).1) k i j
      have hik : i ≠ k := by
        intro e2
        rw [e2, fl_ii] at hc
        omega
      have hjk : j ≠ k := by
        intro e2
        rw [e2, fl_ii] at hc
        omega
      obtain ⟨V1, hV1, d1, f1, x1, y1, z1⟩ := fl_gh hW k (by omega) i k hik hi (by omega) (by omega)
      obtain ⟨V2, hV2, d2, f2, x2, y2, z2⟩ := fl_gh hW k (by omega) k j (Ne.symm hjk) (by omega) hj (by omega)
      have hd : ∀ v, V1 v = true → V2 v = true → False := by
        intro v q1 q2
        obtain ⟨a1, -, -, a2⟩ := hV1 v q1
        obtain ⟨-, -, -, a3⟩ := hV2 v q2
        have := fl_tri W k v i j a1
        omega
      have n1 : V1 k = false := by
        cases q : V1 k with
        | false => rfl
        | true => exact absurd (hV1 k q).1 (by omega)
      have n2 : V2 k = false := by
        cases q : V2 k with
        | false => rfl
        | true => exact absurd (hV2 k q).1 (by omega)
      refine ⟨fun v => V1 v || V2 v || decide (v = k), fun v hv => ?_, d1 + d2, f1 + f2, by omega, by rw [Nat.mul_add]; omega, ?_⟩
      · rw [e1]
        have hv : (V1 v = true ∨ V2 v = true) ∨ v = k := by simpa using hv
        rcases hv with (hv | hv) | rfl
        · obtain ⟨a1, a2, a3, a4⟩ := hV1 v hv
          have b1 := fl_dn W k i v
          have b2 : fl W (k + 1) v j ≤ fl W k v k + fl W k k j := by show min _ _ ≤ _; omega
          refine ⟨by omega, a2, ?_, by omega⟩
          intro e2
          rw [e2] at a4
          omega
        · obtain ⟨a1, a2, a3, a4⟩ := hV2 v hv
          have b1 := fl_dn W k v j
          have b2 : fl W (k + 1) i v ≤ fl W k i k + fl W k k v := by show min _ _ ≤ _; omega
          refine ⟨by omega, ?_, a3, by omega⟩
          intro e2
          rw [e2] at a4
          omega
        · exact ⟨by omega, Ne.symm hik, Ne.symm hjk, by rw [fl_col, fl_row]; exact Nat.le_refl _⟩
      · rw [c6_1 (by omega) n1 n2 hd]
        omega
/-- of every way that there is: its darkness and its minutes -/
theorem fl_df {e : Nat} {W : Nat → Nat → Nat} (hW : flW e W) {k : Nat} (hk : k ≤ 6) {i j : Nat} (hi : i < 6) (hj : j < 6) (h : fl W k i j < XX) : ∃ d f, fl W k i j = 1024 * d + f ∧ d ≤ e * f ∧ f ≤ 150 := by
  by_cases hij : i = j
  · subst hij
    exact ⟨0, 0, by rw [fl_ii], Nat.zero_le _, Nat.zero_le _⟩
  · obtain ⟨V, hV, d, f, h1, h2, h3⟩ := fl_gh hW k hk i j hij hi hj h
    refine ⟨d, f, h1, h2, ?_⟩
    have n1 : V i = false := by
      cases q : V i with
      | false => rfl
      | true => exact absurd rfl (hV i q).2.1
    have n2 : V j = false := by
      cases q : V j with
      | false => rfl
      | true => exact absurd rfl (hV j q).2.2.1
    have := c6_4 hi hj hij n1 n2
    omega
theorem fl_far {W : Nat → Nat → Nat} (hW : ∀ i j, W i j ≤ XX) {P : Nat} (hP : ∀ i j, i ≠ j → P ≤ i ∨ P ≤ j → W i j = XX) : ∀ k i j, i ≠ j → P ≤ i ∨ P ≤ j → fl W k i j = XX
  | 0, i, j, hij, h => by
    unfold fl
    rw [if_neg hij]
    exact hP i j hij h
  | k + 1, i, j, hij, h => by
    have h0 := fl_far hW hP k i j hij h
    show min _ _ = _
    rw [h0]
    by_cases e1 : i = k
    · subst e1
      rw [h0]
      omega
    · by_cases e2 : j = k
      · subst e2
        rw [h0]
        omega
      · rcases h with h | h
        · rw [fl_far hW hP k i k e1 (Or.inl h)]
          omega
        · rw [fl_far hW hP k k j (Ne.symm e2) (Or.inr h)]
          omega
theorem fl_end {W : Nat → Nat → Nat} (hW : ∀ i j, W i j ≤ XX) {P : Nat} (hP : ∀ i j, i ≠ j → P ≤ i ∨ P ≤ j → W i j = XX) : ∀ n i j, fl W (P + n) i j = fl W P i j
  | 0, _, _ => rfl
  | n + 1, i, j => by
    have ih := fl_end hW hP n i j
    show min (fl W (P + n) i j) (fl W (P + n) i (P + n) + fl W (P + n) (P + n) j) = _
    rw [ih]
    have hle := fl_le hW P i j
    by_cases e1 : i = P + n
    · subst e1
      rw [fl_ii, ih]
      omega
    · rw [fl_far hW hP (P + n) i (P + n) e1 (Or.inr (by omega))]
      omega
/-- the two numbers of the reference -/
def dO (x : Nat) : Nat := if x < XX then x / 1024 else 1000000
def fO (x : Nat) : Nat := if x < XX then x % 1024 else 1000000
theorem dO_of {d f : Nat} (h : 1024 * d + f < XX) (hf : f < 1024) : dO (1024 * d + f) = d ∧ fO (1024 * d + f) = f := by
  unfold dO fO
  rw [if_pos h, if_pos h]
  omega
theorem dO_XX : dO XX = 1000000 ∧ fO XX = 1000000 := by
  unfold dO fO
  simp
