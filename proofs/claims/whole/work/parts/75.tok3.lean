def sgn (s : Nat) : Bool := decide (s = 40 ∨ s = 41 ∨ s = 60 ∨ s = 61 ∨ s = 43 ∨ s = 45 ∨ s = 42 ∨ s = 59)
def sg8 (i : Nat) : Nat := [40, 41, 60, 61, 43, 45, 42, 59].getD i 0
theorem sg_b : mi_sn 0 = 8 ∧ ∀ i, i < 8 → mi_sb 0 i = n32 (sg8 i) := by decide +kernel
theorem sg_n : ∀ s, s < 127 → (sgn s = true ↔ ∃ i, i < 8 ∧ sg8 i = s) ∧ (n32 s).toInt8.toInt32 = n32 s ∧ (((n32 s)).toUInt32 % 65536).toInt32 = n32 s := by decide +kernel
theorem pc_sign {s : Nat} {m : mi_M} (hs : s < 127) : wo (f_J0_indexOf_0f7a4 0 (((n32 s).toUInt32 % 65536).toInt32) m) (fun r => (sgn s = true → ¬ r < 0) ∧ (sgn s = false → r < 0)) := by
  obtain ⟨n1, n2, n3⟩ := sg_n s hs
  obtain ⟨b1, b2⟩ := sg_b
  rw [n3]
  have hn : nI (mi_sn 0) = n32 8 := by rw [b1]; rfl
  unfold f_J0_indexOf_0f7a4 f_J0_indexOf_7cf53 f_J0_indexOf_7cf53_J36
  have e1 : f_J0_isLatin1_aae02 0 m = some 1 := by
    unfold f_J0_isLatin1_aae02 f_J0_isLatin1_aae02_J18
    rw [if_neg (by decide), if_pos rfl, pe_g (by decide)]
  have e2 : f_J0_length_8abf5 0 m = some (n32 8) := by
    unfold f_J0_length_8abf5 f_J0_coder_7d493 f_J0_coder_7d493_J14
    rw [if_neg (by decide), pe_g (show narrow FieldType.byte (Value.int 0) = Value.int 0 from rfl), pe_bo, hn]
    rfl
  rw [e1, pe_bo, if_neg (by decide), e2, pe_bo]
  unfold f_J1_indexOf_4cfef f_J1_canEncode_9a6ad f_J1_canEncode_9a6ad_J16
  rw [if_neg (n32_nn (by omega)).mp, if_neg (by rw [n32_Llt (by omega) (by decide)]; show ¬ 255 < s; omega), pe_g (by decide), pe_bo, if_neg (by decide), pe_let, hn, if_neg (show ¬ (0 : Int32) < 0 by decide), pe_let, if_neg (show ¬ n32 8 < n32 8 by decide), if_pos (show (0 : Int32) < n32 8 by decide)]
  unfold f_J1_indexOfChar_4cfef
  rw [pe_let, n2]
  simp only [pw_bo]
  refine pl_for (fun k l => l = n32 k ∧ ∀ i, i < k → sg8 i ≠ s) 8 (by omega) ⟨rfl, fun i hi => absurd hi (by omega)⟩ ?_
  rintro k l hk ⟨rfl, a2⟩
  unfold f_J1_indexOfChar_4cfef_B7
  simp (disch := omega) only [pw_if, n32_le, pw_some, lr_r, lr_l, pw_g, n32_cl, n32_al]
  refine ⟨fun x => ?_, fun x => ?_⟩
  · unfold f_J1_indexOfChar_4cfef_K7
    simp only [pw_some]
    refine ⟨fun y => ?_, fun _ => by decide⟩
    obtain ⟨i, i1, i2⟩ := n1.mp y
    exact absurd i2 (a2 i (by omega))
  · have hk : k < 8 := by omega
    have s8 : sg8 k < 127 := by
      have : ∀ k, k < 8 → sg8 k < 127 := by decide
      exact this k hk
    rw [b1, n32_in (by omega), b2 k hk, n32_eq (by omega) (by omega)]
    refine ⟨hk, fun y => ?_, fun y => ⟨hk, by trivial, fun i hi => ?_⟩⟩
    · unfold f_J1_indexOfChar_4cfef_K7
      simp only [pw_some]
      exact ⟨fun _ => (n32_nn (by omega)).mp, fun z => absurd (n1.mpr ⟨k, hk, y⟩) (by rw [z]; decide)⟩
    · by_cases e : i = k
      · rw [e]; exact y
      · exact a2 i (by omega)
