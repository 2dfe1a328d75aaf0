/-- String.checkIndex: the index is within -/
theorem w_J0_checkIndex_df160 (p0 p1 : Int32) (h : ¬ p0 < 0 ∧ p0 < p1) (mem : mi_M) : mi_Cv (2) mJ0_checkIndex_df160 [vi p0, vi p1] mem (fun m' => m' = mem) := by
  sorry
