/-! ===== among: the developers' words of a list ===== -/
def am (W : Int64) : List Int32 → Int32 → Int64 → Int32
  | [], w, o => if o = W then w else -1
  | c :: r, w, o => if c = 32 then (if o = W then w else am W r (w + 1) 0) else am W r w (o * 32 + c.toInt64 - 96)
def bts (n : Nat) : List Int32 := mi_byt.getD n []
theorem bts_ok : ∀ n, n < 12 → mi_sn n = (bts n).length ∧ (bts n).length < 100 ∧ ∀ i, i < (bts n).length → ((((mi_sb n i) &&& (255 : Int32))).toUInt32 % 65536).toInt32 = mi_sb n i := by decide +kernel
theorem bts_at {n i : Nat} (h : i < (bts n).length) : mi_sb n i = (bts n)[i] := by
  unfold mi_sb
  show (bts n).getD i 0 = _
  rw [List.getD_eq_getElem?_getD, List.getElem?_eq_getElem h]
  rfl
theorem pc_len {n : Nat} {m : mi_M} (hn : n < 12) : f_J0_length_8abf5 n m = some (n32 (bts n).length) := by
  unfold f_J0_length_8abf5 f_J0_coder_7d493 f_J0_coder_7d493_J14
  rw [if_neg (by decide), pe_g (show narrow FieldType.byte (Value.int 0) = Value.int 0 from rfl), pe_bo, (bts_ok n hn).1]
  have : ∀ k, k < 100 → (nI k) >>> ((0 : Int32) &&& 31) = n32 k := by decide +kernel
  rw [this _ (bts_ok n hn).2.1]
