abbrev mJ3_checkIndex_8e157 : mi_MD := (yJ3_checkIndex_8e157, cJ3_checkIndex_8e157, 3, (some .int))
set_option maxRecDepth 100000 in
theorem ck_words : Cond.methodLink RJ0 1059 mJ3_checkIndex_8e157.1 ∈ mi_T ∧ Cond.static mJ3_checkIndex_8e157.1 ∈ mi_T ∧ Cond.initialized mJ3_checkIndex_8e157.1.cls ∈ mi_T ∧ Cond.code mJ3_checkIndex_8e157.1 mJ3_checkIndex_8e157.2.1 mJ3_checkIndex_8e157.2.2.1 mJ3_checkIndex_8e157.2.2.2 ∈ mi_T ∧ Cond.fieldLink RJ0 1053 "jdk/internal/util/Preconditions" "SIOOBE_FORMATTER" "Ljava/util/function/BiFunction;" ∈ mi_T := ⟨mi_in 697 (by decide +kernel) rfl, mi_in 698 (by decide +kernel) rfl, mi_in 129 (by decide +kernel) rfl, mi_in 699 (by decide +kernel) rfl, mi_in 650 (by decide +kernel) rfl⟩
/-- Preconditions.checkIndex, the index within: the index; its third argument is any reference or null -/
theorem ck_met (l : Launch) (G : mi_G) (mem : mi_M) (sz : Nat) (i n : Int32) (v : Value) (hv : v.category = 1) (h : ¬ i < 0 ∧ i < n) : Met l mJ3_checkIndex_8e157.1 (mi_yw mJ3_checkIndex_8e157) (mi_rm 1) (va_Pc [.int i, .int n, v] (mi_Wd G mem sz)) (mi_Qc G mem sz (fun r m' => r = some (vi i) ∧ m' = mem)) 0 0 (va_A (mi_ws G mem) sz) := by
  refine Met.ofW (cc := cJ3_checkIndex_8e157) (maxL := 3) (ret := some .int) (by decide) rfl ?_
  intro p e s m args below meth c s₁ B hml hq
  obtain ⟨rfl, hsz, hP, hK, hD0, hSt⟩ := hq
  subst hsz
  have hx := B.exec
  have hb := B.bytes
  have hr := B.returns
  have hlocks := B.notSynchronized
  have hS : va_S (va_A (mi_ws G mem) s.heap.size) s.heap s.heap [] := va_S.rf
  have hl := lv_entry ([.int i, .int n, v]) (n := 3) (by show ([Slot.val (.int i)] ++ ([Slot.val (.int n)] ++ ((if v.category = 2 then [Slot.val v, Slot.second] else [Slot.val v]) ++ []))).length ≤ 3; rw [hv]; exact Nat.le_refl 3)
  rw [lg_entry_eq]
  generalize (lg_sl ([.int i, .int n, v]) ++ List.replicate (3 - (lg_sl ([.int i, .int n, v])).length) Slot.unset).toArray = ls at hl ⊢
  refine lv_iload_n hx hb dJ3_checkIndex_8e157_0 rfl (lv_at hl 0 rfl) ?_
  refine lv_if_lt hx hb dJ3_checkIndex_8e157_1 (tgt := 9) (by decide) (fun q => absurd q h.1) (fun _ => ?_)
  refine lv_iload_n hx hb dJ3_checkIndex_8e157_4 rfl (lv_at hl 0 rfl) ?_
  refine lv_iload_n hx hb dJ3_checkIndex_8e157_5 rfl (lv_at hl 1 rfl) ?_
  refine lv_icmp_lt hx hb dJ3_checkIndex_8e157_6 (tgt := 16) (by decide) (fun _ => ?_) (fun q => absurd h.2 q)
  refine lv_iload_n hx hb dJ3_checkIndex_8e157_16 rfl (lv_at hl 0 rfl) ?_
  exact W.iret hx hb hr (fun t ht hW => ⟨⟨some (vi i), mem, rfl, ⟨rfl, rfl⟩, by rw [ht]; exact hP⟩, hS.F ht⟩) hS.2.2 dJ3_checkIndex_8e157_17
/-- String.checkIndex: the index is within -/
theorem w_J0_checkIndex_df160 (p0 p1 : Int32) (h : ¬ p0 < 0 ∧ p0 < p1) (mem : mi_M) : mi_Cv (2) mJ0_checkIndex_df160 [vi p0, vi p1] mem (fun m' => m' = mem) := by
  unfold mi_Cv
  refine mi_C_intro (ls := [(0, vi p0), (1, vi p1)]) (by decide) rfl rfl ?_
  refine x_iload_n (pc := 0) dJ0_checkIndex_df160_0 rfl ?_
  refine x_iload_n (pc := 1) dJ0_checkIndex_df160_1 rfl ?_
  intro p l e R s m args below meth c H locs cells slots Z A G lsm C Rt hP hD hS hl
  obtain ⟨w1, w2, w3, w4, w5⟩ := ck_words
  have hts := C.2.2.2.2.2.2.1
  have hAA := mi_AA (mem := mem) (G := G) C.2.2.2.2.2.2.2.2.1 hD hS
  obtain ⟨r1, r2, r3, r4⟩ := C.2.2.2.2.2.2.2.2.2.1
  have key : ∀ v : Value, v.category = 1 → W p l e R s m args below meth c H locs cells slots Z (F0 m 5 lsm [v, .int p1, .int p0]) := by
    intro v hv
    have cw : CallB R s args mJ0_checkIndex_df160.1.cls 1059 mJ3_checkIndex_8e157.1 mJ3_checkIndex_8e157.2.1 mJ3_checkIndex_8e157.2.2.1 mJ3_checkIndex_8e157.2.2.2 (mi_yw mJ3_checkIndex_8e157) (mi_rm 1) 0 0 3 := callB_of 3 hts (mi_goodY w4) rfl rfl rfl (hts _ w3) (hts _ w1) ⟨by decide, by decide, by decide +kernel⟩ ⟨by show 1 + 1 ≤ _; omega, by show 8 + (3 + 11) + 64 * 1 ≤ _; omega⟩
    have hp : PreS s H (va_Pc [.int p0, .int p1, v] (mi_Wd G mem H.size)) [.int p0, .int p1, v] :=
      ⟨mi_blind, fun U hU hW => ⟨rfl, by rw [hU], by rw [hU]; exact hP, va_K.moved hW.alike C.2.2.2.2.2.2.2.1, ⟨hD.1, fun _ _ _ => trivial⟩, (C.2.2.2.2.2.2.2.2.2.2).at hS hU hW hAA⟩⟩
    refine mi_back (st := []) (d := 2) (ls := [(0, vi p0), (1, vi p1)]) (mem := mem) C Rt hD hS hl (va_runS (S := ⟨C.1, C.2.1, C.2.2.1, C.2.2.2.2.2.1, hts⟩) (ck_met l G mem H.size p0 p1 v hv h) ⟨cw, hts _ w2⟩ hp rfl rfl hl.1 rfl (lv_room (show (0 : Nat) ≤ 8 from Nat.zero_le 8)) dJ0_checkIndex_df160_5 ⟨r3, r4⟩) ?_
    rintro r m' ⟨rfl, rfl⟩
    refine x_pop (pc := 8) dJ0_checkIndex_df160_8 rfl ?_
    exact x_ret (pc := 9) dJ0_checkIndex_df160_9 rfl ⟨rfl, rfl⟩
  rcases (C.2.2.2.2.2.2.2.2.2.2).2.2.2.2 with hz | ⟨t, hz⟩
  · exact va_gets C.1 C.2.1 hz hS C.2.2.2.2.2.1 (hts _ w5) (fun _ h => h) dJ0_checkIndex_df160_2 (key .null rfl)
  · exact va_gets C.1 C.2.1 hz hS C.2.2.2.2.2.1 (hts _ w5) (fun _ h => h) dJ0_checkIndex_df160_2 (key (.ref t) rfl)
