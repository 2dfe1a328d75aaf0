/-! ===== the law's own walk: its locals, the script, the row out beside the world ===== -/
def mi_Lx (G : mi_G) (N0 b L : Nat) (xs : Nat → Int32) (p : Program) (s : State) (m : MethodId) (meth : Method) (c : Code) : Prop :=
  p.tables.exec = Jvm.exec ∧ c.code = code ∧ c.maxLocals = 7 ∧ meth.sig.returnType = ret ∧ meth.locks = false ∧ s.vm.findClass RL = some m.cls ∧ (∀ w ∈ mi_T, w.before #[Value.ref b] s = true) ∧ va_K G.1 vwCl (mi_tys G) s ∧ va_X b L xs s s.heap ∧ b < s.heap.size ∧ mi_St G (fun q => s.heap.size ≤ q) s ∧ s.heap.size = N0 ∧ G.2.1 310 0 = b ∧ (∀ q ∈ mi_kt, G.2.1 q.1 q.2 ≠ N0 + 225) ∧ G.2.1 311 0 = N0 + 225
/-- from pc on the law comes to its end with true -/
def mi_L (G : mi_G) (N0 b L : Nat) (xs : Nat → Int32) (Ex : Launch → State → Prop) (pc : Nat) (ls : List (Nat × mi_V)) (st : List mi_V) (mem : mi_M) (g : Int64) (nc ns : Nat) : Prop :=
  ∀ (p : Program) (l : Launch) (e : Env) (s : State) (m : MethodId) (below : List Frame) (meth : Method) (c : Code) (H : Heap) (locs : List Loc) (lsm : Array Slot),
    mi_Lx G N0 b L xs p s m meth c → Ex l s → va_P G.1 vwCl (mi_ws G mem) H → va_D (fun q => s.heap.size ≤ q) (mi_ws G mem) → va_S (fun q => s.heap.size ≤ q) s.heap H locs → H[N0 + 225]? = some (vp_cell (G.2.2 1) (1, .inr (.inl (fun _ => g)))) → lv_has lsm 7 (mi_lm G ls) →
      W p l e room_1 s m #[Value.ref b] below meth c H locs nc ns (lw_Z below #[Value.ref b] s) (F0 m pc lsm (st.map (mi_tv G.2.1)))
section ML
variable {G : mi_G} {N0 b L pc nc ns : Nat} {xs : Nat → Int32} {Ex : Launch → State → Prop} {ls ls' : List (Nat × mi_V)} {st : List mi_V} {mem : mi_M} {g : Int64}
theorem l_iconst {n : Int} {v : Int32} (hd : decode code pc = .ok (.iconst n, 1)) (hv : Int32.ofInt n = v) (kk : mi_L G N0 b L xs Ex (pc + 1) ls (vi v :: st) mem g nc ns) : mi_L G N0 b L xs Ex pc ls (st) mem g nc ns := by
  intro p l e s m below meth c H locs lsm C X hP hD hS hO hl
  exact lv_iconst C.1 C.2.1 hd hv (kk p l e s m below meth c H locs lsm C X hP hD hS hO hl)
theorem l_bipush {n : Int} {v : Int32} (hd : decode code pc = .ok (.bipush n, 2)) (hv : (Int8.ofInt n).toInt32 = v) (kk : mi_L G N0 b L xs Ex (pc + 2) ls (vi v :: st) mem g nc ns) : mi_L G N0 b L xs Ex pc ls (st) mem g nc ns := by
  intro p l e s m below meth c H locs lsm C X hP hD hS hO hl
  exact lv_bipush C.1 C.2.1 hd hv (kk p l e s m below meth c H locs lsm C X hP hD hS hO hl)
theorem l_iload {i : Nat} {x : Int32} (hd : decode code pc = .ok (.iload i, 2)) (h : mi_lk ls i = some (vi x)) (kk : mi_L G N0 b L xs Ex (pc + 2) ls (vi x :: st) mem g nc ns) : mi_L G N0 b L xs Ex pc ls (st) mem g nc ns := by
  intro p l e s m below meth c H locs lsm C X hP hD hS hO hl
  exact lv_iload C.1 C.2.1 hd (mi_lk_has hl h) (kk p l e s m below meth c H locs lsm C X hP hD hS hO hl)
theorem l_iload_n {k : Fin 4} {x : Int32} (hd : decode code pc = .ok (.iload_n k, 1)) (h : mi_lk ls (k : Nat) = some (vi x)) (kk : mi_L G N0 b L xs Ex (pc + 1) ls (vi x :: st) mem g nc ns) : mi_L G N0 b L xs Ex pc ls (st) mem g nc ns := by
  intro p l e s m below meth c H locs lsm C X hP hD hS hO hl
  exact lv_iload_n C.1 C.2.1 hd rfl (mi_lk_has hl h) (kk p l e s m below meth c H locs lsm C X hP hD hS hO hl)
theorem l_aload_n {k : Fin 4} {u v : Nat} (hd : decode code pc = .ok (.aload_n k, 1)) (h : mi_lk ls (k : Nat) = some (vr u v)) (kk : mi_L G N0 b L xs Ex (pc + 1) ls (vr u v :: st) mem g nc ns) : mi_L G N0 b L xs Ex pc ls (st) mem g nc ns := by
  intro p l e s m below meth c H locs lsm C X hP hD hS hO hl
  exact lv_aload_n C.1 C.2.1 hd rfl (mi_lk_has hl h) (kk p l e s m below meth c H locs lsm C X hP hD hS hO hl)
theorem l_iadd {x z : Int32} (hd : decode code pc = .ok (.iadd, 1)) (kk : mi_L G N0 b L xs Ex (pc + 1) ls (vi (x + z) :: st) mem g nc ns) : mi_L G N0 b L xs Ex pc ls (vi z :: vi x :: st) mem g nc ns := by
  intro p l e s m below meth c H locs lsm C X hP hD hS hO hl
  exact lv_iadd C.1 C.2.1 hd (kk p l e s m below meth c H locs lsm C X hP hD hS hO hl)
theorem l_isub {x z : Int32} (hd : decode code pc = .ok (.isub, 1)) (kk : mi_L G N0 b L xs Ex (pc + 1) ls (vi (x - z) :: st) mem g nc ns) : mi_L G N0 b L xs Ex pc ls (vi z :: vi x :: st) mem g nc ns := by
  intro p l e s m below meth c H locs lsm C X hP hD hS hO hl
  exact lv_isub C.1 C.2.1 hd (kk p l e s m below meth c H locs lsm C X hP hD hS hO hl)
theorem l_iand {x z : Int32} (hd : decode code pc = .ok (.iand, 1)) (kk : mi_L G N0 b L xs Ex (pc + 1) ls (vi (x &&& z) :: st) mem g nc ns) : mi_L G N0 b L xs Ex pc ls (vi z :: vi x :: st) mem g nc ns := by
  intro p l e s m below meth c H locs lsm C X hP hD hS hO hl
  exact lv_iand C.1 C.2.1 hd (kk p l e s m below meth c H locs lsm C X hP hD hS hO hl)
theorem l_land {x z : Int64} (hd : decode code pc = .ok (.land, 1)) (kk : mi_L G N0 b L xs Ex (pc + 1) ls (vl (x &&& z) :: st) mem g nc ns) : mi_L G N0 b L xs Ex pc ls (vl z :: vl x :: st) mem g nc ns := by
  intro p l e s m below meth c H locs lsm C X hP hD hS hO hl
  exact lv_land C.1 C.2.1 hd (kk p l e s m below meth c H locs lsm C X hP hD hS hO hl)
theorem l_lor {x z : Int64} (hd : decode code pc = .ok (.lor, 1)) (kk : mi_L G N0 b L xs Ex (pc + 1) ls (vl (x ||| z) :: st) mem g nc ns) : mi_L G N0 b L xs Ex pc ls (vl z :: vl x :: st) mem g nc ns := by
  intro p l e s m below meth c H locs lsm C X hP hD hS hO hl
  exact lv_lor C.1 C.2.1 hd (kk p l e s m below meth c H locs lsm C X hP hD hS hO hl)
theorem l_i2l {x : Int32} {v : Int64} (hd : decode code pc = .ok (.i2l, 1)) (hv : x.toInt64 = v) (kk : mi_L G N0 b L xs Ex (pc + 1) ls (vl v :: st) mem g nc ns) : mi_L G N0 b L xs Ex pc ls (vi x :: st) mem g nc ns := by
  intro p l e s m below meth c H locs lsm C X hP hD hS hO hl
  exact lv_i2l C.1 C.2.1 hd hv (kk p l e s m below meth c H locs lsm C X hP hD hS hO hl)
theorem l_lshl {x v : Int64} {z : Int32} (hd : decode code pc = .ok (.lshl, 1)) (hv : x <<< (z.toInt64 &&& 63) = v) (kk : mi_L G N0 b L xs Ex (pc + 1) ls (vl v :: st) mem g nc ns) : mi_L G N0 b L xs Ex pc ls (vi z :: vl x :: st) mem g nc ns := by
  intro p l e s m below meth c H locs lsm C X hP hD hS hO hl
  exact lv_lshl C.1 C.2.1 hd hv (kk p l e s m below meth c H locs lsm C X hP hD hS hO hl)
theorem l_lcmp {x z : Int64} (hd : decode code pc = .ok (.lcmp, 1)) (kk : mi_L G N0 b L xs Ex (pc + 1) ls (vi (lg_cmp x z) :: st) mem g nc ns) : mi_L G N0 b L xs Ex pc ls (vl z :: vl x :: st) mem g nc ns := by
  intro p l e s m below meth c H locs lsm C X hP hD hS hO hl
  exact W.lcmp C.1 C.2.1 hd (kk p l e s m below meth c H locs lsm C X hP hD hS hO hl)
theorem l_ldc2 {index : Nat} {v : Int64} (hd : decode code pc = .ok (.ldc2_w index, 3)) (hc : Cond.constantLong RL index v ∈ mi_T) (kk : mi_L G N0 b L xs Ex (pc + 3) ls (vl v :: st) mem g nc ns) : mi_L G N0 b L xs Ex pc ls (st) mem g nc ns := by
  intro p l e s m below meth c H locs lsm C X hP hD hS hO hl
  exact lv_ldc2 C.1 C.2.1 C.2.2.2.2.2.1 (C.2.2.2.2.2.2.1 _ hc) hd (kk p l e s m below meth c H locs lsm C X hP hD hS hO hl)
theorem l_istore {i : Nat} {x : Int32} (hd : decode code pc = .ok (.istore i, 2)) (hn : Nat.ble (i + 1) 7 = true) (hs : (i, vi x) :: mi_s1 i ls = ls') (kk : mi_L G N0 b L xs Ex (pc + 2) ls' st mem g nc ns) : mi_L G N0 b L xs Ex pc ls (vi x :: st) mem g nc ns := by
  intro p l e s m below meth c H locs lsm C X hP hD hS hO hl
  exact lv_istore C.1 C.2.1 hd hl (Nat.le_of_ble_eq_true hn) (mi_s1_e G hs) (fun ls2 h2 => (kk p l e s m below meth c H locs ls2 C X hP hD hS hO h2))
theorem l_istore_n {k : Fin 4} {i : Nat} {x : Int32} (hd : decode code pc = .ok (.istore_n k, 1)) (hi : (k : Nat) = i) (hn : Nat.ble (i + 1) 7 = true) (hs : (i, vi x) :: mi_s1 i ls = ls') (kk : mi_L G N0 b L xs Ex (pc + 1) ls' st mem g nc ns) : mi_L G N0 b L xs Ex pc ls (vi x :: st) mem g nc ns := by
  intro p l e s m below meth c H locs lsm C X hP hD hS hO hl
  exact lv_istore_n C.1 C.2.1 hd hi hl (Nat.le_of_ble_eq_true hn) (mi_s1_e G hs) (fun ls2 h2 => (kk p l e s m below meth c H locs ls2 C X hP hD hS hO h2))
theorem l_iinc {i : Nat} {n : Int} {x v : Int32} (hd : decode code pc = .ok (.iinc i n, 3)) (h : mi_lk ls i = some (vi x)) (hv : x + Int32.ofInt n = v) (hn : Nat.ble (i + 1) 7 = true) (hs : (i, vi v) :: mi_s1 i ls = ls') (kk : mi_L G N0 b L xs Ex (pc + 3) ls' st mem g nc ns) : mi_L G N0 b L xs Ex pc ls st mem g nc ns := by
  intro p l e s m below meth c H locs lsm C X hP hD hS hO hl
  obtain ⟨k, hk⟩ := mi_lk_at (G := G) h
  exact lv_iinc C.1 C.2.1 hd hl hk hv (Nat.le_of_ble_eq_true hn) (mi_s1_e G hs) (fun ls2 h2 => (kk p l e s m below meth c H locs ls2 C X hP hD hS hO h2))
theorem l_goto {off : Int} {tgt : Nat} (hd : decode code pc = .ok (.goto off, 3)) (ht : (pc : Int) + off = (tgt : Int)) (kk : mi_L G N0 b L xs Ex tgt ls st mem g nc ns) : mi_L G N0 b L xs Ex pc ls st mem g nc ns := by
  intro p l e s m below meth c H locs lsm C X hP hD hS hO hl
  exact lv_goto C.1 C.2.1 hd ht (kk p l e s m below meth c H locs lsm C X hP hD hS hO hl)
theorem l_icmp_gt {x z : Int32} {off : Int} {tgt : Nat} (hd : decode code pc = .ok (.if_icmp .gt off, 3)) (ht : (pc : Int) + off = (tgt : Int)) (kt : z < x → mi_L G N0 b L xs Ex tgt ls st mem g nc ns) (kf : ¬ z < x → mi_L G N0 b L xs Ex (pc + 3) ls st mem g nc ns) : mi_L G N0 b L xs Ex pc ls (vi z :: vi x :: st) mem g nc ns := by
  intro p l e s m below meth c H locs lsm C X hP hD hS hO hl
  exact lv_icmp_gt C.1 C.2.1 hd ht (fun h => (kt h p l e s m below meth c H locs lsm C X hP hD hS hO hl)) (fun h => (kf h p l e s m below meth c H locs lsm C X hP hD hS hO hl))
theorem l_icmp_eq {x z : Int32} {off : Int} {tgt : Nat} (hd : decode code pc = .ok (.if_icmp .eq off, 3)) (ht : (pc : Int) + off = (tgt : Int)) (kt : x = z → mi_L G N0 b L xs Ex tgt ls st mem g nc ns) (kf : ¬ x = z → mi_L G N0 b L xs Ex (pc + 3) ls st mem g nc ns) : mi_L G N0 b L xs Ex pc ls (vi z :: vi x :: st) mem g nc ns := by
  intro p l e s m below meth c H locs lsm C X hP hD hS hO hl
  exact lv_icmp_eq C.1 C.2.1 hd ht (fun h => (kt h p l e s m below meth c H locs lsm C X hP hD hS hO hl)) (fun h => (kf h p l e s m below meth c H locs lsm C X hP hD hS hO hl))
theorem l_icmp_ne {x z : Int32} {off : Int} {tgt : Nat} (hd : decode code pc = .ok (.if_icmp .ne off, 3)) (ht : (pc : Int) + off = (tgt : Int)) (kt : ¬ x = z → mi_L G N0 b L xs Ex tgt ls st mem g nc ns) (kf : x = z → mi_L G N0 b L xs Ex (pc + 3) ls st mem g nc ns) : mi_L G N0 b L xs Ex pc ls (vi z :: vi x :: st) mem g nc ns := by
  intro p l e s m below meth c H locs lsm C X hP hD hS hO hl
  exact lv_icmp_ne C.1 C.2.1 hd ht (fun h => (kt h p l e s m below meth c H locs lsm C X hP hD hS hO hl)) (fun h => (kf h p l e s m below meth c H locs lsm C X hP hD hS hO hl))
theorem l_if_eq {x : Int32} {off : Int} {tgt : Nat} (hd : decode code pc = .ok (.ifCond .eq off, 3)) (ht : (pc : Int) + off = (tgt : Int)) (kt : x = 0 → mi_L G N0 b L xs Ex tgt ls st mem g nc ns) (kf : ¬ x = 0 → mi_L G N0 b L xs Ex (pc + 3) ls st mem g nc ns) : mi_L G N0 b L xs Ex pc ls (vi x :: st) mem g nc ns := by
  intro p l e s m below meth c H locs lsm C X hP hD hS hO hl
  exact lv_if_eq C.1 C.2.1 hd ht (fun h => (kt h p l e s m below meth c H locs lsm C X hP hD hS hO hl)) (fun h => (kf h p l e s m below meth c H locs lsm C X hP hD hS hO hl))
theorem l_if_ne {x : Int32} {off : Int} {tgt : Nat} (hd : decode code pc = .ok (.ifCond .ne off, 3)) (ht : (pc : Int) + off = (tgt : Int)) (kt : ¬ x = 0 → mi_L G N0 b L xs Ex tgt ls st mem g nc ns) (kf : x = 0 → mi_L G N0 b L xs Ex (pc + 3) ls st mem g nc ns) : mi_L G N0 b L xs Ex pc ls (vi x :: st) mem g nc ns := by
  intro p l e s m below meth c H locs lsm C X hP hD hS hO hl
  exact lv_if_ne C.1 C.2.1 hd ht (fun h => (kt h p l e s m below meth c H locs lsm C X hP hD hS hO hl)) (fun h => (kf h p l e s m below meth c H locs lsm C X hP hD hS hO hl))
theorem l_loc (ls' : List (Nat × mi_V)) (h : mi_sub ls ls') (kk : mi_L G N0 b L xs Ex pc ls' st mem g nc ns) : mi_L G N0 b L xs Ex pc ls st mem g nc ns := by
  intro p l e s m below meth c H locs lsm C X hP hD hS hO hl
  refine kk p l e s m below meth c H locs lsm C X hP hD hS hO ⟨hl.1, hl.2.1, fun q hq => ?_⟩
  obtain ⟨z, hz, rfl⟩ := List.mem_map.mp hq
  exact hl.2.2 _ (List.mem_map.mpr ⟨z, mi_sub_mem h z hz, rfl⟩)
theorem l_widen {nc' ns' : Nat} (h1 : nc ≤ nc') (h2 : ns ≤ ns') (kk : mi_L G N0 b L xs Ex pc ls st mem g nc' ns') : mi_L G N0 b L xs Ex pc ls st mem g nc ns := by
  intro p l e s m below meth c H locs lsm C X hP hD hS hO hl
  exact W.widen h1 h2 (kk p l e s m below meth c H locs lsm C X hP hD hS hO hl)
theorem l_swT {dflt lo hi : Int} {offs : Array Int} {len : Nat} {x v : Int32} {off : Int} {tgt : Nat} (hx : x = v) (hd : decode code pc = .ok (.tableswitch dflt lo hi offs, len)) (h1 : ¬ v.toInt < lo) (h2 : ¬ hi < v.toInt) (ho : offs[(v.toInt - lo).toNat]? = some off) (ht : (pc : Int) + off = (tgt : Int)) (kk : mi_L G N0 b L xs Ex tgt ls st mem g nc ns) : mi_L G N0 b L xs Ex pc ls (vi x :: st) mem g nc ns := by
  subst hx
  intro p l e s m below meth c H locs lsm C X hP hD hS hO hl
  exact lv_tableIn C.1 C.2.1 hd h1 h2 ho ht (kk p l e s m below meth c H locs lsm C X hP hD hS hO hl)
theorem l_swO {dflt lo hi : Int} {offs : Array Int} {len : Nat} {x : Int32} {tgt : Nat} (hd : decode code pc = .ok (.tableswitch dflt lo hi offs, len)) (h : x.toInt < lo ∨ hi < x.toInt) (ht : (pc : Int) + dflt = (tgt : Int)) (kk : mi_L G N0 b L xs Ex tgt ls st mem g nc ns) : mi_L G N0 b L xs Ex pc ls (vi x :: st) mem g nc ns := by
  intro p l e s m below meth c H locs lsm C X hP hD hS hO hl
  exact lv_tableOut C.1 C.2.1 hd h ht (kk p l e s m below meth c H locs lsm C X hP hD hS hO hl)
/-- the script's j-th int -/
theorem l_sld {j : Int32} {t : Nat} (hd : decode code pc = .ok (.iaload, 1)) (hj : j = nI t) (ht : t < L) (hL : L < 2 ^ 31) (kk : mi_L G N0 b L xs Ex (pc + 1) ls (vi (xs t) :: st) mem g nc ns) : mi_L G N0 b L xs Ex pc ls (vi j :: vr 310 0 :: st) mem g nc ns := by
  intro p l e s m below meth c H locs lsm C X hP hD hS hO hl
  subst hj
  have hbA : ¬ s.heap.size ≤ b := Nat.not_le.mpr C.2.2.2.2.2.2.2.2.2.1
  show W p l e room_1 s m #[Value.ref b] below meth c H locs nc ns (lw_Z below #[Value.ref b] s) (F0 m pc lsm (.int (nI t) :: .ref (G.2.1 310 0) :: st.map (mi_tv G.2.1)))
  rw [C.2.2.2.2.2.2.2.2.2.2.2.2.1]
  refine va_sld C.1 C.2.1 C.2.2.2.2.2.2.2.2.1 C.2.2.2.2.2.2.2.2.2.1 hbA hS (vp_in_nI ht hL) hd ?_
  rw [nI_clamp (by omega)]
  exact kk p l e s m below meth c H locs lsm C X hP hD hS hO hl
theorem l_slen (hd : decode code pc = .ok (.arraylength, 1)) (kk : mi_L G N0 b L xs Ex (pc + 1) ls (vi (nI L) :: st) mem g nc ns) : mi_L G N0 b L xs Ex pc ls (vr 310 0 :: st) mem g nc ns := by
  intro p l e s m below meth c H locs lsm C X hP hD hS hO hl
  have hbA : ¬ s.heap.size ≤ b := Nat.not_le.mpr C.2.2.2.2.2.2.2.2.2.1
  show W p l e room_1 s m #[Value.ref b] below meth c H locs nc ns (lw_Z below #[Value.ref b] s) (F0 m pc lsm (.ref (G.2.1 310 0) :: st.map (mi_tv G.2.1)))
  rw [C.2.2.2.2.2.2.2.2.2.2.2.2.1]
  exact va_slen C.1 C.2.1 C.2.2.2.2.2.2.2.2.1 C.2.2.2.2.2.2.2.2.2.1 hbA hS hd (kk p l e s m below meth c H locs lsm C X hP hD hS hO hl)
theorem l_ret1 (hd : decode code pc = .ok (.ireturn, 1)) (h1 : nc ≤ 601024) (h2 : ns ≤ 7293034) : mi_L G N0 b L xs Ex pc ls [vi 1] mem g nc ns := by
  intro p l e s m below meth c H locs lsm C X hP hD hS hO hl
  refine va_forget (fun q hq => hS.2.2 q hq) (W.widen h1 h2 ?_)
  exact lw_ret C.1 C.2.1 C.2.2.2.1 C.2.2.2.2.1 hd
theorem l_callV {index n k i d' : Nat} {y' : mi_MD} {av : List mi_V} {Q1 : Option mi_V → mi_M → Prop} (hd : decode code pc = .ok (.invokevirtual index, 3)) (hm : mi_lv RL index y' n k) (hn : av.length = n) (hi : i < mi_n k) (hdd : d' < 1000) (hst : Nat.ble (mi_sz st) 8 = true) (hc1 : nc ≤ 601024) (hs1 : ns ≤ 7293034) (hc : mi_C d' y' (vr k i :: av) mem Q1) (kk : ∀ r m', Q1 r m' → mi_L G N0 b L xs Ex (pc + 3) ls (r.toList ++ st) m' g nc ns) : mi_L G N0 b L xs Ex pc ls (av.reverse ++ vr k i :: st) mem g nc ns := by
  intro p l e s m below meth c H locs lsm C X hP hD hS hO hl
  obtain ⟨⟨hk13, hcls⟩, ⟨w1, w2, w3, w4, w5⟩, hnm, hmax⟩ := hm
  have hts := C.2.2.2.2.2.2.1
  have hAA := mi_AA (mem := mem) (G := G) (H0 := s.heap) (A := fun q => s.heap.size ≤ q) (fun q h => h) hD hS
  obtain ⟨q, hq⟩ := mi_at hi
  have he := mi_ws_at (G := G) (m := mem) hq
  rw [mi_c_o hk13] at he
  have hM := hc l G H.size
  have cw : CallW room_1 s #[Value.ref b] RL y'.1.cls index y'.1 y'.2.1 y'.2.2.1 y'.2.2.2 (mi_yw y') (mi_rm d') 0 0 n := ⟨callB_of n hts (mi_goodY w5) rfl rfl rfl (hts _ w4) (hts _ w1) hnm ⟨by show d' + 1 ≤ 2048; omega, by show 8 + (y'.2.2.1 + 11) + 64 * d' ≤ 84000; omega⟩, hts _ w2, hts _ w3⟩
  have hp : PreV s H y'.1.cls (G.2.1 k i) (va_Pc ((vr k i :: av).map (mi_tv G.2.1)) (mi_Wd G mem H.size)) (av.map (mi_tv G.2.1)) := by
    refine ⟨mi_blind, ?_, fun U hU hW => ⟨rfl, by rw [hU], by rw [hU]; exact hP, va_K.moved hW.alike C.2.2.2.2.2.2.2.1, ⟨hD.1, fun _ _ _ => trivial⟩, (C.2.2.2.2.2.2.2.2.2.2.1).at hS hU hW hAA⟩⟩
    rw [hcls]
    exact va_recv C.2.2.2.2.2.2.2.1 hP (mi_cl k hk13) he
  have es : (av.reverse ++ vr k i :: st).map (mi_tv G.2.1) = (av.map (mi_tv G.2.1)).reverse ++ .ref (G.2.1 k i) :: st.map (mi_tv G.2.1) := by
    rw [List.map_append, List.map_reverse]
    rfl
  rw [es]
  have run := va_runV (p := p) (e := e) (R := room_1) (below := below) (meth := meth) (locs := locs) (cells := nc) (slots := ns) (rest := st.map (mi_tv G.2.1)) (g := F0 m pc lsm ((av.map (mi_tv G.2.1)).reverse ++ .ref (G.2.1 k i) :: st.map (mi_tv G.2.1))) (S := ⟨C.1, C.2.1, C.2.2.1, C.2.2.2.2.2.1, hts⟩) hM cw hp rfl (by rw [List.length_map]; exact hn) hl.1 rfl (lv_room (by rw [mi_szcat]; exact Nat.le_of_ble_eq_true hst)) hd ⟨by show nc + 0 ≤ 601024; omega, by show ns + 0 ≤ 7293034; omega⟩
  intro T hT X2
  obtain ⟨v, st₀, t, T', L2, h0, X', hL, e1, e2, ⟨⟨r, m', hv, hQ, hP'⟩, hz', hkeep⟩, go⟩ := run T hT X2
  rw [h0] at hz' hkeep
  have hS' : va_S (fun q => s.heap.size ≤ q) s.heap T'.heap (locs ++ L2) := by
    refine ⟨Nat.le_trans hS.1 (by rw [e1]; exact hz'), fun q h1 h2 => ?_, fun q hq => ?_⟩
    · rw [e1, hkeep q (Nat.lt_of_lt_of_le h1 hS.1) (fun z => h2 (hAA q z))]
      exact hS.2.1 q h1 h2
    · rcases List.mem_append.mp hq with hq | hq
      · exact hS.2.2 q hq
      · exact hAA _ (hL q hq)
  have hO' : T'.heap[N0 + 225]? = some (vp_cell (G.2.2 1) (1, .inr (.inl (fun _ => g)))) := by
    have hlt : N0 + 225 < H.size := (Array.getElem?_eq_some_iff.mp hO).1
    rw [e1, hkeep (N0 + 225) hlt ?_]
    · exact hO
    · rintro (⟨kk2, ee, hk⟩ | hge)
      · unfold mi_ws at hk
        obtain ⟨z, hz, hze⟩ := List.mem_map.mp (List.mem_of_getElem? hk)
        exact (C.2.2.2.2.2.2.2.2.2.2.2.2.2).1 z hz (congrArg Prod.fst hze)
      · omega
  have hv2 : v = r.map (mi_tv G.2.1) := by injection hv
  obtain ⟨t2, a1, b1⟩ := kk r m' hQ p l e s m below meth c T'.heap (locs ++ L2) lsm C X (by rw [e1]; exact hP') (mi_D hD) hS' hO' hl T' rfl X'
  refine ⟨t2, go t2 ?_, b1⟩
  have es2 : (r.toList ++ st).map (mi_tv G.2.1) = v.toList ++ st.map (mi_tv G.2.1) := by
    rw [hv2, List.map_append]
    cases r <;> rfl
  rw [es2] at a1
  exact a1
theorem l_Vi0 {index k i d' : Nat} {y' : mi_MD} {Q1 : Int32 → mi_M → Prop} (hd : decode code pc = .ok (.invokevirtual index, 3)) (hm : mi_lv RL index y' 0 k) (hi : i < mi_n k) (hdd : d' < 1000) (hst : Nat.ble (mi_sz st) 8 = true) (hc1 : nc ≤ 601024) (hs1 : ns ≤ 7293034) (hc : mi_Ci d' y' (vr k i :: []) mem Q1) (kk : ∀ x m', Q1 x m' → mi_L G N0 b L xs Ex (pc + 3) ls (vi x :: st) m' g nc ns) : mi_L G N0 b L xs Ex pc ls (vr k i :: st) mem g nc ns := l_callV (av := []) hd hm rfl hi hdd hst hc1 hs1 hc (fun r m' h => match r, h with | _, ⟨x, rfl, h⟩ => kk x m' h)
theorem l_Vi1 {index k i d' : Nat} {y' : mi_MD} {a0 : mi_V} {Q1 : Int32 → mi_M → Prop} (hd : decode code pc = .ok (.invokevirtual index, 3)) (hm : mi_lv RL index y' 1 k) (hi : i < mi_n k) (hdd : d' < 1000) (hst : Nat.ble (mi_sz st) 8 = true) (hc1 : nc ≤ 601024) (hs1 : ns ≤ 7293034) (hc : mi_Ci d' y' (vr k i :: [a0]) mem Q1) (kk : ∀ x m', Q1 x m' → mi_L G N0 b L xs Ex (pc + 3) ls (vi x :: st) m' g nc ns) : mi_L G N0 b L xs Ex pc ls (a0 :: vr k i :: st) mem g nc ns := l_callV (av := [a0]) hd hm rfl hi hdd hst hc1 hs1 hc (fun r m' h => match r, h with | _, ⟨x, rfl, h⟩ => kk x m' h)
theorem l_Vi2 {index k i d' : Nat} {y' : mi_MD} {a0 a1 : mi_V} {Q1 : Int32 → mi_M → Prop} (hd : decode code pc = .ok (.invokevirtual index, 3)) (hm : mi_lv RL index y' 2 k) (hi : i < mi_n k) (hdd : d' < 1000) (hst : Nat.ble (mi_sz st) 8 = true) (hc1 : nc ≤ 601024) (hs1 : ns ≤ 7293034) (hc : mi_Ci d' y' (vr k i :: [a0, a1]) mem Q1) (kk : ∀ x m', Q1 x m' → mi_L G N0 b L xs Ex (pc + 3) ls (vi x :: st) m' g nc ns) : mi_L G N0 b L xs Ex pc ls (a1 :: a0 :: vr k i :: st) mem g nc ns := l_callV (av := [a0, a1]) hd hm rfl hi hdd hst hc1 hs1 hc (fun r m' h => match r, h with | _, ⟨x, rfl, h⟩ => kk x m' h)
theorem l_Vi3 {index k i d' : Nat} {y' : mi_MD} {a0 a1 a2 : mi_V} {Q1 : Int32 → mi_M → Prop} (hd : decode code pc = .ok (.invokevirtual index, 3)) (hm : mi_lv RL index y' 3 k) (hi : i < mi_n k) (hdd : d' < 1000) (hst : Nat.ble (mi_sz st) 8 = true) (hc1 : nc ≤ 601024) (hs1 : ns ≤ 7293034) (hc : mi_Ci d' y' (vr k i :: [a0, a1, a2]) mem Q1) (kk : ∀ x m', Q1 x m' → mi_L G N0 b L xs Ex (pc + 3) ls (vi x :: st) m' g nc ns) : mi_L G N0 b L xs Ex pc ls (a2 :: a1 :: a0 :: vr k i :: st) mem g nc ns := l_callV (av := [a0, a1, a2]) hd hm rfl hi hdd hst hc1 hs1 hc (fun r m' h => match r, h with | _, ⟨x, rfl, h⟩ => kk x m' h)
end ML
