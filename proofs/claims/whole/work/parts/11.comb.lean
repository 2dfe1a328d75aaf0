/-! ===== plain functions: a method's meaning as an option of its answer and the memory behind it ===== -/
noncomputable def mi_g {α : Type} (P : Prop) (o : Option α) : Option α := @ite _ P (Classical.propDecidable P) o none
def mi_b {α β : Type} (o : Option (α × mi_M)) (k : α → mi_M → Option β) : Option β := match o with
  | none => none
  | some a => k a.1 a.2
def mi_bo {α β : Type} (o : Option α) (k : α → Option β) : Option β := match o with
  | none => none
  | some a => k a
def mi_let {α β : Type} (x : α) (k : α → β) : β := k x
def mi_lp {σ ε : Type} (B : σ → Option (σ ⊕ ε)) : Nat → σ → Option ε
  | 0, _ => none
  | n + 1, s => match B s with
    | none => none
    | some (.inl s') => mi_lp B n s'
    | some (.inr e) => some e
def mi_fu : Nat := 100000
def mi_dp : Nat := 40
def wo {α : Type} (o : Option α) (Q : α → Prop) : Prop := ∃ a, o = some a ∧ Q a
theorem wo_some {α : Type} {a : α} {Q : α → Prop} (h : wo (some a) Q) : Q a := by
  obtain ⟨b, e, h⟩ := h
  cases e
  exact h
theorem wo_g {α : Type} {P : Prop} {o : Option α} {Q : α → Prop} (h : wo (mi_g P o) Q) : P ∧ wo o Q := by
  unfold mi_g at h
  by_cases hp : P
  · rw [if_pos hp] at h
    exact ⟨hp, h⟩
  · rw [if_neg hp] at h
    obtain ⟨a, e, -⟩ := h
    cases e
theorem wo_b {α β : Type} {o : Option (α × mi_M)} {k : α → mi_M → Option β} {Q : β → Prop} (h : wo (mi_b o k) Q) : ∃ a m, o = some (a, m) ∧ wo (k a m) Q := by
  cases o with
  | none => obtain ⟨a, e, -⟩ := h; cases e
  | some a => exact ⟨a.1, a.2, rfl, h⟩
theorem wo_bo {α β : Type} {o : Option α} {k : α → Option β} {Q : β → Prop} (h : wo (mi_bo o k) Q) : ∃ a, o = some a ∧ wo (k a) Q := by
  cases o with
  | none => obtain ⟨a, e, -⟩ := h; cases e
  | some a => exact ⟨a, rfl, h⟩
theorem wo_pos {α : Type} {c : Prop} [Decidable c] {a b : Option α} {Q : α → Prop} (hc : c) (h : wo (if c then a else b) Q) : wo a Q := by
  rw [if_pos hc] at h
  exact h
theorem wo_neg {α : Type} {c : Prop} [Decidable c] {a b : Option α} {Q : α → Prop} (hc : ¬ c) (h : wo (if c then a else b) Q) : wo b Q := by
  rw [if_neg hc] at h
  exact h
/-- a loop's states, one behind another -/
theorem wo_lp {σ ε : Type} {B : σ → Option (σ ⊕ ε)} {X : σ → Prop} {E : ε → Prop} (step : ∀ s, wo (B s) (fun r => match r with | .inl s' => X s' | .inr e => E e) → X s) : ∀ n s, wo (mi_lp B n s) E → X s
  | 0, _, h => by obtain ⟨a, e, -⟩ := h; cases e
  | n + 1, s, h => by
    refine step s ?_
    unfold mi_lp at h
    cases hb : B s with
    | none => rw [hb] at h; obtain ⟨a, e, -⟩ := h; cases e
    | some r =>
      rw [hb] at h
      cases r with
      | inl s' => exact ⟨_, rfl, wo_lp step n s' h⟩
      | inr e => exact ⟨_, rfl, (wo_some (show wo (some e) E from h) : E e)⟩
theorem wo_lq {σ ε : Type} {B : σ → Option (σ ⊕ ε)} {X : σ → Prop} {E : ε → Prop} (step : ∀ QQ : σ ⊕ ε → Prop, (∀ s', QQ (.inl s') → X s') → (∀ e, QQ (.inr e) → E e) → ∀ s, wo (B s) QQ → X s) (n : Nat) (s : σ) (h : wo (mi_lp B n s) E) : X s :=
  wo_lp (fun s h => step (fun r => match r with | .inl s' => X s' | .inr e => E e) (fun _ h => h) (fun _ h => h) s h) n s h
theorem wo_eq {α : Type} {o : Option α} {a : α} (h : o = some a) : wo o (fun b => b = a) := ⟨a, h, rfl⟩
def mi_sub (ls : List (Nat × mi_V)) : List (Nat × mi_V) → Prop
  | [] => True
  | q :: r => mi_lk ls q.1 = some q.2 ∧ mi_sub ls r
theorem mi_sub_mem {ls : List (Nat × mi_V)} : ∀ {ls' : List (Nat × mi_V)}, mi_sub ls ls' → ∀ q ∈ ls', q ∈ ls
  | [], _, q, hq => by cases hq
  | x :: r, h, q, hq => by
    rcases List.mem_cons.mp hq with rfl | hq
    · exact mi_lk_mem ls h.1
    · exact mi_sub_mem h.2 q hq
section MC
variable {y : mi_MD} {d pc : Nat} {ls ls' : List (Nat × mi_V)} {st : List mi_V} {mem : mi_M} {Q : Option mi_V → mi_M → Prop} {β : Type} {QQ : β → Prop}
theorem x_sub (ls' : List (Nat × mi_V)) (h : mi_sub ls ls') (kk : mi_X y d pc ls' st mem Q) : mi_X y d pc ls st mem Q := x_loc ls' (mi_sub_mem h) kk
theorem x_leti {x : Int32} {k : Int32 → Option β} (h : wo (mi_let x k) QQ) (kk : ∀ v, wo (k v) QQ → mi_X y d pc ls (vi v :: st) mem Q) : mi_X y d pc ls (vi x :: st) mem Q := kk x h
theorem x_letl {x : Int64} {k : Int64 → Option β} (h : wo (mi_let x k) QQ) (kk : ∀ v, wo (k v) QQ → mi_X y d pc ls (vl v :: st) mem Q) : mi_X y d pc ls (vl x :: st) mem Q := kk x h
theorem x_letr {a x : Nat} {P : Nat → Prop} {k : Nat → Option β} (h : wo (mi_let x k) QQ) (hp : P x) (kk : ∀ v, P v → wo (k v) QQ → mi_X y d pc ls (vr a v :: st) mem Q) : mi_X y d pc ls (vr a x :: st) mem Q := kk x hp h
theorem x_letm {k : mi_M → Option β} (h : wo (mi_let mem k) QQ) (kk : ∀ m, wo (k m) QQ → mi_X y d pc ls st m Q) : mi_X y d pc ls st mem Q := kk mem h
theorem x_swT {dflt lo hi : Int} {offs : Array Int} {len : Nat} {x c : Int32} {off : Int} {tgt : Nat} (hx : x = c) (hd : decode y.2.1 pc = .ok (.tableswitch dflt lo hi offs, len)) (h1 : ¬ c.toInt < lo) (h2 : ¬ hi < c.toInt) (ho : offs[(c.toInt - lo).toNat]? = some off) (ht : (pc : Int) + off = (tgt : Int)) (kk : mi_X y d tgt ls st mem Q) : mi_X y d pc ls (vi x :: st) mem Q := by
  subst hx
  exact x_tableIn hd h1 h2 ho ht kk
theorem x_lkT {dflt : Int} {ps : Array (Int × Int)} {len : Nat} {x c : Int32} {off : Int} {tgt : Nat} (hx : x = c) (hd : decode y.2.1 pc = .ok (.lookupswitch dflt ps, len)) (hp : (ps.toList.zip (ps.toList.drop 1)).all (fun (a, next) => a.1 < next.1) = true) (ho : Op.lookupswitch.offset ps.toList dflt c.toInt = off) (ht : (pc : Int) + off = (tgt : Int)) (kk : mi_X y d tgt ls st mem Q) : mi_X y d pc ls (vi x :: st) mem Q := by
  subst hx
  exact x_lookup hd hp ho ht kk
theorem mi_nz {v : Int32} (h : v = 0 ∨ v = 1) : narrow .boolean (.int v) = .int v := by
  rcases h with rfl | rfl <;> rfl
theorem x_zretB {v : Int32} (hd : decode y.2.1 pc = .ok (.ireturn, 1)) (hr : y.2.2.2 = some .boolean) (hn : v = 0 ∨ v = 1) (h : Q (some (vi v)) mem) : mi_X y d pc ls [vi v] mem Q := x_zret hd hr (mi_nz hn) h
theorem x_ialdJ {k i n : Nat} {j : Int32} (hd : decode y.2.1 pc = .ok (.iaload, 1)) (hA : mi_A k = (0, n, 0, 0, 0)) (hk : Nat.ble 13 k = true) (hi : i < mi_n k) (hin : vp_in j n) (kk : mi_X y d (pc + 1) ls (vi (mem.1 k i j.toNatClampNeg) :: st) mem Q) : mi_X y d pc ls (vi j :: vr k i :: st) mem Q := by
  intro p l e R s m args below meth c H locs cells slots Z A G lsm C Rt hP hD hS hl
  obtain ⟨q, hq⟩ := mi_at hi
  have he := mi_ws_at (G := G) (m := mem) hq
  rw [mi_c_a hk] at he
  unfold mi_ac at he
  rw [hA] at he
  exact va_iald C.1 C.2.1 C.2.2.2.2.2.2.2.1 hP q 0 he rfl hin hd (kk p l e R s m args below meth c H locs cells slots Z A G lsm C Rt hP hD hS hl)
theorem x_laldJ {k i n : Nat} {j : Int32} (hd : decode y.2.1 pc = .ok (.laload, 1)) (hA : mi_A k = (1, n, 0, 0, 0)) (hk : Nat.ble 13 k = true) (hi : i < mi_n k) (hin : vp_in j n) (kk : mi_X y d (pc + 1) ls (vl (mem.2.1 k i j.toNatClampNeg) :: st) mem Q) : mi_X y d pc ls (vi j :: vr k i :: st) mem Q := by
  intro p l e R s m args below meth c H locs cells slots Z A G lsm C Rt hP hD hS hl
  obtain ⟨q, hq⟩ := mi_at hi
  have he := mi_ws_at (G := G) (m := mem) hq
  rw [mi_c_a hk] at he
  unfold mi_ac at he
  rw [hA] at he
  exact va_lald C.1 C.2.1 C.2.2.2.2.2.2.2.1 hP q 1 he rfl hin hd (kk p l e R s m args below meth c H locs cells slots Z A G lsm C Rt hP hD hS hl)
theorem x_baldJ {k i n : Nat} {j : Int32} (hd : decode y.2.1 pc = .ok (.baload, 1)) (hA : mi_A k = (2, n, 0, 0, 0)) (hk : Nat.ble 13 k = true) (hi : i < mi_n k) (hin : vp_in j n) (kk : mi_X y d (pc + 1) ls (vi (mem.1 k i j.toNatClampNeg) :: st) mem Q) : mi_X y d pc ls (vi j :: vr k i :: st) mem Q := by
  intro p l e R s m args below meth c H locs cells slots Z A G lsm C Rt hP hD hS hl
  obtain ⟨q, hq⟩ := mi_at hi
  have he := mi_ws_at (G := G) (m := mem) hq
  rw [mi_c_a hk] at he
  unfold mi_ac at he
  rw [hA] at he
  exact va_bald C.1 C.2.1 C.2.2.2.2.2.2.2.1 hP q 2 he rfl hin hd (kk p l e R s m args below meth c H locs cells slots Z A G lsm C Rt hP hD hS hl)
theorem x_zaldJ {k i n : Nat} {j : Int32} (hd : decode y.2.1 pc = .ok (.baload, 1)) (hA : mi_A k = (3, n, 0, 0, 0)) (hk : Nat.ble 13 k = true) (hi : i < mi_n k) (hin : vp_in j n) (kk : mi_X y d (pc + 1) ls (vi (mem.1 k i j.toNatClampNeg) :: st) mem Q) : mi_X y d pc ls (vi j :: vr k i :: st) mem Q := by
  intro p l e R s m args below meth c H locs cells slots Z A G lsm C Rt hP hD hS hl
  obtain ⟨q, hq⟩ := mi_at hi
  have he := mi_ws_at (G := G) (m := mem) hq
  rw [mi_c_a hk] at he
  unfold mi_ac at he
  rw [hA] at he
  exact va_zald C.1 C.2.1 C.2.2.2.2.2.2.2.1 hP q 3 he rfl hin hd (kk p l e R s m args below meth c H locs cells slots Z A G lsm C Rt hP hD hS hl)
theorem mi_vin {j : Int32} {n : Nat} (h : vp_in j n) : j.toNatClampNeg < n ∧ j = nI j.toNatClampNeg := by
  have h1 : j.toNatClampNeg < n := Nat.not_le.mp fun q => h (Or.inr q)
  have h0 : ¬ j < 0 := fun q => h (Or.inl q)
  obtain ⟨t, ht, e⟩ := nI_of h0
  refine ⟨h1, ?_⟩
  rw [e, nI_clamp ht]
theorem x_iastJ {k i n : Nat} {j : Int32} {x : Int32} (hd : decode y.2.1 pc = .ok (.iastore, 1)) (hA : mi_A k = (0, n, 0, 0, 0)) (hk : Nat.ble 13 k = true) (hi : i < mi_n k) (hn : Nat.ble n 2147483647 = true) (hin : vp_in j n) (kk : mi_X y d (pc + 1) ls st (mi_wI mem k i j.toNatClampNeg x) Q) : mi_X y d pc ls (vi x :: vi j :: vr k i :: st) mem Q := x_iast hd hA hk hi (mi_vin hin).1 hn (mi_vin hin).2 kk
theorem x_bastJ {k i n : Nat} {j : Int32} {x : Int32} (hd : decode y.2.1 pc = .ok (.bastore, 1)) (hA : mi_A k = (2, n, 0, 0, 0)) (hk : Nat.ble 13 k = true) (hi : i < mi_n k) (hn : Nat.ble n 2147483647 = true) (hin : vp_in j n) (kk : mi_X y d (pc + 1) ls st (mi_wI mem k i j.toNatClampNeg (vp_nar .byte x)) Q) : mi_X y d pc ls (vi x :: vi j :: vr k i :: st) mem Q := x_bast hd hA hk hi (mi_vin hin).1 hn (mi_vin hin).2 kk
theorem x_zastJ {k i n : Nat} {j : Int32} {x : Int32} (hd : decode y.2.1 pc = .ok (.bastore, 1)) (hA : mi_A k = (3, n, 0, 0, 0)) (hk : Nat.ble 13 k = true) (hi : i < mi_n k) (hn : Nat.ble n 2147483647 = true) (hin : vp_in j n) (kk : mi_X y d (pc + 1) ls st (mi_wI mem k i j.toNatClampNeg (vp_nar .boolean x)) Q) : mi_X y d pc ls (vi x :: vi j :: vr k i :: st) mem Q := x_zast hd hA hk hi (mi_vin hin).1 hn (mi_vin hin).2 kk
theorem x_lastJ {k i n : Nat} {j : Int32} {x : Int64} (hd : decode y.2.1 pc = .ok (.lastore, 1)) (hA : mi_A k = (1, n, 0, 0, 0)) (hk : Nat.ble 13 k = true) (hi : i < mi_n k) (hn : Nat.ble n 2147483647 = true) (hin : vp_in j n) (kk : mi_X y d (pc + 1) ls st (mi_wL mem k i j.toNatClampNeg x) Q) : mi_X y d pc ls (vl x :: vi j :: vr k i :: st) mem Q := x_last hd hA hk hi (mi_vin hin).1 hn (mi_vin hin).2 kk
theorem x_aaldStJ {k i n k2 mul off : Nat} {j : Int32} (hd : decode y.2.1 pc = .ok (.aaload, 1)) (hA : mi_A k = (4, n, k2, mul, off)) (hk : Nat.ble 13 k = true) (hi : i < mi_n k) (hn : Nat.ble n 2147483647 = true) (hin : vp_in j n) (kk : mi_X y d (pc + 1) ls (vr k2 (mul * i + off + j.toNatClampNeg) :: st) mem Q) : mi_X y d pc ls (vi j :: vr k i :: st) mem Q := x_aaldSt hd hA hk hi (mi_vin hin).1 hn (mi_vin hin).2 rfl kk
theorem x_aaldSiJ {k i n k2 mul off : Nat} {j : Int32} (hd : decode y.2.1 pc = .ok (.aaload, 1)) (hA : mi_A k = (5, n, k2, mul, off)) (hk : Nat.ble 13 k = true) (hi : i < mi_n k) (hn : Nat.ble n 2147483647 = true) (hin : vp_in j n) (kk : mi_X y d (pc + 1) ls (vr k2 (mul * i + off + j.toNatClampNeg) :: st) mem Q) : mi_X y d pc ls (vi j :: vr k i :: st) mem Q := x_aaldSi hd hA hk hi (mi_vin hin).1 hn (mi_vin hin).2 rfl kk
theorem x_aaldRowJ {k i n k2 mul off : Nat} {j : Int32} (hd : decode y.2.1 pc = .ok (.aaload, 1)) (hA : mi_A k = (6, n, k2, mul, off)) (hk : Nat.ble 13 k = true) (hi : i < mi_n k) (hn : Nat.ble n 2147483647 = true) (hin : vp_in j n) (kk : mi_X y d (pc + 1) ls (vr k2 (mul * i + off + j.toNatClampNeg) :: st) mem Q) : mi_X y d pc ls (vi j :: vr k i :: st) mem Q := x_aaldRow hd hA hk hi (mi_vin hin).1 hn (mi_vin hin).2 rfl kk
theorem y_Vi0 {index k i d' : Nat} {y' : mi_MD} {o : Option (Int32 × mi_M)} {kf : Int32 → mi_M → Option β} (h : wo (mi_b o kf) QQ) (hd : decode y.2.1 pc = .ok (.invokevirtual index, 3)) (hm : mi_lv y.1.cls index y' 0 k) (hi : i < mi_n k) (hdd : d' < d) (hst : Nat.ble (mi_sz st) 8 = true) (hc : ∀ a, o = some a → mi_Ci d' y' (vr k i :: []) mem (fun x m' => x = a.1 ∧ m' = a.2)) (kk : ∀ r m1, wo (kf r m1) QQ → mi_X y d (pc + 3) ls (vi r :: st) m1 Q) : mi_X y d pc ls (vr k i :: st) mem Q := by
  obtain ⟨a, m, e, h⟩ := wo_b h
  exact x_Vi0 hd hm hi hdd hst (hc _ e) (fun x m' hq => by obtain ⟨rfl, rfl⟩ := hq; exact kk _ _ h)
theorem z_Vi0 {index k i d' : Nat} {y' : mi_MD} {o : Option Int32} {kf : Int32 → Option β} (h : wo (mi_bo o kf) QQ) (hd : decode y.2.1 pc = .ok (.invokevirtual index, 3)) (hm : mi_lv y.1.cls index y' 0 k) (hi : i < mi_n k) (hdd : d' < d) (hst : Nat.ble (mi_sz st) 8 = true) (hc : ∀ a, o = some a → mi_Ci d' y' (vr k i :: []) mem (fun x m' => x = a ∧ m' = mem)) (kk : ∀ r, wo (kf r) QQ → mi_X y d (pc + 3) ls (vi r :: st) mem Q) : mi_X y d pc ls (vr k i :: st) mem Q := by
  obtain ⟨a, e, h⟩ := wo_bo h
  exact x_Vi0 hd hm hi hdd hst (hc _ e) (fun x m' hq => by obtain ⟨rfl, rfl⟩ := hq; exact kk _ h)
theorem y_Vl0 {index k i d' : Nat} {y' : mi_MD} {o : Option (Int64 × mi_M)} {kf : Int64 → mi_M → Option β} (h : wo (mi_b o kf) QQ) (hd : decode y.2.1 pc = .ok (.invokevirtual index, 3)) (hm : mi_lv y.1.cls index y' 0 k) (hi : i < mi_n k) (hdd : d' < d) (hst : Nat.ble (mi_sz st) 8 = true) (hc : ∀ a, o = some a → mi_Cl d' y' (vr k i :: []) mem (fun x m' => x = a.1 ∧ m' = a.2)) (kk : ∀ r m1, wo (kf r m1) QQ → mi_X y d (pc + 3) ls (vl r :: st) m1 Q) : mi_X y d pc ls (vr k i :: st) mem Q := by
  obtain ⟨a, m, e, h⟩ := wo_b h
  exact x_Vl0 hd hm hi hdd hst (hc _ e) (fun x m' hq => by obtain ⟨rfl, rfl⟩ := hq; exact kk _ _ h)
theorem z_Vl0 {index k i d' : Nat} {y' : mi_MD} {o : Option Int64} {kf : Int64 → Option β} (h : wo (mi_bo o kf) QQ) (hd : decode y.2.1 pc = .ok (.invokevirtual index, 3)) (hm : mi_lv y.1.cls index y' 0 k) (hi : i < mi_n k) (hdd : d' < d) (hst : Nat.ble (mi_sz st) 8 = true) (hc : ∀ a, o = some a → mi_Cl d' y' (vr k i :: []) mem (fun x m' => x = a ∧ m' = mem)) (kk : ∀ r, wo (kf r) QQ → mi_X y d (pc + 3) ls (vl r :: st) mem Q) : mi_X y d pc ls (vr k i :: st) mem Q := by
  obtain ⟨a, e, h⟩ := wo_bo h
  exact x_Vl0 hd hm hi hdd hst (hc _ e) (fun x m' hq => by obtain ⟨rfl, rfl⟩ := hq; exact kk _ h)
theorem y_Vv0 {index k i d' : Nat} {y' : mi_MD} {o : Option mi_M} {kf : mi_M → Option β} (h : wo (mi_bo o kf) QQ) (hd : decode y.2.1 pc = .ok (.invokevirtual index, 3)) (hm : mi_lv y.1.cls index y' 0 k) (hi : i < mi_n k) (hdd : d' < d) (hst : Nat.ble (mi_sz st) 8 = true) (hc : ∀ a, o = some a → mi_Cv d' y' (vr k i :: []) mem (fun m' => m' = a)) (kk : ∀ m1, wo (kf m1) QQ → mi_X y d (pc + 3) ls st m1 Q) : mi_X y d pc ls (vr k i :: st) mem Q := by
  obtain ⟨a, e, h⟩ := wo_bo h
  exact x_Vv0 hd hm hi hdd hst (hc _ e) (fun m' hq => by rw [hq]; exact kk _ h)
theorem y_Si0 {index d' : Nat} {y' : mi_MD} {o : Option (Int32 × mi_M)} {kf : Int32 → mi_M → Option β} (h : wo (mi_b o kf) QQ) (hd : decode y.2.1 pc = .ok (.invokestatic index, 3)) (hm : mi_ls y.1.cls index y' 0) (hdd : d' < d) (hst : Nat.ble (mi_sz st) 8 = true) (hc : ∀ a, o = some a → mi_Ci d' y' ([]) mem (fun x m' => x = a.1 ∧ m' = a.2)) (kk : ∀ r m1, wo (kf r m1) QQ → mi_X y d (pc + 3) ls (vi r :: st) m1 Q) : mi_X y d pc ls (st) mem Q := by
  obtain ⟨a, m, e, h⟩ := wo_b h
  exact x_Si0 hd hm hdd hst (hc _ e) (fun x m' hq => by obtain ⟨rfl, rfl⟩ := hq; exact kk _ _ h)
theorem z_Si0 {index d' : Nat} {y' : mi_MD} {o : Option Int32} {kf : Int32 → Option β} (h : wo (mi_bo o kf) QQ) (hd : decode y.2.1 pc = .ok (.invokestatic index, 3)) (hm : mi_ls y.1.cls index y' 0) (hdd : d' < d) (hst : Nat.ble (mi_sz st) 8 = true) (hc : ∀ a, o = some a → mi_Ci d' y' ([]) mem (fun x m' => x = a ∧ m' = mem)) (kk : ∀ r, wo (kf r) QQ → mi_X y d (pc + 3) ls (vi r :: st) mem Q) : mi_X y d pc ls (st) mem Q := by
  obtain ⟨a, e, h⟩ := wo_bo h
  exact x_Si0 hd hm hdd hst (hc _ e) (fun x m' hq => by obtain ⟨rfl, rfl⟩ := hq; exact kk _ h)
theorem y_Sl0 {index d' : Nat} {y' : mi_MD} {o : Option (Int64 × mi_M)} {kf : Int64 → mi_M → Option β} (h : wo (mi_b o kf) QQ) (hd : decode y.2.1 pc = .ok (.invokestatic index, 3)) (hm : mi_ls y.1.cls index y' 0) (hdd : d' < d) (hst : Nat.ble (mi_sz st) 8 = true) (hc : ∀ a, o = some a → mi_Cl d' y' ([]) mem (fun x m' => x = a.1 ∧ m' = a.2)) (kk : ∀ r m1, wo (kf r m1) QQ → mi_X y d (pc + 3) ls (vl r :: st) m1 Q) : mi_X y d pc ls (st) mem Q := by
  obtain ⟨a, m, e, h⟩ := wo_b h
  exact x_Sl0 hd hm hdd hst (hc _ e) (fun x m' hq => by obtain ⟨rfl, rfl⟩ := hq; exact kk _ _ h)
theorem z_Sl0 {index d' : Nat} {y' : mi_MD} {o : Option Int64} {kf : Int64 → Option β} (h : wo (mi_bo o kf) QQ) (hd : decode y.2.1 pc = .ok (.invokestatic index, 3)) (hm : mi_ls y.1.cls index y' 0) (hdd : d' < d) (hst : Nat.ble (mi_sz st) 8 = true) (hc : ∀ a, o = some a → mi_Cl d' y' ([]) mem (fun x m' => x = a ∧ m' = mem)) (kk : ∀ r, wo (kf r) QQ → mi_X y d (pc + 3) ls (vl r :: st) mem Q) : mi_X y d pc ls (st) mem Q := by
  obtain ⟨a, e, h⟩ := wo_bo h
  exact x_Sl0 hd hm hdd hst (hc _ e) (fun x m' hq => by obtain ⟨rfl, rfl⟩ := hq; exact kk _ h)
theorem y_Sv0 {index d' : Nat} {y' : mi_MD} {o : Option mi_M} {kf : mi_M → Option β} (h : wo (mi_bo o kf) QQ) (hd : decode y.2.1 pc = .ok (.invokestatic index, 3)) (hm : mi_ls y.1.cls index y' 0) (hdd : d' < d) (hst : Nat.ble (mi_sz st) 8 = true) (hc : ∀ a, o = some a → mi_Cv d' y' ([]) mem (fun m' => m' = a)) (kk : ∀ m1, wo (kf m1) QQ → mi_X y d (pc + 3) ls st m1 Q) : mi_X y d pc ls (st) mem Q := by
  obtain ⟨a, e, h⟩ := wo_bo h
  exact x_Sv0 hd hm hdd hst (hc _ e) (fun m' hq => by rw [hq]; exact kk _ h)
theorem y_Ni0 {index d' : Nat} {host : String} {y' : mi_MD} {o : Option (Int32 × mi_M)} {kf : Int32 → mi_M → Option β} (h : wo (mi_b o kf) QQ) (hd : decode y.2.1 pc = .ok (.invokestatic index, 3)) (hm : mi_lsn y.1.cls index host y' 0) (hdd : d' < d) (hst : Nat.ble (mi_sz st) 8 = true) (hc : ∀ a, o = some a → mi_Ci d' y' ([]) mem (fun x m' => x = a.1 ∧ m' = a.2)) (kk : ∀ r m1, wo (kf r m1) QQ → mi_X y d (pc + 3) ls (vi r :: st) m1 Q) : mi_X y d pc ls (st) mem Q := by
  obtain ⟨a, m, e, h⟩ := wo_b h
  exact x_Ni0 hd hm hdd hst (hc _ e) (fun x m' hq => by obtain ⟨rfl, rfl⟩ := hq; exact kk _ _ h)
theorem z_Ni0 {index d' : Nat} {host : String} {y' : mi_MD} {o : Option Int32} {kf : Int32 → Option β} (h : wo (mi_bo o kf) QQ) (hd : decode y.2.1 pc = .ok (.invokestatic index, 3)) (hm : mi_lsn y.1.cls index host y' 0) (hdd : d' < d) (hst : Nat.ble (mi_sz st) 8 = true) (hc : ∀ a, o = some a → mi_Ci d' y' ([]) mem (fun x m' => x = a ∧ m' = mem)) (kk : ∀ r, wo (kf r) QQ → mi_X y d (pc + 3) ls (vi r :: st) mem Q) : mi_X y d pc ls (st) mem Q := by
  obtain ⟨a, e, h⟩ := wo_bo h
  exact x_Ni0 hd hm hdd hst (hc _ e) (fun x m' hq => by obtain ⟨rfl, rfl⟩ := hq; exact kk _ h)
theorem y_Nl0 {index d' : Nat} {host : String} {y' : mi_MD} {o : Option (Int64 × mi_M)} {kf : Int64 → mi_M → Option β} (h : wo (mi_b o kf) QQ) (hd : decode y.2.1 pc = .ok (.invokestatic index, 3)) (hm : mi_lsn y.1.cls index host y' 0) (hdd : d' < d) (hst : Nat.ble (mi_sz st) 8 = true) (hc : ∀ a, o = some a → mi_Cl d' y' ([]) mem (fun x m' => x = a.1 ∧ m' = a.2)) (kk : ∀ r m1, wo (kf r m1) QQ → mi_X y d (pc + 3) ls (vl r :: st) m1 Q) : mi_X y d pc ls (st) mem Q := by
  obtain ⟨a, m, e, h⟩ := wo_b h
  exact x_Nl0 hd hm hdd hst (hc _ e) (fun x m' hq => by obtain ⟨rfl, rfl⟩ := hq; exact kk _ _ h)
theorem z_Nl0 {index d' : Nat} {host : String} {y' : mi_MD} {o : Option Int64} {kf : Int64 → Option β} (h : wo (mi_bo o kf) QQ) (hd : decode y.2.1 pc = .ok (.invokestatic index, 3)) (hm : mi_lsn y.1.cls index host y' 0) (hdd : d' < d) (hst : Nat.ble (mi_sz st) 8 = true) (hc : ∀ a, o = some a → mi_Cl d' y' ([]) mem (fun x m' => x = a ∧ m' = mem)) (kk : ∀ r, wo (kf r) QQ → mi_X y d (pc + 3) ls (vl r :: st) mem Q) : mi_X y d pc ls (st) mem Q := by
  obtain ⟨a, e, h⟩ := wo_bo h
  exact x_Nl0 hd hm hdd hst (hc _ e) (fun x m' hq => by obtain ⟨rfl, rfl⟩ := hq; exact kk _ h)
theorem y_Nv0 {index d' : Nat} {host : String} {y' : mi_MD} {o : Option mi_M} {kf : mi_M → Option β} (h : wo (mi_bo o kf) QQ) (hd : decode y.2.1 pc = .ok (.invokestatic index, 3)) (hm : mi_lsn y.1.cls index host y' 0) (hdd : d' < d) (hst : Nat.ble (mi_sz st) 8 = true) (hc : ∀ a, o = some a → mi_Cv d' y' ([]) mem (fun m' => m' = a)) (kk : ∀ m1, wo (kf m1) QQ → mi_X y d (pc + 3) ls st m1 Q) : mi_X y d pc ls (st) mem Q := by
  obtain ⟨a, e, h⟩ := wo_bo h
  exact x_Nv0 hd hm hdd hst (hc _ e) (fun m' hq => by rw [hq]; exact kk _ h)
theorem y_Vi1 {index k i d' : Nat} {y' : mi_MD} {a0 : mi_V} {o : Option (Int32 × mi_M)} {kf : Int32 → mi_M → Option β} (h : wo (mi_b o kf) QQ) (hd : decode y.2.1 pc = .ok (.invokevirtual index, 3)) (hm : mi_lv y.1.cls index y' 1 k) (hi : i < mi_n k) (hdd : d' < d) (hst : Nat.ble (mi_sz st) 8 = true) (hc : ∀ a, o = some a → mi_Ci d' y' (vr k i :: [a0]) mem (fun x m' => x = a.1 ∧ m' = a.2)) (kk : ∀ r m1, wo (kf r m1) QQ → mi_X y d (pc + 3) ls (vi r :: st) m1 Q) : mi_X y d pc ls (a0 :: vr k i :: st) mem Q := by
  obtain ⟨a, m, e, h⟩ := wo_b h
  exact x_Vi1 hd hm hi hdd hst (hc _ e) (fun x m' hq => by obtain ⟨rfl, rfl⟩ := hq; exact kk _ _ h)
theorem z_Vi1 {index k i d' : Nat} {y' : mi_MD} {a0 : mi_V} {o : Option Int32} {kf : Int32 → Option β} (h : wo (mi_bo o kf) QQ) (hd : decode y.2.1 pc = .ok (.invokevirtual index, 3)) (hm : mi_lv y.1.cls index y' 1 k) (hi : i < mi_n k) (hdd : d' < d) (hst : Nat.ble (mi_sz st) 8 = true) (hc : ∀ a, o = some a → mi_Ci d' y' (vr k i :: [a0]) mem (fun x m' => x = a ∧ m' = mem)) (kk : ∀ r, wo (kf r) QQ → mi_X y d (pc + 3) ls (vi r :: st) mem Q) : mi_X y d pc ls (a0 :: vr k i :: st) mem Q := by
  obtain ⟨a, e, h⟩ := wo_bo h
  exact x_Vi1 hd hm hi hdd hst (hc _ e) (fun x m' hq => by obtain ⟨rfl, rfl⟩ := hq; exact kk _ h)
theorem y_Vl1 {index k i d' : Nat} {y' : mi_MD} {a0 : mi_V} {o : Option (Int64 × mi_M)} {kf : Int64 → mi_M → Option β} (h : wo (mi_b o kf) QQ) (hd : decode y.2.1 pc = .ok (.invokevirtual index, 3)) (hm : mi_lv y.1.cls index y' 1 k) (hi : i < mi_n k) (hdd : d' < d) (hst : Nat.ble (mi_sz st) 8 = true) (hc : ∀ a, o = some a → mi_Cl d' y' (vr k i :: [a0]) mem (fun x m' => x = a.1 ∧ m' = a.2)) (kk : ∀ r m1, wo (kf r m1) QQ → mi_X y d (pc + 3) ls (vl r :: st) m1 Q) : mi_X y d pc ls (a0 :: vr k i :: st) mem Q := by
  obtain ⟨a, m, e, h⟩ := wo_b h
  exact x_Vl1 hd hm hi hdd hst (hc _ e) (fun x m' hq => by obtain ⟨rfl, rfl⟩ := hq; exact kk _ _ h)
theorem z_Vl1 {index k i d' : Nat} {y' : mi_MD} {a0 : mi_V} {o : Option Int64} {kf : Int64 → Option β} (h : wo (mi_bo o kf) QQ) (hd : decode y.2.1 pc = .ok (.invokevirtual index, 3)) (hm : mi_lv y.1.cls index y' 1 k) (hi : i < mi_n k) (hdd : d' < d) (hst : Nat.ble (mi_sz st) 8 = true) (hc : ∀ a, o = some a → mi_Cl d' y' (vr k i :: [a0]) mem (fun x m' => x = a ∧ m' = mem)) (kk : ∀ r, wo (kf r) QQ → mi_X y d (pc + 3) ls (vl r :: st) mem Q) : mi_X y d pc ls (a0 :: vr k i :: st) mem Q := by
  obtain ⟨a, e, h⟩ := wo_bo h
  exact x_Vl1 hd hm hi hdd hst (hc _ e) (fun x m' hq => by obtain ⟨rfl, rfl⟩ := hq; exact kk _ h)
theorem y_Vv1 {index k i d' : Nat} {y' : mi_MD} {a0 : mi_V} {o : Option mi_M} {kf : mi_M → Option β} (h : wo (mi_bo o kf) QQ) (hd : decode y.2.1 pc = .ok (.invokevirtual index, 3)) (hm : mi_lv y.1.cls index y' 1 k) (hi : i < mi_n k) (hdd : d' < d) (hst : Nat.ble (mi_sz st) 8 = true) (hc : ∀ a, o = some a → mi_Cv d' y' (vr k i :: [a0]) mem (fun m' => m' = a)) (kk : ∀ m1, wo (kf m1) QQ → mi_X y d (pc + 3) ls st m1 Q) : mi_X y d pc ls (a0 :: vr k i :: st) mem Q := by
  obtain ⟨a, e, h⟩ := wo_bo h
  exact x_Vv1 hd hm hi hdd hst (hc _ e) (fun m' hq => by rw [hq]; exact kk _ h)
theorem y_Si1 {index d' : Nat} {y' : mi_MD} {a0 : mi_V} {o : Option (Int32 × mi_M)} {kf : Int32 → mi_M → Option β} (h : wo (mi_b o kf) QQ) (hd : decode y.2.1 pc = .ok (.invokestatic index, 3)) (hm : mi_ls y.1.cls index y' 1) (hdd : d' < d) (hst : Nat.ble (mi_sz st) 8 = true) (hc : ∀ a, o = some a → mi_Ci d' y' ([a0]) mem (fun x m' => x = a.1 ∧ m' = a.2)) (kk : ∀ r m1, wo (kf r m1) QQ → mi_X y d (pc + 3) ls (vi r :: st) m1 Q) : mi_X y d pc ls (a0 :: st) mem Q := by
  obtain ⟨a, m, e, h⟩ := wo_b h
  exact x_Si1 hd hm hdd hst (hc _ e) (fun x m' hq => by obtain ⟨rfl, rfl⟩ := hq; exact kk _ _ h)
theorem z_Si1 {index d' : Nat} {y' : mi_MD} {a0 : mi_V} {o : Option Int32} {kf : Int32 → Option β} (h : wo (mi_bo o kf) QQ) (hd : decode y.2.1 pc = .ok (.invokestatic index, 3)) (hm : mi_ls y.1.cls index y' 1) (hdd : d' < d) (hst : Nat.ble (mi_sz st) 8 = true) (hc : ∀ a, o = some a → mi_Ci d' y' ([a0]) mem (fun x m' => x = a ∧ m' = mem)) (kk : ∀ r, wo (kf r) QQ → mi_X y d (pc + 3) ls (vi r :: st) mem Q) : mi_X y d pc ls (a0 :: st) mem Q := by
  obtain ⟨a, e, h⟩ := wo_bo h
  exact x_Si1 hd hm hdd hst (hc _ e) (fun x m' hq => by obtain ⟨rfl, rfl⟩ := hq; exact kk _ h)
theorem y_Sl1 {index d' : Nat} {y' : mi_MD} {a0 : mi_V} {o : Option (Int64 × mi_M)} {kf : Int64 → mi_M → Option β} (h : wo (mi_b o kf) QQ) (hd : decode y.2.1 pc = .ok (.invokestatic index, 3)) (hm : mi_ls y.1.cls index y' 1) (hdd : d' < d) (hst : Nat.ble (mi_sz st) 8 = true) (hc : ∀ a, o = some a → mi_Cl d' y' ([a0]) mem (fun x m' => x = a.1 ∧ m' = a.2)) (kk : ∀ r m1, wo (kf r m1) QQ → mi_X y d (pc + 3) ls (vl r :: st) m1 Q) : mi_X y d pc ls (a0 :: st) mem Q := by
  obtain ⟨a, m, e, h⟩ := wo_b h
  exact x_Sl1 hd hm hdd hst (hc _ e) (fun x m' hq => by obtain ⟨rfl, rfl⟩ := hq; exact kk _ _ h)
theorem z_Sl1 {index d' : Nat} {y' : mi_MD} {a0 : mi_V} {o : Option Int64} {kf : Int64 → Option β} (h : wo (mi_bo o kf) QQ) (hd : decode y.2.1 pc = .ok (.invokestatic index, 3)) (hm : mi_ls y.1.cls index y' 1) (hdd : d' < d) (hst : Nat.ble (mi_sz st) 8 = true) (hc : ∀ a, o = some a → mi_Cl d' y' ([a0]) mem (fun x m' => x = a ∧ m' = mem)) (kk : ∀ r, wo (kf r) QQ → mi_X y d (pc + 3) ls (vl r :: st) mem Q) : mi_X y d pc ls (a0 :: st) mem Q := by
  obtain ⟨a, e, h⟩ := wo_bo h
  exact x_Sl1 hd hm hdd hst (hc _ e) (fun x m' hq => by obtain ⟨rfl, rfl⟩ := hq; exact kk _ h)
theorem y_Sv1 {index d' : Nat} {y' : mi_MD} {a0 : mi_V} {o : Option mi_M} {kf : mi_M → Option β} (h : wo (mi_bo o kf) QQ) (hd : decode y.2.1 pc = .ok (.invokestatic index, 3)) (hm : mi_ls y.1.cls index y' 1) (hdd : d' < d) (hst : Nat.ble (mi_sz st) 8 = true) (hc : ∀ a, o = some a → mi_Cv d' y' ([a0]) mem (fun m' => m' = a)) (kk : ∀ m1, wo (kf m1) QQ → mi_X y d (pc + 3) ls st m1 Q) : mi_X y d pc ls (a0 :: st) mem Q := by
  obtain ⟨a, e, h⟩ := wo_bo h
  exact x_Sv1 hd hm hdd hst (hc _ e) (fun m' hq => by rw [hq]; exact kk _ h)
theorem y_Ni1 {index d' : Nat} {host : String} {y' : mi_MD} {a0 : mi_V} {o : Option (Int32 × mi_M)} {kf : Int32 → mi_M → Option β} (h : wo (mi_b o kf) QQ) (hd : decode y.2.1 pc = .ok (.invokestatic index, 3)) (hm : mi_lsn y.1.cls index host y' 1) (hdd : d' < d) (hst : Nat.ble (mi_sz st) 8 = true) (hc : ∀ a, o = some a → mi_Ci d' y' ([a0]) mem (fun x m' => x = a.1 ∧ m' = a.2)) (kk : ∀ r m1, wo (kf r m1) QQ → mi_X y d (pc + 3) ls (vi r :: st) m1 Q) : mi_X y d pc ls (a0 :: st) mem Q := by
  obtain ⟨a, m, e, h⟩ := wo_b h
  exact x_Ni1 hd hm hdd hst (hc _ e) (fun x m' hq => by obtain ⟨rfl, rfl⟩ := hq; exact kk _ _ h)
theorem z_Ni1 {index d' : Nat} {host : String} {y' : mi_MD} {a0 : mi_V} {o : Option Int32} {kf : Int32 → Option β} (h : wo (mi_bo o kf) QQ) (hd : decode y.2.1 pc = .ok (.invokestatic index, 3)) (hm : mi_lsn y.1.cls index host y' 1) (hdd : d' < d) (hst : Nat.ble (mi_sz st) 8 = true) (hc : ∀ a, o = some a → mi_Ci d' y' ([a0]) mem (fun x m' => x = a ∧ m' = mem)) (kk : ∀ r, wo (kf r) QQ → mi_X y d (pc + 3) ls (vi r :: st) mem Q) : mi_X y d pc ls (a0 :: st) mem Q := by
  obtain ⟨a, e, h⟩ := wo_bo h
  exact x_Ni1 hd hm hdd hst (hc _ e) (fun x m' hq => by obtain ⟨rfl, rfl⟩ := hq; exact kk _ h)
theorem y_Nl1 {index d' : Nat} {host : String} {y' : mi_MD} {a0 : mi_V} {o : Option (Int64 × mi_M)} {kf : Int64 → mi_M → Option β} (h : wo (mi_b o kf) QQ) (hd : decode y.2.1 pc = .ok (.invokestatic index, 3)) (hm : mi_lsn y.1.cls index host y' 1) (hdd : d' < d) (hst : Nat.ble (mi_sz st) 8 = true) (hc : ∀ a, o = some a → mi_Cl d' y' ([a0]) mem (fun x m' => x = a.1 ∧ m' = a.2)) (kk : ∀ r m1, wo (kf r m1) QQ → mi_X y d (pc + 3) ls (vl r :: st) m1 Q) : mi_X y d pc ls (a0 :: st) mem Q := by
  obtain ⟨a, m, e, h⟩ := wo_b h
  exact x_Nl1 hd hm hdd hst (hc _ e) (fun x m' hq => by obtain ⟨rfl, rfl⟩ := hq; exact kk _ _ h)
theorem z_Nl1 {index d' : Nat} {host : String} {y' : mi_MD} {a0 : mi_V} {o : Option Int64} {kf : Int64 → Option β} (h : wo (mi_bo o kf) QQ) (hd : decode y.2.1 pc = .ok (.invokestatic index, 3)) (hm : mi_lsn y.1.cls index host y' 1) (hdd : d' < d) (hst : Nat.ble (mi_sz st) 8 = true) (hc : ∀ a, o = some a → mi_Cl d' y' ([a0]) mem (fun x m' => x = a ∧ m' = mem)) (kk : ∀ r, wo (kf r) QQ → mi_X y d (pc + 3) ls (vl r :: st) mem Q) : mi_X y d pc ls (a0 :: st) mem Q := by
  obtain ⟨a, e, h⟩ := wo_bo h
  exact x_Nl1 hd hm hdd hst (hc _ e) (fun x m' hq => by obtain ⟨rfl, rfl⟩ := hq; exact kk _ h)
theorem y_Nv1 {index d' : Nat} {host : String} {y' : mi_MD} {a0 : mi_V} {o : Option mi_M} {kf : mi_M → Option β} (h : wo (mi_bo o kf) QQ) (hd : decode y.2.1 pc = .ok (.invokestatic index, 3)) (hm : mi_lsn y.1.cls index host y' 1) (hdd : d' < d) (hst : Nat.ble (mi_sz st) 8 = true) (hc : ∀ a, o = some a → mi_Cv d' y' ([a0]) mem (fun m' => m' = a)) (kk : ∀ m1, wo (kf m1) QQ → mi_X y d (pc + 3) ls st m1 Q) : mi_X y d pc ls (a0 :: st) mem Q := by
  obtain ⟨a, e, h⟩ := wo_bo h
  exact x_Nv1 hd hm hdd hst (hc _ e) (fun m' hq => by rw [hq]; exact kk _ h)
theorem y_Vi2 {index k i d' : Nat} {y' : mi_MD} {a0 a1 : mi_V} {o : Option (Int32 × mi_M)} {kf : Int32 → mi_M → Option β} (h : wo (mi_b o kf) QQ) (hd : decode y.2.1 pc = .ok (.invokevirtual index, 3)) (hm : mi_lv y.1.cls index y' 2 k) (hi : i < mi_n k) (hdd : d' < d) (hst : Nat.ble (mi_sz st) 8 = true) (hc : ∀ a, o = some a → mi_Ci d' y' (vr k i :: [a0, a1]) mem (fun x m' => x = a.1 ∧ m' = a.2)) (kk : ∀ r m1, wo (kf r m1) QQ → mi_X y d (pc + 3) ls (vi r :: st) m1 Q) : mi_X y d pc ls (a1 :: a0 :: vr k i :: st) mem Q := by
  obtain ⟨a, m, e, h⟩ := wo_b h
  exact x_Vi2 hd hm hi hdd hst (hc _ e) (fun x m' hq => by obtain ⟨rfl, rfl⟩ := hq; exact kk _ _ h)
theorem z_Vi2 {index k i d' : Nat} {y' : mi_MD} {a0 a1 : mi_V} {o : Option Int32} {kf : Int32 → Option β} (h : wo (mi_bo o kf) QQ) (hd : decode y.2.1 pc = .ok (.invokevirtual index, 3)) (hm : mi_lv y.1.cls index y' 2 k) (hi : i < mi_n k) (hdd : d' < d) (hst : Nat.ble (mi_sz st) 8 = true) (hc : ∀ a, o = some a → mi_Ci d' y' (vr k i :: [a0, a1]) mem (fun x m' => x = a ∧ m' = mem)) (kk : ∀ r, wo (kf r) QQ → mi_X y d (pc + 3) ls (vi r :: st) mem Q) : mi_X y d pc ls (a1 :: a0 :: vr k i :: st) mem Q := by
  obtain ⟨a, e, h⟩ := wo_bo h
  exact x_Vi2 hd hm hi hdd hst (hc _ e) (fun x m' hq => by obtain ⟨rfl, rfl⟩ := hq; exact kk _ h)
theorem y_Vl2 {index k i d' : Nat} {y' : mi_MD} {a0 a1 : mi_V} {o : Option (Int64 × mi_M)} {kf : Int64 → mi_M → Option β} (h : wo (mi_b o kf) QQ) (hd : decode y.2.1 pc = .ok (.invokevirtual index, 3)) (hm : mi_lv y.1.cls index y' 2 k) (hi : i < mi_n k) (hdd : d' < d) (hst : Nat.ble (mi_sz st) 8 = true) (hc : ∀ a, o = some a → mi_Cl d' y' (vr k i :: [a0, a1]) mem (fun x m' => x = a.1 ∧ m' = a.2)) (kk : ∀ r m1, wo (kf r m1) QQ → mi_X y d (pc + 3) ls (vl r :: st) m1 Q) : mi_X y d pc ls (a1 :: a0 :: vr k i :: st) mem Q := by
  obtain ⟨a, m, e, h⟩ := wo_b h
  exact x_Vl2 hd hm hi hdd hst (hc _ e) (fun x m' hq => by obtain ⟨rfl, rfl⟩ := hq; exact kk _ _ h)
theorem z_Vl2 {index k i d' : Nat} {y' : mi_MD} {a0 a1 : mi_V} {o : Option Int64} {kf : Int64 → Option β} (h : wo (mi_bo o kf) QQ) (hd : decode y.2.1 pc = .ok (.invokevirtual index, 3)) (hm : mi_lv y.1.cls index y' 2 k) (hi : i < mi_n k) (hdd : d' < d) (hst : Nat.ble (mi_sz st) 8 = true) (hc : ∀ a, o = some a → mi_Cl d' y' (vr k i :: [a0, a1]) mem (fun x m' => x = a ∧ m' = mem)) (kk : ∀ r, wo (kf r) QQ → mi_X y d (pc + 3) ls (vl r :: st) mem Q) : mi_X y d pc ls (a1 :: a0 :: vr k i :: st) mem Q := by
  obtain ⟨a, e, h⟩ := wo_bo h
  exact x_Vl2 hd hm hi hdd hst (hc _ e) (fun x m' hq => by obtain ⟨rfl, rfl⟩ := hq; exact kk _ h)
theorem y_Vv2 {index k i d' : Nat} {y' : mi_MD} {a0 a1 : mi_V} {o : Option mi_M} {kf : mi_M → Option β} (h : wo (mi_bo o kf) QQ) (hd : decode y.2.1 pc = .ok (.invokevirtual index, 3)) (hm : mi_lv y.1.cls index y' 2 k) (hi : i < mi_n k) (hdd : d' < d) (hst : Nat.ble (mi_sz st) 8 = true) (hc : ∀ a, o = some a → mi_Cv d' y' (vr k i :: [a0, a1]) mem (fun m' => m' = a)) (kk : ∀ m1, wo (kf m1) QQ → mi_X y d (pc + 3) ls st m1 Q) : mi_X y d pc ls (a1 :: a0 :: vr k i :: st) mem Q := by
  obtain ⟨a, e, h⟩ := wo_bo h
  exact x_Vv2 hd hm hi hdd hst (hc _ e) (fun m' hq => by rw [hq]; exact kk _ h)
theorem y_Si2 {index d' : Nat} {y' : mi_MD} {a0 a1 : mi_V} {o : Option (Int32 × mi_M)} {kf : Int32 → mi_M → Option β} (h : wo (mi_b o kf) QQ) (hd : decode y.2.1 pc = .ok (.invokestatic index, 3)) (hm : mi_ls y.1.cls index y' 2) (hdd : d' < d) (hst : Nat.ble (mi_sz st) 8 = true) (hc : ∀ a, o = some a → mi_Ci d' y' ([a0, a1]) mem (fun x m' => x = a.1 ∧ m' = a.2)) (kk : ∀ r m1, wo (kf r m1) QQ → mi_X y d (pc + 3) ls (vi r :: st) m1 Q) : mi_X y d pc ls (a1 :: a0 :: st) mem Q := by
  obtain ⟨a, m, e, h⟩ := wo_b h
  exact x_Si2 hd hm hdd hst (hc _ e) (fun x m' hq => by obtain ⟨rfl, rfl⟩ := hq; exact kk _ _ h)
theorem z_Si2 {index d' : Nat} {y' : mi_MD} {a0 a1 : mi_V} {o : Option Int32} {kf : Int32 → Option β} (h : wo (mi_bo o kf) QQ) (hd : decode y.2.1 pc = .ok (.invokestatic index, 3)) (hm : mi_ls y.1.cls index y' 2) (hdd : d' < d) (hst : Nat.ble (mi_sz st) 8 = true) (hc : ∀ a, o = some a → mi_Ci d' y' ([a0, a1]) mem (fun x m' => x = a ∧ m' = mem)) (kk : ∀ r, wo (kf r) QQ → mi_X y d (pc + 3) ls (vi r :: st) mem Q) : mi_X y d pc ls (a1 :: a0 :: st) mem Q := by
  obtain ⟨a, e, h⟩ := wo_bo h
  exact x_Si2 hd hm hdd hst (hc _ e) (fun x m' hq => by obtain ⟨rfl, rfl⟩ := hq; exact kk _ h)
theorem y_Sl2 {index d' : Nat} {y' : mi_MD} {a0 a1 : mi_V} {o : Option (Int64 × mi_M)} {kf : Int64 → mi_M → Option β} (h : wo (mi_b o kf) QQ) (hd : decode y.2.1 pc = .ok (.invokestatic index, 3)) (hm : mi_ls y.1.cls index y' 2) (hdd : d' < d) (hst : Nat.ble (mi_sz st) 8 = true) (hc : ∀ a, o = some a → mi_Cl d' y' ([a0, a1]) mem (fun x m' => x = a.1 ∧ m' = a.2)) (kk : ∀ r m1, wo (kf r m1) QQ → mi_X y d (pc + 3) ls (vl r :: st) m1 Q) : mi_X y d pc ls (a1 :: a0 :: st) mem Q := by
  obtain ⟨a, m, e, h⟩ := wo_b h
  exact x_Sl2 hd hm hdd hst (hc _ e) (fun x m' hq => by obtain ⟨rfl, rfl⟩ := hq; exact kk _ _ h)
theorem z_Sl2 {index d' : Nat} {y' : mi_MD} {a0 a1 : mi_V} {o : Option Int64} {kf : Int64 → Option β} (h : wo (mi_bo o kf) QQ) (hd : decode y.2.1 pc = .ok (.invokestatic index, 3)) (hm : mi_ls y.1.cls index y' 2) (hdd : d' < d) (hst : Nat.ble (mi_sz st) 8 = true) (hc : ∀ a, o = some a → mi_Cl d' y' ([a0, a1]) mem (fun x m' => x = a ∧ m' = mem)) (kk : ∀ r, wo (kf r) QQ → mi_X y d (pc + 3) ls (vl r :: st) mem Q) : mi_X y d pc ls (a1 :: a0 :: st) mem Q := by
  obtain ⟨a, e, h⟩ := wo_bo h
  exact x_Sl2 hd hm hdd hst (hc _ e) (fun x m' hq => by obtain ⟨rfl, rfl⟩ := hq; exact kk _ h)
theorem y_Sv2 {index d' : Nat} {y' : mi_MD} {a0 a1 : mi_V} {o : Option mi_M} {kf : mi_M → Option β} (h : wo (mi_bo o kf) QQ) (hd : decode y.2.1 pc = .ok (.invokestatic index, 3)) (hm : mi_ls y.1.cls index y' 2) (hdd : d' < d) (hst : Nat.ble (mi_sz st) 8 = true) (hc : ∀ a, o = some a → mi_Cv d' y' ([a0, a1]) mem (fun m' => m' = a)) (kk : ∀ m1, wo (kf m1) QQ → mi_X y d (pc + 3) ls st m1 Q) : mi_X y d pc ls (a1 :: a0 :: st) mem Q := by
  obtain ⟨a, e, h⟩ := wo_bo h
  exact x_Sv2 hd hm hdd hst (hc _ e) (fun m' hq => by rw [hq]; exact kk _ h)
theorem y_Ni2 {index d' : Nat} {host : String} {y' : mi_MD} {a0 a1 : mi_V} {o : Option (Int32 × mi_M)} {kf : Int32 → mi_M → Option β} (h : wo (mi_b o kf) QQ) (hd : decode y.2.1 pc = .ok (.invokestatic index, 3)) (hm : mi_lsn y.1.cls index host y' 2) (hdd : d' < d) (hst : Nat.ble (mi_sz st) 8 = true) (hc : ∀ a, o = some a → mi_Ci d' y' ([a0, a1]) mem (fun x m' => x = a.1 ∧ m' = a.2)) (kk : ∀ r m1, wo (kf r m1) QQ → mi_X y d (pc + 3) ls (vi r :: st) m1 Q) : mi_X y d pc ls (a1 :: a0 :: st) mem Q := by
  obtain ⟨a, m, e, h⟩ := wo_b h
  exact x_Ni2 hd hm hdd hst (hc _ e) (fun x m' hq => by obtain ⟨rfl, rfl⟩ := hq; exact kk _ _ h)
theorem z_Ni2 {index d' : Nat} {host : String} {y' : mi_MD} {a0 a1 : mi_V} {o : Option Int32} {kf : Int32 → Option β} (h : wo (mi_bo o kf) QQ) (hd : decode y.2.1 pc = .ok (.invokestatic index, 3)) (hm : mi_lsn y.1.cls index host y' 2) (hdd : d' < d) (hst : Nat.ble (mi_sz st) 8 = true) (hc : ∀ a, o = some a → mi_Ci d' y' ([a0, a1]) mem (fun x m' => x = a ∧ m' = mem)) (kk : ∀ r, wo (kf r) QQ → mi_X y d (pc + 3) ls (vi r :: st) mem Q) : mi_X y d pc ls (a1 :: a0 :: st) mem Q := by
  obtain ⟨a, e, h⟩ := wo_bo h
  exact x_Ni2 hd hm hdd hst (hc _ e) (fun x m' hq => by obtain ⟨rfl, rfl⟩ := hq; exact kk _ h)
theorem y_Nl2 {index d' : Nat} {host : String} {y' : mi_MD} {a0 a1 : mi_V} {o : Option (Int64 × mi_M)} {kf : Int64 → mi_M → Option β} (h : wo (mi_b o kf) QQ) (hd : decode y.2.1 pc = .ok (.invokestatic index, 3)) (hm : mi_lsn y.1.cls index host y' 2) (hdd : d' < d) (hst : Nat.ble (mi_sz st) 8 = true) (hc : ∀ a, o = some a → mi_Cl d' y' ([a0, a1]) mem (fun x m' => x = a.1 ∧ m' = a.2)) (kk : ∀ r m1, wo (kf r m1) QQ → mi_X y d (pc + 3) ls (vl r :: st) m1 Q) : mi_X y d pc ls (a1 :: a0 :: st) mem Q := by
  obtain ⟨a, m, e, h⟩ := wo_b h
  exact x_Nl2 hd hm hdd hst (hc _ e) (fun x m' hq => by obtain ⟨rfl, rfl⟩ := hq; exact kk _ _ h)
theorem z_Nl2 {index d' : Nat} {host : String} {y' : mi_MD} {a0 a1 : mi_V} {o : Option Int64} {kf : Int64 → Option β} (h : wo (mi_bo o kf) QQ) (hd : decode y.2.1 pc = .ok (.invokestatic index, 3)) (hm : mi_lsn y.1.cls index host y' 2) (hdd : d' < d) (hst : Nat.ble (mi_sz st) 8 = true) (hc : ∀ a, o = some a → mi_Cl d' y' ([a0, a1]) mem (fun x m' => x = a ∧ m' = mem)) (kk : ∀ r, wo (kf r) QQ → mi_X y d (pc + 3) ls (vl r :: st) mem Q) : mi_X y d pc ls (a1 :: a0 :: st) mem Q := by
  obtain ⟨a, e, h⟩ := wo_bo h
  exact x_Nl2 hd hm hdd hst (hc _ e) (fun x m' hq => by obtain ⟨rfl, rfl⟩ := hq; exact kk _ h)
theorem y_Nv2 {index d' : Nat} {host : String} {y' : mi_MD} {a0 a1 : mi_V} {o : Option mi_M} {kf : mi_M → Option β} (h : wo (mi_bo o kf) QQ) (hd : decode y.2.1 pc = .ok (.invokestatic index, 3)) (hm : mi_lsn y.1.cls index host y' 2) (hdd : d' < d) (hst : Nat.ble (mi_sz st) 8 = true) (hc : ∀ a, o = some a → mi_Cv d' y' ([a0, a1]) mem (fun m' => m' = a)) (kk : ∀ m1, wo (kf m1) QQ → mi_X y d (pc + 3) ls st m1 Q) : mi_X y d pc ls (a1 :: a0 :: st) mem Q := by
  obtain ⟨a, e, h⟩ := wo_bo h
  exact x_Nv2 hd hm hdd hst (hc _ e) (fun m' hq => by rw [hq]; exact kk _ h)
theorem y_Vi3 {index k i d' : Nat} {y' : mi_MD} {a0 a1 a2 : mi_V} {o : Option (Int32 × mi_M)} {kf : Int32 → mi_M → Option β} (h : wo (mi_b o kf) QQ) (hd : decode y.2.1 pc = .ok (.invokevirtual index, 3)) (hm : mi_lv y.1.cls index y' 3 k) (hi : i < mi_n k) (hdd : d' < d) (hst : Nat.ble (mi_sz st) 8 = true) (hc : ∀ a, o = some a → mi_Ci d' y' (vr k i :: [a0, a1, a2]) mem (fun x m' => x = a.1 ∧ m' = a.2)) (kk : ∀ r m1, wo (kf r m1) QQ → mi_X y d (pc + 3) ls (vi r :: st) m1 Q) : mi_X y d pc ls (a2 :: a1 :: a0 :: vr k i :: st) mem Q := by
  obtain ⟨a, m, e, h⟩ := wo_b h
  exact x_Vi3 hd hm hi hdd hst (hc _ e) (fun x m' hq => by obtain ⟨rfl, rfl⟩ := hq; exact kk _ _ h)
theorem z_Vi3 {index k i d' : Nat} {y' : mi_MD} {a0 a1 a2 : mi_V} {o : Option Int32} {kf : Int32 → Option β} (h : wo (mi_bo o kf) QQ) (hd : decode y.2.1 pc = .ok (.invokevirtual index, 3)) (hm : mi_lv y.1.cls index y' 3 k) (hi : i < mi_n k) (hdd : d' < d) (hst : Nat.ble (mi_sz st) 8 = true) (hc : ∀ a, o = some a → mi_Ci d' y' (vr k i :: [a0, a1, a2]) mem (fun x m' => x = a ∧ m' = mem)) (kk : ∀ r, wo (kf r) QQ → mi_X y d (pc + 3) ls (vi r :: st) mem Q) : mi_X y d pc ls (a2 :: a1 :: a0 :: vr k i :: st) mem Q := by
  obtain ⟨a, e, h⟩ := wo_bo h
  exact x_Vi3 hd hm hi hdd hst (hc _ e) (fun x m' hq => by obtain ⟨rfl, rfl⟩ := hq; exact kk _ h)
theorem y_Vl3 {index k i d' : Nat} {y' : mi_MD} {a0 a1 a2 : mi_V} {o : Option (Int64 × mi_M)} {kf : Int64 → mi_M → Option β} (h : wo (mi_b o kf) QQ) (hd : decode y.2.1 pc = .ok (.invokevirtual index, 3)) (hm : mi_lv y.1.cls index y' 3 k) (hi : i < mi_n k) (hdd : d' < d) (hst : Nat.ble (mi_sz st) 8 = true) (hc : ∀ a, o = some a → mi_Cl d' y' (vr k i :: [a0, a1, a2]) mem (fun x m' => x = a.1 ∧ m' = a.2)) (kk : ∀ r m1, wo (kf r m1) QQ → mi_X y d (pc + 3) ls (vl r :: st) m1 Q) : mi_X y d pc ls (a2 :: a1 :: a0 :: vr k i :: st) mem Q := by
  obtain ⟨a, m, e, h⟩ := wo_b h
  exact x_Vl3 hd hm hi hdd hst (hc _ e) (fun x m' hq => by obtain ⟨rfl, rfl⟩ := hq; exact kk _ _ h)
theorem z_Vl3 {index k i d' : Nat} {y' : mi_MD} {a0 a1 a2 : mi_V} {o : Option Int64} {kf : Int64 → Option β} (h : wo (mi_bo o kf) QQ) (hd : decode y.2.1 pc = .ok (.invokevirtual index, 3)) (hm : mi_lv y.1.cls index y' 3 k) (hi : i < mi_n k) (hdd : d' < d) (hst : Nat.ble (mi_sz st) 8 = true) (hc : ∀ a, o = some a → mi_Cl d' y' (vr k i :: [a0, a1, a2]) mem (fun x m' => x = a ∧ m' = mem)) (kk : ∀ r, wo (kf r) QQ → mi_X y d (pc + 3) ls (vl r :: st) mem Q) : mi_X y d pc ls (a2 :: a1 :: a0 :: vr k i :: st) mem Q := by
  obtain ⟨a, e, h⟩ := wo_bo h
  exact x_Vl3 hd hm hi hdd hst (hc _ e) (fun x m' hq => by obtain ⟨rfl, rfl⟩ := hq; exact kk _ h)
theorem y_Vv3 {index k i d' : Nat} {y' : mi_MD} {a0 a1 a2 : mi_V} {o : Option mi_M} {kf : mi_M → Option β} (h : wo (mi_bo o kf) QQ) (hd : decode y.2.1 pc = .ok (.invokevirtual index, 3)) (hm : mi_lv y.1.cls index y' 3 k) (hi : i < mi_n k) (hdd : d' < d) (hst : Nat.ble (mi_sz st) 8 = true) (hc : ∀ a, o = some a → mi_Cv d' y' (vr k i :: [a0, a1, a2]) mem (fun m' => m' = a)) (kk : ∀ m1, wo (kf m1) QQ → mi_X y d (pc + 3) ls st m1 Q) : mi_X y d pc ls (a2 :: a1 :: a0 :: vr k i :: st) mem Q := by
  obtain ⟨a, e, h⟩ := wo_bo h
  exact x_Vv3 hd hm hi hdd hst (hc _ e) (fun m' hq => by rw [hq]; exact kk _ h)
theorem y_Si3 {index d' : Nat} {y' : mi_MD} {a0 a1 a2 : mi_V} {o : Option (Int32 × mi_M)} {kf : Int32 → mi_M → Option β} (h : wo (mi_b o kf) QQ) (hd : decode y.2.1 pc = .ok (.invokestatic index, 3)) (hm : mi_ls y.1.cls index y' 3) (hdd : d' < d) (hst : Nat.ble (mi_sz st) 8 = true) (hc : ∀ a, o = some a → mi_Ci d' y' ([a0, a1, a2]) mem (fun x m' => x = a.1 ∧ m' = a.2)) (kk : ∀ r m1, wo (kf r m1) QQ → mi_X y d (pc + 3) ls (vi r :: st) m1 Q) : mi_X y d pc ls (a2 :: a1 :: a0 :: st) mem Q := by
  obtain ⟨a, m, e, h⟩ := wo_b h
  exact x_Si3 hd hm hdd hst (hc _ e) (fun x m' hq => by obtain ⟨rfl, rfl⟩ := hq; exact kk _ _ h)
theorem z_Si3 {index d' : Nat} {y' : mi_MD} {a0 a1 a2 : mi_V} {o : Option Int32} {kf : Int32 → Option β} (h : wo (mi_bo o kf) QQ) (hd : decode y.2.1 pc = .ok (.invokestatic index, 3)) (hm : mi_ls y.1.cls index y' 3) (hdd : d' < d) (hst : Nat.ble (mi_sz st) 8 = true) (hc : ∀ a, o = some a → mi_Ci d' y' ([a0, a1, a2]) mem (fun x m' => x = a ∧ m' = mem)) (kk : ∀ r, wo (kf r) QQ → mi_X y d (pc + 3) ls (vi r :: st) mem Q) : mi_X y d pc ls (a2 :: a1 :: a0 :: st) mem Q := by
  obtain ⟨a, e, h⟩ := wo_bo h
  exact x_Si3 hd hm hdd hst (hc _ e) (fun x m' hq => by obtain ⟨rfl, rfl⟩ := hq; exact kk _ h)
theorem y_Sl3 {index d' : Nat} {y' : mi_MD} {a0 a1 a2 : mi_V} {o : Option (Int64 × mi_M)} {kf : Int64 → mi_M → Option β} (h : wo (mi_b o kf) QQ) (hd : decode y.2.1 pc = .ok (.invokestatic index, 3)) (hm : mi_ls y.1.cls index y' 3) (hdd : d' < d) (hst : Nat.ble (mi_sz st) 8 = true) (hc : ∀ a, o = some a → mi_Cl d' y' ([a0, a1, a2]) mem (fun x m' => x = a.1 ∧ m' = a.2)) (kk : ∀ r m1, wo (kf r m1) QQ → mi_X y d (pc + 3) ls (vl r :: st) m1 Q) : mi_X y d pc ls (a2 :: a1 :: a0 :: st) mem Q := by
  obtain ⟨a, m, e, h⟩ := wo_b h
  exact x_Sl3 hd hm hdd hst (hc _ e) (fun x m' hq => by obtain ⟨rfl, rfl⟩ := hq; exact kk _ _ h)
theorem z_Sl3 {index d' : Nat} {y' : mi_MD} {a0 a1 a2 : mi_V} {o : Option Int64} {kf : Int64 → Option β} (h : wo (mi_bo o kf) QQ) (hd : decode y.2.1 pc = .ok (.invokestatic index, 3)) (hm : mi_ls y.1.cls index y' 3) (hdd : d' < d) (hst : Nat.ble (mi_sz st) 8 = true) (hc : ∀ a, o = some a → mi_Cl d' y' ([a0, a1, a2]) mem (fun x m' => x = a ∧ m' = mem)) (kk : ∀ r, wo (kf r) QQ → mi_X y d (pc + 3) ls (vl r :: st) mem Q) : mi_X y d pc ls (a2 :: a1 :: a0 :: st) mem Q := by
  obtain ⟨a, e, h⟩ := wo_bo h
  exact x_Sl3 hd hm hdd hst (hc _ e) (fun x m' hq => by obtain ⟨rfl, rfl⟩ := hq; exact kk _ h)
theorem y_Sv3 {index d' : Nat} {y' : mi_MD} {a0 a1 a2 : mi_V} {o : Option mi_M} {kf : mi_M → Option β} (h : wo (mi_bo o kf) QQ) (hd : decode y.2.1 pc = .ok (.invokestatic index, 3)) (hm : mi_ls y.1.cls index y' 3) (hdd : d' < d) (hst : Nat.ble (mi_sz st) 8 = true) (hc : ∀ a, o = some a → mi_Cv d' y' ([a0, a1, a2]) mem (fun m' => m' = a)) (kk : ∀ m1, wo (kf m1) QQ → mi_X y d (pc + 3) ls st m1 Q) : mi_X y d pc ls (a2 :: a1 :: a0 :: st) mem Q := by
  obtain ⟨a, e, h⟩ := wo_bo h
  exact x_Sv3 hd hm hdd hst (hc _ e) (fun m' hq => by rw [hq]; exact kk _ h)
theorem y_Ni3 {index d' : Nat} {host : String} {y' : mi_MD} {a0 a1 a2 : mi_V} {o : Option (Int32 × mi_M)} {kf : Int32 → mi_M → Option β} (h : wo (mi_b o kf) QQ) (hd : decode y.2.1 pc = .ok (.invokestatic index, 3)) (hm : mi_lsn y.1.cls index host y' 3) (hdd : d' < d) (hst : Nat.ble (mi_sz st) 8 = true) (hc : ∀ a, o = some a → mi_Ci d' y' ([a0, a1, a2]) mem (fun x m' => x = a.1 ∧ m' = a.2)) (kk : ∀ r m1, wo (kf r m1) QQ → mi_X y d (pc + 3) ls (vi r :: st) m1 Q) : mi_X y d pc ls (a2 :: a1 :: a0 :: st) mem Q := by
  obtain ⟨a, m, e, h⟩ := wo_b h
  exact x_Ni3 hd hm hdd hst (hc _ e) (fun x m' hq => by obtain ⟨rfl, rfl⟩ := hq; exact kk _ _ h)
theorem z_Ni3 {index d' : Nat} {host : String} {y' : mi_MD} {a0 a1 a2 : mi_V} {o : Option Int32} {kf : Int32 → Option β} (h : wo (mi_bo o kf) QQ) (hd : decode y.2.1 pc = .ok (.invokestatic index, 3)) (hm : mi_lsn y.1.cls index host y' 3) (hdd : d' < d) (hst : Nat.ble (mi_sz st) 8 = true) (hc : ∀ a, o = some a → mi_Ci d' y' ([a0, a1, a2]) mem (fun x m' => x = a ∧ m' = mem)) (kk : ∀ r, wo (kf r) QQ → mi_X y d (pc + 3) ls (vi r :: st) mem Q) : mi_X y d pc ls (a2 :: a1 :: a0 :: st) mem Q := by
  obtain ⟨a, e, h⟩ := wo_bo h
  exact x_Ni3 hd hm hdd hst (hc _ e) (fun x m' hq => by obtain ⟨rfl, rfl⟩ := hq; exact kk _ h)
theorem y_Nl3 {index d' : Nat} {host : String} {y' : mi_MD} {a0 a1 a2 : mi_V} {o : Option (Int64 × mi_M)} {kf : Int64 → mi_M → Option β} (h : wo (mi_b o kf) QQ) (hd : decode y.2.1 pc = .ok (.invokestatic index, 3)) (hm : mi_lsn y.1.cls index host y' 3) (hdd : d' < d) (hst : Nat.ble (mi_sz st) 8 = true) (hc : ∀ a, o = some a → mi_Cl d' y' ([a0, a1, a2]) mem (fun x m' => x = a.1 ∧ m' = a.2)) (kk : ∀ r m1, wo (kf r m1) QQ → mi_X y d (pc + 3) ls (vl r :: st) m1 Q) : mi_X y d pc ls (a2 :: a1 :: a0 :: st) mem Q := by
  obtain ⟨a, m, e, h⟩ := wo_b h
  exact x_Nl3 hd hm hdd hst (hc _ e) (fun x m' hq => by obtain ⟨rfl, rfl⟩ := hq; exact kk _ _ h)
theorem z_Nl3 {index d' : Nat} {host : String} {y' : mi_MD} {a0 a1 a2 : mi_V} {o : Option Int64} {kf : Int64 → Option β} (h : wo (mi_bo o kf) QQ) (hd : decode y.2.1 pc = .ok (.invokestatic index, 3)) (hm : mi_lsn y.1.cls index host y' 3) (hdd : d' < d) (hst : Nat.ble (mi_sz st) 8 = true) (hc : ∀ a, o = some a → mi_Cl d' y' ([a0, a1, a2]) mem (fun x m' => x = a ∧ m' = mem)) (kk : ∀ r, wo (kf r) QQ → mi_X y d (pc + 3) ls (vl r :: st) mem Q) : mi_X y d pc ls (a2 :: a1 :: a0 :: st) mem Q := by
  obtain ⟨a, e, h⟩ := wo_bo h
  exact x_Nl3 hd hm hdd hst (hc _ e) (fun x m' hq => by obtain ⟨rfl, rfl⟩ := hq; exact kk _ h)
theorem y_Nv3 {index d' : Nat} {host : String} {y' : mi_MD} {a0 a1 a2 : mi_V} {o : Option mi_M} {kf : mi_M → Option β} (h : wo (mi_bo o kf) QQ) (hd : decode y.2.1 pc = .ok (.invokestatic index, 3)) (hm : mi_lsn y.1.cls index host y' 3) (hdd : d' < d) (hst : Nat.ble (mi_sz st) 8 = true) (hc : ∀ a, o = some a → mi_Cv d' y' ([a0, a1, a2]) mem (fun m' => m' = a)) (kk : ∀ m1, wo (kf m1) QQ → mi_X y d (pc + 3) ls st m1 Q) : mi_X y d pc ls (a2 :: a1 :: a0 :: st) mem Q := by
  obtain ⟨a, e, h⟩ := wo_bo h
  exact x_Nv3 hd hm hdd hst (hc _ e) (fun m' hq => by rw [hq]; exact kk _ h)
theorem y_Vi4 {index k i d' : Nat} {y' : mi_MD} {a0 a1 a2 a3 : mi_V} {o : Option (Int32 × mi_M)} {kf : Int32 → mi_M → Option β} (h : wo (mi_b o kf) QQ) (hd : decode y.2.1 pc = .ok (.invokevirtual index, 3)) (hm : mi_lv y.1.cls index y' 4 k) (hi : i < mi_n k) (hdd : d' < d) (hst : Nat.ble (mi_sz st) 8 = true) (hc : ∀ a, o = some a → mi_Ci d' y' (vr k i :: [a0, a1, a2, a3]) mem (fun x m' => x = a.1 ∧ m' = a.2)) (kk : ∀ r m1, wo (kf r m1) QQ → mi_X y d (pc + 3) ls (vi r :: st) m1 Q) : mi_X y d pc ls (a3 :: a2 :: a1 :: a0 :: vr k i :: st) mem Q := by
  obtain ⟨a, m, e, h⟩ := wo_b h
  exact x_Vi4 hd hm hi hdd hst (hc _ e) (fun x m' hq => by obtain ⟨rfl, rfl⟩ := hq; exact kk _ _ h)
theorem z_Vi4 {index k i d' : Nat} {y' : mi_MD} {a0 a1 a2 a3 : mi_V} {o : Option Int32} {kf : Int32 → Option β} (h : wo (mi_bo o kf) QQ) (hd : decode y.2.1 pc = .ok (.invokevirtual index, 3)) (hm : mi_lv y.1.cls index y' 4 k) (hi : i < mi_n k) (hdd : d' < d) (hst : Nat.ble (mi_sz st) 8 = true) (hc : ∀ a, o = some a → mi_Ci d' y' (vr k i :: [a0, a1, a2, a3]) mem (fun x m' => x = a ∧ m' = mem)) (kk : ∀ r, wo (kf r) QQ → mi_X y d (pc + 3) ls (vi r :: st) mem Q) : mi_X y d pc ls (a3 :: a2 :: a1 :: a0 :: vr k i :: st) mem Q := by
  obtain ⟨a, e, h⟩ := wo_bo h
  exact x_Vi4 hd hm hi hdd hst (hc _ e) (fun x m' hq => by obtain ⟨rfl, rfl⟩ := hq; exact kk _ h)
theorem y_Vl4 {index k i d' : Nat} {y' : mi_MD} {a0 a1 a2 a3 : mi_V} {o : Option (Int64 × mi_M)} {kf : Int64 → mi_M → Option β} (h : wo (mi_b o kf) QQ) (hd : decode y.2.1 pc = .ok (.invokevirtual index, 3)) (hm : mi_lv y.1.cls index y' 4 k) (hi : i < mi_n k) (hdd : d' < d) (hst : Nat.ble (mi_sz st) 8 = true) (hc : ∀ a, o = some a → mi_Cl d' y' (vr k i :: [a0, a1, a2, a3]) mem (fun x m' => x = a.1 ∧ m' = a.2)) (kk : ∀ r m1, wo (kf r m1) QQ → mi_X y d (pc + 3) ls (vl r :: st) m1 Q) : mi_X y d pc ls (a3 :: a2 :: a1 :: a0 :: vr k i :: st) mem Q := by
  obtain ⟨a, m, e, h⟩ := wo_b h
  exact x_Vl4 hd hm hi hdd hst (hc _ e) (fun x m' hq => by obtain ⟨rfl, rfl⟩ := hq; exact kk _ _ h)
theorem z_Vl4 {index k i d' : Nat} {y' : mi_MD} {a0 a1 a2 a3 : mi_V} {o : Option Int64} {kf : Int64 → Option β} (h : wo (mi_bo o kf) QQ) (hd : decode y.2.1 pc = .ok (.invokevirtual index, 3)) (hm : mi_lv y.1.cls index y' 4 k) (hi : i < mi_n k) (hdd : d' < d) (hst : Nat.ble (mi_sz st) 8 = true) (hc : ∀ a, o = some a → mi_Cl d' y' (vr k i :: [a0, a1, a2, a3]) mem (fun x m' => x = a ∧ m' = mem)) (kk : ∀ r, wo (kf r) QQ → mi_X y d (pc + 3) ls (vl r :: st) mem Q) : mi_X y d pc ls (a3 :: a2 :: a1 :: a0 :: vr k i :: st) mem Q := by
  obtain ⟨a, e, h⟩ := wo_bo h
  exact x_Vl4 hd hm hi hdd hst (hc _ e) (fun x m' hq => by obtain ⟨rfl, rfl⟩ := hq; exact kk _ h)
theorem y_Vv4 {index k i d' : Nat} {y' : mi_MD} {a0 a1 a2 a3 : mi_V} {o : Option mi_M} {kf : mi_M → Option β} (h : wo (mi_bo o kf) QQ) (hd : decode y.2.1 pc = .ok (.invokevirtual index, 3)) (hm : mi_lv y.1.cls index y' 4 k) (hi : i < mi_n k) (hdd : d' < d) (hst : Nat.ble (mi_sz st) 8 = true) (hc : ∀ a, o = some a → mi_Cv d' y' (vr k i :: [a0, a1, a2, a3]) mem (fun m' => m' = a)) (kk : ∀ m1, wo (kf m1) QQ → mi_X y d (pc + 3) ls st m1 Q) : mi_X y d pc ls (a3 :: a2 :: a1 :: a0 :: vr k i :: st) mem Q := by
  obtain ⟨a, e, h⟩ := wo_bo h
  exact x_Vv4 hd hm hi hdd hst (hc _ e) (fun m' hq => by rw [hq]; exact kk _ h)
theorem y_Si4 {index d' : Nat} {y' : mi_MD} {a0 a1 a2 a3 : mi_V} {o : Option (Int32 × mi_M)} {kf : Int32 → mi_M → Option β} (h : wo (mi_b o kf) QQ) (hd : decode y.2.1 pc = .ok (.invokestatic index, 3)) (hm : mi_ls y.1.cls index y' 4) (hdd : d' < d) (hst : Nat.ble (mi_sz st) 8 = true) (hc : ∀ a, o = some a → mi_Ci d' y' ([a0, a1, a2, a3]) mem (fun x m' => x = a.1 ∧ m' = a.2)) (kk : ∀ r m1, wo (kf r m1) QQ → mi_X y d (pc + 3) ls (vi r :: st) m1 Q) : mi_X y d pc ls (a3 :: a2 :: a1 :: a0 :: st) mem Q := by
  obtain ⟨a, m, e, h⟩ := wo_b h
  exact x_Si4 hd hm hdd hst (hc _ e) (fun x m' hq => by obtain ⟨rfl, rfl⟩ := hq; exact kk _ _ h)
theorem z_Si4 {index d' : Nat} {y' : mi_MD} {a0 a1 a2 a3 : mi_V} {o : Option Int32} {kf : Int32 → Option β} (h : wo (mi_bo o kf) QQ) (hd : decode y.2.1 pc = .ok (.invokestatic index, 3)) (hm : mi_ls y.1.cls index y' 4) (hdd : d' < d) (hst : Nat.ble (mi_sz st) 8 = true) (hc : ∀ a, o = some a → mi_Ci d' y' ([a0, a1, a2, a3]) mem (fun x m' => x = a ∧ m' = mem)) (kk : ∀ r, wo (kf r) QQ → mi_X y d (pc + 3) ls (vi r :: st) mem Q) : mi_X y d pc ls (a3 :: a2 :: a1 :: a0 :: st) mem Q := by
  obtain ⟨a, e, h⟩ := wo_bo h
  exact x_Si4 hd hm hdd hst (hc _ e) (fun x m' hq => by obtain ⟨rfl, rfl⟩ := hq; exact kk _ h)
theorem y_Sl4 {index d' : Nat} {y' : mi_MD} {a0 a1 a2 a3 : mi_V} {o : Option (Int64 × mi_M)} {kf : Int64 → mi_M → Option β} (h : wo (mi_b o kf) QQ) (hd : decode y.2.1 pc = .ok (.invokestatic index, 3)) (hm : mi_ls y.1.cls index y' 4) (hdd : d' < d) (hst : Nat.ble (mi_sz st) 8 = true) (hc : ∀ a, o = some a → mi_Cl d' y' ([a0, a1, a2, a3]) mem (fun x m' => x = a.1 ∧ m' = a.2)) (kk : ∀ r m1, wo (kf r m1) QQ → mi_X y d (pc + 3) ls (vl r :: st) m1 Q) : mi_X y d pc ls (a3 :: a2 :: a1 :: a0 :: st) mem Q := by
  obtain ⟨a, m, e, h⟩ := wo_b h
  exact x_Sl4 hd hm hdd hst (hc _ e) (fun x m' hq => by obtain ⟨rfl, rfl⟩ := hq; exact kk _ _ h)
theorem z_Sl4 {index d' : Nat} {y' : mi_MD} {a0 a1 a2 a3 : mi_V} {o : Option Int64} {kf : Int64 → Option β} (h : wo (mi_bo o kf) QQ) (hd : decode y.2.1 pc = .ok (.invokestatic index, 3)) (hm : mi_ls y.1.cls index y' 4) (hdd : d' < d) (hst : Nat.ble (mi_sz st) 8 = true) (hc : ∀ a, o = some a → mi_Cl d' y' ([a0, a1, a2, a3]) mem (fun x m' => x = a ∧ m' = mem)) (kk : ∀ r, wo (kf r) QQ → mi_X y d (pc + 3) ls (vl r :: st) mem Q) : mi_X y d pc ls (a3 :: a2 :: a1 :: a0 :: st) mem Q := by
  obtain ⟨a, e, h⟩ := wo_bo h
  exact x_Sl4 hd hm hdd hst (hc _ e) (fun x m' hq => by obtain ⟨rfl, rfl⟩ := hq; exact kk _ h)
theorem y_Sv4 {index d' : Nat} {y' : mi_MD} {a0 a1 a2 a3 : mi_V} {o : Option mi_M} {kf : mi_M → Option β} (h : wo (mi_bo o kf) QQ) (hd : decode y.2.1 pc = .ok (.invokestatic index, 3)) (hm : mi_ls y.1.cls index y' 4) (hdd : d' < d) (hst : Nat.ble (mi_sz st) 8 = true) (hc : ∀ a, o = some a → mi_Cv d' y' ([a0, a1, a2, a3]) mem (fun m' => m' = a)) (kk : ∀ m1, wo (kf m1) QQ → mi_X y d (pc + 3) ls st m1 Q) : mi_X y d pc ls (a3 :: a2 :: a1 :: a0 :: st) mem Q := by
  obtain ⟨a, e, h⟩ := wo_bo h
  exact x_Sv4 hd hm hdd hst (hc _ e) (fun m' hq => by rw [hq]; exact kk _ h)
theorem y_Ni4 {index d' : Nat} {host : String} {y' : mi_MD} {a0 a1 a2 a3 : mi_V} {o : Option (Int32 × mi_M)} {kf : Int32 → mi_M → Option β} (h : wo (mi_b o kf) QQ) (hd : decode y.2.1 pc = .ok (.invokestatic index, 3)) (hm : mi_lsn y.1.cls index host y' 4) (hdd : d' < d) (hst : Nat.ble (mi_sz st) 8 = true) (hc : ∀ a, o = some a → mi_Ci d' y' ([a0, a1, a2, a3]) mem (fun x m' => x = a.1 ∧ m' = a.2)) (kk : ∀ r m1, wo (kf r m1) QQ → mi_X y d (pc + 3) ls (vi r :: st) m1 Q) : mi_X y d pc ls (a3 :: a2 :: a1 :: a0 :: st) mem Q := by
  obtain ⟨a, m, e, h⟩ := wo_b h
  exact x_Ni4 hd hm hdd hst (hc _ e) (fun x m' hq => by obtain ⟨rfl, rfl⟩ := hq; exact kk _ _ h)
theorem z_Ni4 {index d' : Nat} {host : String} {y' : mi_MD} {a0 a1 a2 a3 : mi_V} {o : Option Int32} {kf : Int32 → Option β} (h : wo (mi_bo o kf) QQ) (hd : decode y.2.1 pc = .ok (.invokestatic index, 3)) (hm : mi_lsn y.1.cls index host y' 4) (hdd : d' < d) (hst : Nat.ble (mi_sz st) 8 = true) (hc : ∀ a, o = some a → mi_Ci d' y' ([a0, a1, a2, a3]) mem (fun x m' => x = a ∧ m' = mem)) (kk : ∀ r, wo (kf r) QQ → mi_X y d (pc + 3) ls (vi r :: st) mem Q) : mi_X y d pc ls (a3 :: a2 :: a1 :: a0 :: st) mem Q := by
  obtain ⟨a, e, h⟩ := wo_bo h
  exact x_Ni4 hd hm hdd hst (hc _ e) (fun x m' hq => by obtain ⟨rfl, rfl⟩ := hq; exact kk _ h)
theorem y_Nl4 {index d' : Nat} {host : String} {y' : mi_MD} {a0 a1 a2 a3 : mi_V} {o : Option (Int64 × mi_M)} {kf : Int64 → mi_M → Option β} (h : wo (mi_b o kf) QQ) (hd : decode y.2.1 pc = .ok (.invokestatic index, 3)) (hm : mi_lsn y.1.cls index host y' 4) (hdd : d' < d) (hst : Nat.ble (mi_sz st) 8 = true) (hc : ∀ a, o = some a → mi_Cl d' y' ([a0, a1, a2, a3]) mem (fun x m' => x = a.1 ∧ m' = a.2)) (kk : ∀ r m1, wo (kf r m1) QQ → mi_X y d (pc + 3) ls (vl r :: st) m1 Q) : mi_X y d pc ls (a3 :: a2 :: a1 :: a0 :: st) mem Q := by
  obtain ⟨a, m, e, h⟩ := wo_b h
  exact x_Nl4 hd hm hdd hst (hc _ e) (fun x m' hq => by obtain ⟨rfl, rfl⟩ := hq; exact kk _ _ h)
theorem z_Nl4 {index d' : Nat} {host : String} {y' : mi_MD} {a0 a1 a2 a3 : mi_V} {o : Option Int64} {kf : Int64 → Option β} (h : wo (mi_bo o kf) QQ) (hd : decode y.2.1 pc = .ok (.invokestatic index, 3)) (hm : mi_lsn y.1.cls index host y' 4) (hdd : d' < d) (hst : Nat.ble (mi_sz st) 8 = true) (hc : ∀ a, o = some a → mi_Cl d' y' ([a0, a1, a2, a3]) mem (fun x m' => x = a ∧ m' = mem)) (kk : ∀ r, wo (kf r) QQ → mi_X y d (pc + 3) ls (vl r :: st) mem Q) : mi_X y d pc ls (a3 :: a2 :: a1 :: a0 :: st) mem Q := by
  obtain ⟨a, e, h⟩ := wo_bo h
  exact x_Nl4 hd hm hdd hst (hc _ e) (fun x m' hq => by obtain ⟨rfl, rfl⟩ := hq; exact kk _ h)
theorem y_Nv4 {index d' : Nat} {host : String} {y' : mi_MD} {a0 a1 a2 a3 : mi_V} {o : Option mi_M} {kf : mi_M → Option β} (h : wo (mi_bo o kf) QQ) (hd : decode y.2.1 pc = .ok (.invokestatic index, 3)) (hm : mi_lsn y.1.cls index host y' 4) (hdd : d' < d) (hst : Nat.ble (mi_sz st) 8 = true) (hc : ∀ a, o = some a → mi_Cv d' y' ([a0, a1, a2, a3]) mem (fun m' => m' = a)) (kk : ∀ m1, wo (kf m1) QQ → mi_X y d (pc + 3) ls st m1 Q) : mi_X y d pc ls (a3 :: a2 :: a1 :: a0 :: st) mem Q := by
  obtain ⟨a, e, h⟩ := wo_bo h
  exact x_Nv4 hd hm hdd hst (hc _ e) (fun m' hq => by rw [hq]; exact kk _ h)
theorem y_Vi5 {index k i d' : Nat} {y' : mi_MD} {a0 a1 a2 a3 a4 : mi_V} {o : Option (Int32 × mi_M)} {kf : Int32 → mi_M → Option β} (h : wo (mi_b o kf) QQ) (hd : decode y.2.1 pc = .ok (.invokevirtual index, 3)) (hm : mi_lv y.1.cls index y' 5 k) (hi : i < mi_n k) (hdd : d' < d) (hst : Nat.ble (mi_sz st) 8 = true) (hc : ∀ a, o = some a → mi_Ci d' y' (vr k i :: [a0, a1, a2, a3, a4]) mem (fun x m' => x = a.1 ∧ m' = a.2)) (kk : ∀ r m1, wo (kf r m1) QQ → mi_X y d (pc + 3) ls (vi r :: st) m1 Q) : mi_X y d pc ls (a4 :: a3 :: a2 :: a1 :: a0 :: vr k i :: st) mem Q := by
  obtain ⟨a, m, e, h⟩ := wo_b h
  exact x_Vi5 hd hm hi hdd hst (hc _ e) (fun x m' hq => by obtain ⟨rfl, rfl⟩ := hq; exact kk _ _ h)
theorem z_Vi5 {index k i d' : Nat} {y' : mi_MD} {a0 a1 a2 a3 a4 : mi_V} {o : Option Int32} {kf : Int32 → Option β} (h : wo (mi_bo o kf) QQ) (hd : decode y.2.1 pc = .ok (.invokevirtual index, 3)) (hm : mi_lv y.1.cls index y' 5 k) (hi : i < mi_n k) (hdd : d' < d) (hst : Nat.ble (mi_sz st) 8 = true) (hc : ∀ a, o = some a → mi_Ci d' y' (vr k i :: [a0, a1, a2, a3, a4]) mem (fun x m' => x = a ∧ m' = mem)) (kk : ∀ r, wo (kf r) QQ → mi_X y d (pc + 3) ls (vi r :: st) mem Q) : mi_X y d pc ls (a4 :: a3 :: a2 :: a1 :: a0 :: vr k i :: st) mem Q := by
  obtain ⟨a, e, h⟩ := wo_bo h
  exact x_Vi5 hd hm hi hdd hst (hc _ e) (fun x m' hq => by obtain ⟨rfl, rfl⟩ := hq; exact kk _ h)
theorem y_Vl5 {index k i d' : Nat} {y' : mi_MD} {a0 a1 a2 a3 a4 : mi_V} {o : Option (Int64 × mi_M)} {kf : Int64 → mi_M → Option β} (h : wo (mi_b o kf) QQ) (hd : decode y.2.1 pc = .ok (.invokevirtual index, 3)) (hm : mi_lv y.1.cls index y' 5 k) (hi : i < mi_n k) (hdd : d' < d) (hst : Nat.ble (mi_sz st) 8 = true) (hc : ∀ a, o = some a → mi_Cl d' y' (vr k i :: [a0, a1, a2, a3, a4]) mem (fun x m' => x = a.1 ∧ m' = a.2)) (kk : ∀ r m1, wo (kf r m1) QQ → mi_X y d (pc + 3) ls (vl r :: st) m1 Q) : mi_X y d pc ls (a4 :: a3 :: a2 :: a1 :: a0 :: vr k i :: st) mem Q := by
  obtain ⟨a, m, e, h⟩ := wo_b h
  exact x_Vl5 hd hm hi hdd hst (hc _ e) (fun x m' hq => by obtain ⟨rfl, rfl⟩ := hq; exact kk _ _ h)
theorem z_Vl5 {index k i d' : Nat} {y' : mi_MD} {a0 a1 a2 a3 a4 : mi_V} {o : Option Int64} {kf : Int64 → Option β} (h : wo (mi_bo o kf) QQ) (hd : decode y.2.1 pc = .ok (.invokevirtual index, 3)) (hm : mi_lv y.1.cls index y' 5 k) (hi : i < mi_n k) (hdd : d' < d) (hst : Nat.ble (mi_sz st) 8 = true) (hc : ∀ a, o = some a → mi_Cl d' y' (vr k i :: [a0, a1, a2, a3, a4]) mem (fun x m' => x = a ∧ m' = mem)) (kk : ∀ r, wo (kf r) QQ → mi_X y d (pc + 3) ls (vl r :: st) mem Q) : mi_X y d pc ls (a4 :: a3 :: a2 :: a1 :: a0 :: vr k i :: st) mem Q := by
  obtain ⟨a, e, h⟩ := wo_bo h
  exact x_Vl5 hd hm hi hdd hst (hc _ e) (fun x m' hq => by obtain ⟨rfl, rfl⟩ := hq; exact kk _ h)
theorem y_Vv5 {index k i d' : Nat} {y' : mi_MD} {a0 a1 a2 a3 a4 : mi_V} {o : Option mi_M} {kf : mi_M → Option β} (h : wo (mi_bo o kf) QQ) (hd : decode y.2.1 pc = .ok (.invokevirtual index, 3)) (hm : mi_lv y.1.cls index y' 5 k) (hi : i < mi_n k) (hdd : d' < d) (hst : Nat.ble (mi_sz st) 8 = true) (hc : ∀ a, o = some a → mi_Cv d' y' (vr k i :: [a0, a1, a2, a3, a4]) mem (fun m' => m' = a)) (kk : ∀ m1, wo (kf m1) QQ → mi_X y d (pc + 3) ls st m1 Q) : mi_X y d pc ls (a4 :: a3 :: a2 :: a1 :: a0 :: vr k i :: st) mem Q := by
  obtain ⟨a, e, h⟩ := wo_bo h
  exact x_Vv5 hd hm hi hdd hst (hc _ e) (fun m' hq => by rw [hq]; exact kk _ h)
theorem y_Si5 {index d' : Nat} {y' : mi_MD} {a0 a1 a2 a3 a4 : mi_V} {o : Option (Int32 × mi_M)} {kf : Int32 → mi_M → Option β} (h : wo (mi_b o kf) QQ) (hd : decode y.2.1 pc = .ok (.invokestatic index, 3)) (hm : mi_ls y.1.cls index y' 5) (hdd : d' < d) (hst : Nat.ble (mi_sz st) 8 = true) (hc : ∀ a, o = some a → mi_Ci d' y' ([a0, a1, a2, a3, a4]) mem (fun x m' => x = a.1 ∧ m' = a.2)) (kk : ∀ r m1, wo (kf r m1) QQ → mi_X y d (pc + 3) ls (vi r :: st) m1 Q) : mi_X y d pc ls (a4 :: a3 :: a2 :: a1 :: a0 :: st) mem Q := by
  obtain ⟨a, m, e, h⟩ := wo_b h
  exact x_Si5 hd hm hdd hst (hc _ e) (fun x m' hq => by obtain ⟨rfl, rfl⟩ := hq; exact kk _ _ h)
theorem z_Si5 {index d' : Nat} {y' : mi_MD} {a0 a1 a2 a3 a4 : mi_V} {o : Option Int32} {kf : Int32 → Option β} (h : wo (mi_bo o kf) QQ) (hd : decode y.2.1 pc = .ok (.invokestatic index, 3)) (hm : mi_ls y.1.cls index y' 5) (hdd : d' < d) (hst : Nat.ble (mi_sz st) 8 = true) (hc : ∀ a, o = some a → mi_Ci d' y' ([a0, a1, a2, a3, a4]) mem (fun x m' => x = a ∧ m' = mem)) (kk : ∀ r, wo (kf r) QQ → mi_X y d (pc + 3) ls (vi r :: st) mem Q) : mi_X y d pc ls (a4 :: a3 :: a2 :: a1 :: a0 :: st) mem Q := by
  obtain ⟨a, e, h⟩ := wo_bo h
  exact x_Si5 hd hm hdd hst (hc _ e) (fun x m' hq => by obtain ⟨rfl, rfl⟩ := hq; exact kk _ h)
theorem y_Sl5 {index d' : Nat} {y' : mi_MD} {a0 a1 a2 a3 a4 : mi_V} {o : Option (Int64 × mi_M)} {kf : Int64 → mi_M → Option β} (h : wo (mi_b o kf) QQ) (hd : decode y.2.1 pc = .ok (.invokestatic index, 3)) (hm : mi_ls y.1.cls index y' 5) (hdd : d' < d) (hst : Nat.ble (mi_sz st) 8 = true) (hc : ∀ a, o = some a → mi_Cl d' y' ([a0, a1, a2, a3, a4]) mem (fun x m' => x = a.1 ∧ m' = a.2)) (kk : ∀ r m1, wo (kf r m1) QQ → mi_X y d (pc + 3) ls (vl r :: st) m1 Q) : mi_X y d pc ls (a4 :: a3 :: a2 :: a1 :: a0 :: st) mem Q := by
  obtain ⟨a, m, e, h⟩ := wo_b h
  exact x_Sl5 hd hm hdd hst (hc _ e) (fun x m' hq => by obtain ⟨rfl, rfl⟩ := hq; exact kk _ _ h)
theorem z_Sl5 {index d' : Nat} {y' : mi_MD} {a0 a1 a2 a3 a4 : mi_V} {o : Option Int64} {kf : Int64 → Option β} (h : wo (mi_bo o kf) QQ) (hd : decode y.2.1 pc = .ok (.invokestatic index, 3)) (hm : mi_ls y.1.cls index y' 5) (hdd : d' < d) (hst : Nat.ble (mi_sz st) 8 = true) (hc : ∀ a, o = some a → mi_Cl d' y' ([a0, a1, a2, a3, a4]) mem (fun x m' => x = a ∧ m' = mem)) (kk : ∀ r, wo (kf r) QQ → mi_X y d (pc + 3) ls (vl r :: st) mem Q) : mi_X y d pc ls (a4 :: a3 :: a2 :: a1 :: a0 :: st) mem Q := by
  obtain ⟨a, e, h⟩ := wo_bo h
  exact x_Sl5 hd hm hdd hst (hc _ e) (fun x m' hq => by obtain ⟨rfl, rfl⟩ := hq; exact kk _ h)
theorem y_Sv5 {index d' : Nat} {y' : mi_MD} {a0 a1 a2 a3 a4 : mi_V} {o : Option mi_M} {kf : mi_M → Option β} (h : wo (mi_bo o kf) QQ) (hd : decode y.2.1 pc = .ok (.invokestatic index, 3)) (hm : mi_ls y.1.cls index y' 5) (hdd : d' < d) (hst : Nat.ble (mi_sz st) 8 = true) (hc : ∀ a, o = some a → mi_Cv d' y' ([a0, a1, a2, a3, a4]) mem (fun m' => m' = a)) (kk : ∀ m1, wo (kf m1) QQ → mi_X y d (pc + 3) ls st m1 Q) : mi_X y d pc ls (a4 :: a3 :: a2 :: a1 :: a0 :: st) mem Q := by
  obtain ⟨a, e, h⟩ := wo_bo h
  exact x_Sv5 hd hm hdd hst (hc _ e) (fun m' hq => by rw [hq]; exact kk _ h)
theorem y_Ni5 {index d' : Nat} {host : String} {y' : mi_MD} {a0 a1 a2 a3 a4 : mi_V} {o : Option (Int32 × mi_M)} {kf : Int32 → mi_M → Option β} (h : wo (mi_b o kf) QQ) (hd : decode y.2.1 pc = .ok (.invokestatic index, 3)) (hm : mi_lsn y.1.cls index host y' 5) (hdd : d' < d) (hst : Nat.ble (mi_sz st) 8 = true) (hc : ∀ a, o = some a → mi_Ci d' y' ([a0, a1, a2, a3, a4]) mem (fun x m' => x = a.1 ∧ m' = a.2)) (kk : ∀ r m1, wo (kf r m1) QQ → mi_X y d (pc + 3) ls (vi r :: st) m1 Q) : mi_X y d pc ls (a4 :: a3 :: a2 :: a1 :: a0 :: st) mem Q := by
  obtain ⟨a, m, e, h⟩ := wo_b h
  exact x_Ni5 hd hm hdd hst (hc _ e) (fun x m' hq => by obtain ⟨rfl, rfl⟩ := hq; exact kk _ _ h)
theorem z_Ni5 {index d' : Nat} {host : String} {y' : mi_MD} {a0 a1 a2 a3 a4 : mi_V} {o : Option Int32} {kf : Int32 → Option β} (h : wo (mi_bo o kf) QQ) (hd : decode y.2.1 pc = .ok (.invokestatic index, 3)) (hm : mi_lsn y.1.cls index host y' 5) (hdd : d' < d) (hst : Nat.ble (mi_sz st) 8 = true) (hc : ∀ a, o = some a → mi_Ci d' y' ([a0, a1, a2, a3, a4]) mem (fun x m' => x = a ∧ m' = mem)) (kk : ∀ r, wo (kf r) QQ → mi_X y d (pc + 3) ls (vi r :: st) mem Q) : mi_X y d pc ls (a4 :: a3 :: a2 :: a1 :: a0 :: st) mem Q := by
  obtain ⟨a, e, h⟩ := wo_bo h
  exact x_Ni5 hd hm hdd hst (hc _ e) (fun x m' hq => by obtain ⟨rfl, rfl⟩ := hq; exact kk _ h)
theorem y_Nl5 {index d' : Nat} {host : String} {y' : mi_MD} {a0 a1 a2 a3 a4 : mi_V} {o : Option (Int64 × mi_M)} {kf : Int64 → mi_M → Option β} (h : wo (mi_b o kf) QQ) (hd : decode y.2.1 pc = .ok (.invokestatic index, 3)) (hm : mi_lsn y.1.cls index host y' 5) (hdd : d' < d) (hst : Nat.ble (mi_sz st) 8 = true) (hc : ∀ a, o = some a → mi_Cl d' y' ([a0, a1, a2, a3, a4]) mem (fun x m' => x = a.1 ∧ m' = a.2)) (kk : ∀ r m1, wo (kf r m1) QQ → mi_X y d (pc + 3) ls (vl r :: st) m1 Q) : mi_X y d pc ls (a4 :: a3 :: a2 :: a1 :: a0 :: st) mem Q := by
  obtain ⟨a, m, e, h⟩ := wo_b h
  exact x_Nl5 hd hm hdd hst (hc _ e) (fun x m' hq => by obtain ⟨rfl, rfl⟩ := hq; exact kk _ _ h)
theorem z_Nl5 {index d' : Nat} {host : String} {y' : mi_MD} {a0 a1 a2 a3 a4 : mi_V} {o : Option Int64} {kf : Int64 → Option β} (h : wo (mi_bo o kf) QQ) (hd : decode y.2.1 pc = .ok (.invokestatic index, 3)) (hm : mi_lsn y.1.cls index host y' 5) (hdd : d' < d) (hst : Nat.ble (mi_sz st) 8 = true) (hc : ∀ a, o = some a → mi_Cl d' y' ([a0, a1, a2, a3, a4]) mem (fun x m' => x = a ∧ m' = mem)) (kk : ∀ r, wo (kf r) QQ → mi_X y d (pc + 3) ls (vl r :: st) mem Q) : mi_X y d pc ls (a4 :: a3 :: a2 :: a1 :: a0 :: st) mem Q := by
  obtain ⟨a, e, h⟩ := wo_bo h
  exact x_Nl5 hd hm hdd hst (hc _ e) (fun x m' hq => by obtain ⟨rfl, rfl⟩ := hq; exact kk _ h)
theorem y_Nv5 {index d' : Nat} {host : String} {y' : mi_MD} {a0 a1 a2 a3 a4 : mi_V} {o : Option mi_M} {kf : mi_M → Option β} (h : wo (mi_bo o kf) QQ) (hd : decode y.2.1 pc = .ok (.invokestatic index, 3)) (hm : mi_lsn y.1.cls index host y' 5) (hdd : d' < d) (hst : Nat.ble (mi_sz st) 8 = true) (hc : ∀ a, o = some a → mi_Cv d' y' ([a0, a1, a2, a3, a4]) mem (fun m' => m' = a)) (kk : ∀ m1, wo (kf m1) QQ → mi_X y d (pc + 3) ls st m1 Q) : mi_X y d pc ls (a4 :: a3 :: a2 :: a1 :: a0 :: st) mem Q := by
  obtain ⟨a, e, h⟩ := wo_bo h
  exact x_Nv5 hd hm hdd hst (hc _ e) (fun m' hq => by rw [hq]; exact kk _ h)
theorem y_Vi6 {index k i d' : Nat} {y' : mi_MD} {a0 a1 a2 a3 a4 a5 : mi_V} {o : Option (Int32 × mi_M)} {kf : Int32 → mi_M → Option β} (h : wo (mi_b o kf) QQ) (hd : decode y.2.1 pc = .ok (.invokevirtual index, 3)) (hm : mi_lv y.1.cls index y' 6 k) (hi : i < mi_n k) (hdd : d' < d) (hst : Nat.ble (mi_sz st) 8 = true) (hc : ∀ a, o = some a → mi_Ci d' y' (vr k i :: [a0, a1, a2, a3, a4, a5]) mem (fun x m' => x = a.1 ∧ m' = a.2)) (kk : ∀ r m1, wo (kf r m1) QQ → mi_X y d (pc + 3) ls (vi r :: st) m1 Q) : mi_X y d pc ls (a5 :: a4 :: a3 :: a2 :: a1 :: a0 :: vr k i :: st) mem Q := by
  obtain ⟨a, m, e, h⟩ := wo_b h
  exact x_Vi6 hd hm hi hdd hst (hc _ e) (fun x m' hq => by obtain ⟨rfl, rfl⟩ := hq; exact kk _ _ h)
theorem z_Vi6 {index k i d' : Nat} {y' : mi_MD} {a0 a1 a2 a3 a4 a5 : mi_V} {o : Option Int32} {kf : Int32 → Option β} (h : wo (mi_bo o kf) QQ) (hd : decode y.2.1 pc = .ok (.invokevirtual index, 3)) (hm : mi_lv y.1.cls index y' 6 k) (hi : i < mi_n k) (hdd : d' < d) (hst : Nat.ble (mi_sz st) 8 = true) (hc : ∀ a, o = some a → mi_Ci d' y' (vr k i :: [a0, a1, a2, a3, a4, a5]) mem (fun x m' => x = a ∧ m' = mem)) (kk : ∀ r, wo (kf r) QQ → mi_X y d (pc + 3) ls (vi r :: st) mem Q) : mi_X y d pc ls (a5 :: a4 :: a3 :: a2 :: a1 :: a0 :: vr k i :: st) mem Q := by
  obtain ⟨a, e, h⟩ := wo_bo h
  exact x_Vi6 hd hm hi hdd hst (hc _ e) (fun x m' hq => by obtain ⟨rfl, rfl⟩ := hq; exact kk _ h)
theorem y_Vl6 {index k i d' : Nat} {y' : mi_MD} {a0 a1 a2 a3 a4 a5 : mi_V} {o : Option (Int64 × mi_M)} {kf : Int64 → mi_M → Option β} (h : wo (mi_b o kf) QQ) (hd : decode y.2.1 pc = .ok (.invokevirtual index, 3)) (hm : mi_lv y.1.cls index y' 6 k) (hi : i < mi_n k) (hdd : d' < d) (hst : Nat.ble (mi_sz st) 8 = true) (hc : ∀ a, o = some a → mi_Cl d' y' (vr k i :: [a0, a1, a2, a3, a4, a5]) mem (fun x m' => x = a.1 ∧ m' = a.2)) (kk : ∀ r m1, wo (kf r m1) QQ → mi_X y d (pc + 3) ls (vl r :: st) m1 Q) : mi_X y d pc ls (a5 :: a4 :: a3 :: a2 :: a1 :: a0 :: vr k i :: st) mem Q := by
  obtain ⟨a, m, e, h⟩ := wo_b h
  exact x_Vl6 hd hm hi hdd hst (hc _ e) (fun x m' hq => by obtain ⟨rfl, rfl⟩ := hq; exact kk _ _ h)
theorem z_Vl6 {index k i d' : Nat} {y' : mi_MD} {a0 a1 a2 a3 a4 a5 : mi_V} {o : Option Int64} {kf : Int64 → Option β} (h : wo (mi_bo o kf) QQ) (hd : decode y.2.1 pc = .ok (.invokevirtual index, 3)) (hm : mi_lv y.1.cls index y' 6 k) (hi : i < mi_n k) (hdd : d' < d) (hst : Nat.ble (mi_sz st) 8 = true) (hc : ∀ a, o = some a → mi_Cl d' y' (vr k i :: [a0, a1, a2, a3, a4, a5]) mem (fun x m' => x = a ∧ m' = mem)) (kk : ∀ r, wo (kf r) QQ → mi_X y d (pc + 3) ls (vl r :: st) mem Q) : mi_X y d pc ls (a5 :: a4 :: a3 :: a2 :: a1 :: a0 :: vr k i :: st) mem Q := by
  obtain ⟨a, e, h⟩ := wo_bo h
  exact x_Vl6 hd hm hi hdd hst (hc _ e) (fun x m' hq => by obtain ⟨rfl, rfl⟩ := hq; exact kk _ h)
theorem y_Vv6 {index k i d' : Nat} {y' : mi_MD} {a0 a1 a2 a3 a4 a5 : mi_V} {o : Option mi_M} {kf : mi_M → Option β} (h : wo (mi_bo o kf) QQ) (hd : decode y.2.1 pc = .ok (.invokevirtual index, 3)) (hm : mi_lv y.1.cls index y' 6 k) (hi : i < mi_n k) (hdd : d' < d) (hst : Nat.ble (mi_sz st) 8 = true) (hc : ∀ a, o = some a → mi_Cv d' y' (vr k i :: [a0, a1, a2, a3, a4, a5]) mem (fun m' => m' = a)) (kk : ∀ m1, wo (kf m1) QQ → mi_X y d (pc + 3) ls st m1 Q) : mi_X y d pc ls (a5 :: a4 :: a3 :: a2 :: a1 :: a0 :: vr k i :: st) mem Q := by
  obtain ⟨a, e, h⟩ := wo_bo h
  exact x_Vv6 hd hm hi hdd hst (hc _ e) (fun m' hq => by rw [hq]; exact kk _ h)
theorem y_Si6 {index d' : Nat} {y' : mi_MD} {a0 a1 a2 a3 a4 a5 : mi_V} {o : Option (Int32 × mi_M)} {kf : Int32 → mi_M → Option β} (h : wo (mi_b o kf) QQ) (hd : decode y.2.1 pc = .ok (.invokestatic index, 3)) (hm : mi_ls y.1.cls index y' 6) (hdd : d' < d) (hst : Nat.ble (mi_sz st) 8 = true) (hc : ∀ a, o = some a → mi_Ci d' y' ([a0, a1, a2, a3, a4, a5]) mem (fun x m' => x = a.1 ∧ m' = a.2)) (kk : ∀ r m1, wo (kf r m1) QQ → mi_X y d (pc + 3) ls (vi r :: st) m1 Q) : mi_X y d pc ls (a5 :: a4 :: a3 :: a2 :: a1 :: a0 :: st) mem Q := by
  obtain ⟨a, m, e, h⟩ := wo_b h
  exact x_Si6 hd hm hdd hst (hc _ e) (fun x m' hq => by obtain ⟨rfl, rfl⟩ := hq; exact kk _ _ h)
theorem z_Si6 {index d' : Nat} {y' : mi_MD} {a0 a1 a2 a3 a4 a5 : mi_V} {o : Option Int32} {kf : Int32 → Option β} (h : wo (mi_bo o kf) QQ) (hd : decode y.2.1 pc = .ok (.invokestatic index, 3)) (hm : mi_ls y.1.cls index y' 6) (hdd : d' < d) (hst : Nat.ble (mi_sz st) 8 = true) (hc : ∀ a, o = some a → mi_Ci d' y' ([a0, a1, a2, a3, a4, a5]) mem (fun x m' => x = a ∧ m' = mem)) (kk : ∀ r, wo (kf r) QQ → mi_X y d (pc + 3) ls (vi r :: st) mem Q) : mi_X y d pc ls (a5 :: a4 :: a3 :: a2 :: a1 :: a0 :: st) mem Q := by
  obtain ⟨a, e, h⟩ := wo_bo h
  exact x_Si6 hd hm hdd hst (hc _ e) (fun x m' hq => by obtain ⟨rfl, rfl⟩ := hq; exact kk _ h)
theorem y_Sl6 {index d' : Nat} {y' : mi_MD} {a0 a1 a2 a3 a4 a5 : mi_V} {o : Option (Int64 × mi_M)} {kf : Int64 → mi_M → Option β} (h : wo (mi_b o kf) QQ) (hd : decode y.2.1 pc = .ok (.invokestatic index, 3)) (hm : mi_ls y.1.cls index y' 6) (hdd : d' < d) (hst : Nat.ble (mi_sz st) 8 = true) (hc : ∀ a, o = some a → mi_Cl d' y' ([a0, a1, a2, a3, a4, a5]) mem (fun x m' => x = a.1 ∧ m' = a.2)) (kk : ∀ r m1, wo (kf r m1) QQ → mi_X y d (pc + 3) ls (vl r :: st) m1 Q) : mi_X y d pc ls (a5 :: a4 :: a3 :: a2 :: a1 :: a0 :: st) mem Q := by
  obtain ⟨a, m, e, h⟩ := wo_b h
  exact x_Sl6 hd hm hdd hst (hc _ e) (fun x m' hq => by obtain ⟨rfl, rfl⟩ := hq; exact kk _ _ h)
theorem z_Sl6 {index d' : Nat} {y' : mi_MD} {a0 a1 a2 a3 a4 a5 : mi_V} {o : Option Int64} {kf : Int64 → Option β} (h : wo (mi_bo o kf) QQ) (hd : decode y.2.1 pc = .ok (.invokestatic index, 3)) (hm : mi_ls y.1.cls index y' 6) (hdd : d' < d) (hst : Nat.ble (mi_sz st) 8 = true) (hc : ∀ a, o = some a → mi_Cl d' y' ([a0, a1, a2, a3, a4, a5]) mem (fun x m' => x = a ∧ m' = mem)) (kk : ∀ r, wo (kf r) QQ → mi_X y d (pc + 3) ls (vl r :: st) mem Q) : mi_X y d pc ls (a5 :: a4 :: a3 :: a2 :: a1 :: a0 :: st) mem Q := by
  obtain ⟨a, e, h⟩ := wo_bo h
  exact x_Sl6 hd hm hdd hst (hc _ e) (fun x m' hq => by obtain ⟨rfl, rfl⟩ := hq; exact kk _ h)
theorem y_Sv6 {index d' : Nat} {y' : mi_MD} {a0 a1 a2 a3 a4 a5 : mi_V} {o : Option mi_M} {kf : mi_M → Option β} (h : wo (mi_bo o kf) QQ) (hd : decode y.2.1 pc = .ok (.invokestatic index, 3)) (hm : mi_ls y.1.cls index y' 6) (hdd : d' < d) (hst : Nat.ble (mi_sz st) 8 = true) (hc : ∀ a, o = some a → mi_Cv d' y' ([a0, a1, a2, a3, a4, a5]) mem (fun m' => m' = a)) (kk : ∀ m1, wo (kf m1) QQ → mi_X y d (pc + 3) ls st m1 Q) : mi_X y d pc ls (a5 :: a4 :: a3 :: a2 :: a1 :: a0 :: st) mem Q := by
  obtain ⟨a, e, h⟩ := wo_bo h
  exact x_Sv6 hd hm hdd hst (hc _ e) (fun m' hq => by rw [hq]; exact kk _ h)
theorem y_Ni6 {index d' : Nat} {host : String} {y' : mi_MD} {a0 a1 a2 a3 a4 a5 : mi_V} {o : Option (Int32 × mi_M)} {kf : Int32 → mi_M → Option β} (h : wo (mi_b o kf) QQ) (hd : decode y.2.1 pc = .ok (.invokestatic index, 3)) (hm : mi_lsn y.1.cls index host y' 6) (hdd : d' < d) (hst : Nat.ble (mi_sz st) 8 = true) (hc : ∀ a, o = some a → mi_Ci d' y' ([a0, a1, a2, a3, a4, a5]) mem (fun x m' => x = a.1 ∧ m' = a.2)) (kk : ∀ r m1, wo (kf r m1) QQ → mi_X y d (pc + 3) ls (vi r :: st) m1 Q) : mi_X y d pc ls (a5 :: a4 :: a3 :: a2 :: a1 :: a0 :: st) mem Q := by
  obtain ⟨a, m, e, h⟩ := wo_b h
  exact x_Ni6 hd hm hdd hst (hc _ e) (fun x m' hq => by obtain ⟨rfl, rfl⟩ := hq; exact kk _ _ h)
theorem z_Ni6 {index d' : Nat} {host : String} {y' : mi_MD} {a0 a1 a2 a3 a4 a5 : mi_V} {o : Option Int32} {kf : Int32 → Option β} (h : wo (mi_bo o kf) QQ) (hd : decode y.2.1 pc = .ok (.invokestatic index, 3)) (hm : mi_lsn y.1.cls index host y' 6) (hdd : d' < d) (hst : Nat.ble (mi_sz st) 8 = true) (hc : ∀ a, o = some a → mi_Ci d' y' ([a0, a1, a2, a3, a4, a5]) mem (fun x m' => x = a ∧ m' = mem)) (kk : ∀ r, wo (kf r) QQ → mi_X y d (pc + 3) ls (vi r :: st) mem Q) : mi_X y d pc ls (a5 :: a4 :: a3 :: a2 :: a1 :: a0 :: st) mem Q := by
  obtain ⟨a, e, h⟩ := wo_bo h
  exact x_Ni6 hd hm hdd hst (hc _ e) (fun x m' hq => by obtain ⟨rfl, rfl⟩ := hq; exact kk _ h)
theorem y_Nl6 {index d' : Nat} {host : String} {y' : mi_MD} {a0 a1 a2 a3 a4 a5 : mi_V} {o : Option (Int64 × mi_M)} {kf : Int64 → mi_M → Option β} (h : wo (mi_b o kf) QQ) (hd : decode y.2.1 pc = .ok (.invokestatic index, 3)) (hm : mi_lsn y.1.cls index host y' 6) (hdd : d' < d) (hst : Nat.ble (mi_sz st) 8 = true) (hc : ∀ a, o = some a → mi_Cl d' y' ([a0, a1, a2, a3, a4, a5]) mem (fun x m' => x = a.1 ∧ m' = a.2)) (kk : ∀ r m1, wo (kf r m1) QQ → mi_X y d (pc + 3) ls (vl r :: st) m1 Q) : mi_X y d pc ls (a5 :: a4 :: a3 :: a2 :: a1 :: a0 :: st) mem Q := by
  obtain ⟨a, m, e, h⟩ := wo_b h
  exact x_Nl6 hd hm hdd hst (hc _ e) (fun x m' hq => by obtain ⟨rfl, rfl⟩ := hq; exact kk _ _ h)
theorem z_Nl6 {index d' : Nat} {host : String} {y' : mi_MD} {a0 a1 a2 a3 a4 a5 : mi_V} {o : Option Int64} {kf : Int64 → Option β} (h : wo (mi_bo o kf) QQ) (hd : decode y.2.1 pc = .ok (.invokestatic index, 3)) (hm : mi_lsn y.1.cls index host y' 6) (hdd : d' < d) (hst : Nat.ble (mi_sz st) 8 = true) (hc : ∀ a, o = some a → mi_Cl d' y' ([a0, a1, a2, a3, a4, a5]) mem (fun x m' => x = a ∧ m' = mem)) (kk : ∀ r, wo (kf r) QQ → mi_X y d (pc + 3) ls (vl r :: st) mem Q) : mi_X y d pc ls (a5 :: a4 :: a3 :: a2 :: a1 :: a0 :: st) mem Q := by
  obtain ⟨a, e, h⟩ := wo_bo h
  exact x_Nl6 hd hm hdd hst (hc _ e) (fun x m' hq => by obtain ⟨rfl, rfl⟩ := hq; exact kk _ h)
theorem y_Nv6 {index d' : Nat} {host : String} {y' : mi_MD} {a0 a1 a2 a3 a4 a5 : mi_V} {o : Option mi_M} {kf : mi_M → Option β} (h : wo (mi_bo o kf) QQ) (hd : decode y.2.1 pc = .ok (.invokestatic index, 3)) (hm : mi_lsn y.1.cls index host y' 6) (hdd : d' < d) (hst : Nat.ble (mi_sz st) 8 = true) (hc : ∀ a, o = some a → mi_Cv d' y' ([a0, a1, a2, a3, a4, a5]) mem (fun m' => m' = a)) (kk : ∀ m1, wo (kf m1) QQ → mi_X y d (pc + 3) ls st m1 Q) : mi_X y d pc ls (a5 :: a4 :: a3 :: a2 :: a1 :: a0 :: st) mem Q := by
  obtain ⟨a, e, h⟩ := wo_bo h
  exact x_Nv6 hd hm hdd hst (hc _ e) (fun m' hq => by rw [hq]; exact kk _ h)
theorem z_Ti0 {index i d' : Nat} {y' : mi_MD} {o : Option Int32} {kf : Int32 → Option β} (h : wo (mi_bo o kf) QQ) (hd : decode y.2.1 pc = .ok (.invokevirtual index, 3)) (hm : mi_lt y.1.cls index y' 0) (hi : i < 12) (hdd : d' < d) (hst : Nat.ble (mi_sz st) 8 = true) (hc : ∀ a, o = some a → mi_Ci d' y' (vr 300 i :: []) mem (fun x m' => x = a ∧ m' = mem)) (kk : ∀ r, wo (kf r) QQ → mi_X y d (pc + 3) ls (vi r :: st) mem Q) : mi_X y d pc ls (vr 300 i :: st) mem Q := by
  obtain ⟨a, e, h⟩ := wo_bo h
  exact x_callT (av := []) hd hm rfl hi hdd hst (hc _ e) (fun r m' hq => match r, hq with | _, ⟨x, rfl, hx⟩ => by obtain ⟨rfl, rfl⟩ := hx; exact kk _ h)
theorem z_Ti1 {index i d' : Nat} {y' : mi_MD} {a0 : mi_V} {o : Option Int32} {kf : Int32 → Option β} (h : wo (mi_bo o kf) QQ) (hd : decode y.2.1 pc = .ok (.invokevirtual index, 3)) (hm : mi_lt y.1.cls index y' 1) (hi : i < 12) (hdd : d' < d) (hst : Nat.ble (mi_sz st) 8 = true) (hc : ∀ a, o = some a → mi_Ci d' y' (vr 300 i :: [a0]) mem (fun x m' => x = a ∧ m' = mem)) (kk : ∀ r, wo (kf r) QQ → mi_X y d (pc + 3) ls (vi r :: st) mem Q) : mi_X y d pc ls (a0 :: vr 300 i :: st) mem Q := by
  obtain ⟨a, e, h⟩ := wo_bo h
  exact x_callT (av := [a0]) hd hm rfl hi hdd hst (hc _ e) (fun r m' hq => match r, hq with | _, ⟨x, rfl, hx⟩ => by obtain ⟨rfl, rfl⟩ := hx; exact kk _ h)
theorem z_Ti2 {index i d' : Nat} {y' : mi_MD} {a0 a1 : mi_V} {o : Option Int32} {kf : Int32 → Option β} (h : wo (mi_bo o kf) QQ) (hd : decode y.2.1 pc = .ok (.invokevirtual index, 3)) (hm : mi_lt y.1.cls index y' 2) (hi : i < 12) (hdd : d' < d) (hst : Nat.ble (mi_sz st) 8 = true) (hc : ∀ a, o = some a → mi_Ci d' y' (vr 300 i :: [a0, a1]) mem (fun x m' => x = a ∧ m' = mem)) (kk : ∀ r, wo (kf r) QQ → mi_X y d (pc + 3) ls (vi r :: st) mem Q) : mi_X y d pc ls (a1 :: a0 :: vr 300 i :: st) mem Q := by
  obtain ⟨a, e, h⟩ := wo_bo h
  exact x_callT (av := [a0, a1]) hd hm rfl hi hdd hst (hc _ e) (fun r m' hq => match r, hq with | _, ⟨x, rfl, hx⟩ => by obtain ⟨rfl, rfl⟩ := hx; exact kk _ h)
end MC
