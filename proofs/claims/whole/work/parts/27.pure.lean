/-! ===== the pure side: rules for options, loops, numbers, bits, frames ===== -/
theorem pw_some {α : Type} {a : α} {Q : α → Prop} : wo (some a) Q ↔ Q a := ⟨wo_some, fun h => ⟨a, rfl, h⟩⟩
theorem pw_none {α : Type} {Q : α → Prop} : wo (none : Option α) Q ↔ False := ⟨fun h => (by
  obtain ⟨a, e, -⟩ := h
  cases e), False.elim⟩
theorem pw_g {α : Type} {P : Prop} {o : Option α} {Q : α → Prop} : wo (mi_g P o) Q ↔ P ∧ wo o Q := ⟨wo_g, fun h => by unfold mi_g; rw [if_pos h.1]; exact h.2⟩
theorem pw_let {α β : Type} {x : α} {k : α → Option β} {Q : β → Prop} : wo (mi_let x k) Q ↔ wo (k x) Q := Iff.rfl
theorem pw_bo {α β : Type} {o : Option α} {k : α → Option β} {Q : β → Prop} : wo (mi_bo o k) Q ↔ wo o (fun a => wo (k a) Q) := by
  cases o with
  | none => exact ⟨fun h => (pw_none.mp h).elim, fun h => (pw_none.mp h).elim⟩
  | some a => exact ⟨fun h => pw_some.mpr h, fun h => (pw_some (Q := fun a => wo (k a) Q)).mp h⟩
theorem pw_b {α β : Type} {o : Option (α × mi_M)} {k : α → mi_M → Option β} {Q : β → Prop} : wo (mi_b o k) Q ↔ wo o (fun a => wo (k a.1 a.2) Q) := by
  cases o with
  | none => exact ⟨fun h => (pw_none.mp h).elim, fun h => (pw_none.mp h).elim⟩
  | some a => exact ⟨fun h => pw_some.mpr h, fun h => (pw_some (Q := fun a : α × mi_M => wo (k a.1 a.2) Q)).mp h⟩
theorem pw_mono {α : Type} {o : Option α} {Q Q' : α → Prop} (h : wo o Q) (hq : ∀ a, Q a → Q' a) : wo o Q' := by
  obtain ⟨a, e, h⟩ := h
  exact ⟨a, e, hq a h⟩
theorem pw_if {α : Type} {c : Prop} [Decidable c] {a b : Option α} {Q : α → Prop} : wo (if c then a else b) Q ↔ (c → wo a Q) ∧ (¬ c → wo b Q) := by
  by_cases h : c
  · rw [if_pos h]; exact ⟨fun x => ⟨fun _ => x, fun n => absurd h n⟩, fun x => x.1 h⟩
  · rw [if_neg h]; exact ⟨fun x => ⟨fun n => absurd n h, fun _ => x⟩, fun x => x.2 h⟩
theorem pw_eq {α : Type} {o : Option α} {a : α} (h : wo o (fun b => b = a)) : o = some a := by
  obtain ⟨b, e, h⟩ := h
  rw [e, h]
theorem pe_bo {α β : Type} {a : α} {k : α → Option β} : mi_bo (some a) k = k a := rfl
theorem pe_b {α β : Type} {a : α} {m : mi_M} {k : α → mi_M → Option β} : mi_b (some (a, m)) k = k a m := rfl
theorem pe_let {α β : Type} {x : α} {k : α → β} : mi_let x k = k x := rfl
theorem pe_g {α : Type} {P : Prop} {o : Option α} (h : P) : mi_g P o = o := by unfold mi_g; rw [if_pos h]
theorem pe_g01 {α : Type} {b : Prop} [Decidable b] {o : Option α} : mi_g ((if b then (1 : Int32) else 0) = 0 ∨ (if b then (1 : Int32) else 0) = 1) o = o := pe_g (by by_cases h : b <;> simp [h])
/-- what a loop's body may give -/
def lr {σ ε : Type} (A : σ → Prop) (E : ε → Prop) : σ ⊕ ε → Prop
  | .inl s => A s
  | .inr e => E e
theorem lr_l {σ ε : Type} {A : σ → Prop} {E : ε → Prop} {s : σ} : lr A E (.inl s) ↔ A s := Iff.rfl
theorem lr_r {σ ε : Type} {A : σ → Prop} {E : ε → Prop} {e : ε} : lr A E (.inr e) ↔ E e := Iff.rfl
theorem pl_go {σ ε : Type} {B : σ → Option (σ ⊕ ε)} {Q : ε → Prop} (I : Nat → σ → Prop) (N : Nat) (step : ∀ k s, k ≤ N → I k s → wo (B s) (lr (fun s' => k < N ∧ I (k + 1) s') Q)) : ∀ (n k : Nat) (s : σ), I k s → k ≤ N → N < k + n → wo (mi_lp B n s) Q
  | 0, k, s, _, h1, h2 => absurd h1 (by omega)
  | n + 1, k, s, hi, h1, h2 => by
    have h := step k s h1 hi
    unfold mi_lp
    cases hb : B s with
    | none => rw [hb] at h; exact (pw_none.mp h).elim
    | some r =>
      rw [hb] at h
      have h := pw_some.mp h
      cases r with
      | inl s' => exact pl_go I N step n (k + 1) s' h.2 (by have := h.1; omega) (by omega)
      | inr e => exact pw_some.mpr h
/-- a loop that counts up to N at most -/
theorem pl_for {σ ε : Type} {B : σ → Option (σ ⊕ ε)} {Q : ε → Prop} {s0 : σ} (I : Nat → σ → Prop) (N : Nat) (hN : N < 90000) (h0 : I 0 s0) (step : ∀ k s, k ≤ N → I k s → wo (B s) (lr (fun s' => k < N ∧ I (k + 1) s') Q)) : wo (mi_lp B mi_fu s0) Q :=
  pl_go I N step mi_fu 0 s0 h0 (Nat.zero_le _) (by unfold mi_fu; omega)
/-! numbers -/
def n32 (k : Nat) : Int32 := Int32.ofNat k
theorem n32_cl {k : Nat} (h : k < 2147483648) : (n32 k).toNatClampNeg = k := Int32.toNatClampNeg_ofNat_of_lt h
theorem n32_int {k : Nat} (h : k < 2147483648) : (n32 k).toInt = k := Int32.toInt_ofNat_of_lt h
theorem n32_add (a b : Nat) : n32 a + n32 b = n32 (a + b) := (Int32.ofNat_add a b).symm
theorem n32_mul (a b : Nat) : n32 a * n32 b = n32 (a * b) := (Int32.ofNat_mul a b).symm
theorem n32_sub {a b : Nat} (h : b ≤ a) : n32 a - n32 b = n32 (a - b) := (Int32.ofNat_sub a b h).symm
theorem n32_al (a b : Nat) : n32 a + (no_index (OfNat.ofNat b) : Int32) = n32 (a + OfNat.ofNat b) := n32_add a b
theorem n32_la (a b : Nat) : (no_index (OfNat.ofNat b) : Int32) + n32 a = n32 (OfNat.ofNat b + a) := n32_add b a
theorem n32_ml (a b : Nat) : n32 a * (no_index (OfNat.ofNat b) : Int32) = n32 (a * OfNat.ofNat b) := n32_mul a b
theorem n32_lm (a b : Nat) : (no_index (OfNat.ofNat b) : Int32) * n32 a = n32 (OfNat.ofNat b * a) := n32_mul b a
theorem n32_sl {a b : Nat} (h : OfNat.ofNat b ≤ a) : n32 a - (no_index (OfNat.ofNat b) : Int32) = n32 (a - OfNat.ofNat b) := n32_sub h
theorem n32_m1 {a : Nat} (h : 1 ≤ a) : n32 a + (-1 : Int32) = n32 (a - 1) := by
  rw [← n32_sub h]
  rw [Int32.sub_eq_add_neg]
  rfl
theorem n32_le {a b : Nat} (ha : a < 2147483648) (hb : b < 2147483648) : n32 a ≤ n32 b ↔ a ≤ b := Int32.ofNat_le_iff_le ha hb
theorem n32_lt {a b : Nat} (ha : a < 2147483648) (hb : b < 2147483648) : n32 a < n32 b ↔ a < b := Int32.ofNat_lt_iff_lt ha hb
theorem n32_eq {a b : Nat} (ha : a < 2147483648) (hb : b < 2147483648) : n32 a = n32 b ↔ a = b := by
  refine ⟨fun h => ?_, fun h => by rw [h]⟩
  have := congrArg Int32.toNatClampNeg h
  rwa [n32_cl ha, n32_cl hb] at this
theorem n32_leL {a b : Nat} (ha : a < 2147483648) (hb : OfNat.ofNat b < 2147483648) : n32 a ≤ (no_index (OfNat.ofNat b) : Int32) ↔ a ≤ OfNat.ofNat b := n32_le ha hb
theorem n32_Lle {a b : Nat} (ha : a < 2147483648) (hb : OfNat.ofNat b < 2147483648) : (no_index (OfNat.ofNat b) : Int32) ≤ n32 a ↔ OfNat.ofNat b ≤ a := n32_le hb ha
theorem n32_ltL {a b : Nat} (ha : a < 2147483648) (hb : OfNat.ofNat b < 2147483648) : n32 a < (no_index (OfNat.ofNat b) : Int32) ↔ a < OfNat.ofNat b := n32_lt ha hb
theorem n32_Llt {a b : Nat} (ha : a < 2147483648) (hb : OfNat.ofNat b < 2147483648) : (no_index (OfNat.ofNat b) : Int32) < n32 a ↔ OfNat.ofNat b < a := n32_lt hb ha
theorem n32_eqL {a b : Nat} (ha : a < 2147483648) (hb : OfNat.ofNat b < 2147483648) : n32 a = (no_index (OfNat.ofNat b) : Int32) ↔ a = OfNat.ofNat b := n32_eq ha hb
theorem n32_eqN {a : Nat} (ha : a < 2147483648) : n32 a = (-1 : Int32) ↔ False := by
  refine ⟨fun h => ?_, False.elim⟩
  have := congrArg Int32.toInt h
  rw [n32_int ha] at this
  have e : (-1 : Int32).toInt = -1 := by decide
  rw [e] at this
  omega
theorem n32_nn {a : Nat} (ha : a < 2147483648) : n32 a < 0 ↔ False := by
  refine ⟨fun h => ?_, False.elim⟩
  have := (n32_lt (b := 0) ha (by omega)).mp h
  omega
theorem n32_ge0 {a : Nat} (ha : a < 2147483648) : 0 ≤ n32 a := (n32_le (a := 0) (by omega) ha).mpr (Nat.zero_le _)
theorem n32_in {k n : Nat} (hk : k < 2147483648) : vp_in (n32 k) n ↔ k < n := by
  unfold vp_in
  rw [n32_cl hk, n32_nn hk]
  simp
theorem n32_lin {b n : Nat} (hb : OfNat.ofNat b < 2147483648) : vp_in (no_index (OfNat.ofNat b) : Int32) n ↔ OfNat.ofNat b < n := n32_in hb
theorem n32_lcl {b : Nat} (hb : OfNat.ofNat b < 2147483648) : (no_index (OfNat.ofNat b) : Int32).toNatClampNeg = OfNat.ofNat b := n32_cl hb
/-- a number that is not below 0 -/
theorem n32_of {x : Int32} (h : 0 ≤ x) : ∃ k, k < 2147483648 ∧ x = n32 k := by
  refine ⟨x.toInt.toNat, ?_, ?_⟩
  · have := Int32.toInt_lt x
    have h2 := Int32.le_iff_toInt_le.mp h
    have e : (0 : Int32).toInt = 0 := by decide
    omega
  · apply Int32.toInt_inj.mp
    have := Int32.toInt_lt x
    have h2 := Int32.le_iff_toInt_le.mp h
    have e : (0 : Int32).toInt = 0 := by decide
    rw [n32_int (by omega)]
    omega
theorem n32_lt_of {x : Int32} {n : Nat} (hn : n < 2147483648) (h : 0 ≤ x) (h2 : x < n32 n) : ∃ k, k < n ∧ x = n32 k := by
  obtain ⟨k, hk, rfl⟩ := n32_of h
  exact ⟨k, (n32_lt hk hn).mp h2, rfl⟩
theorem n32_ofin {x : Int32} {n : Nat} (h : vp_in x n) : ∃ k, k < n ∧ x = n32 k := by
  unfold vp_in at h
  have h0 : 0 ≤ x := by
    refine Int32.le_iff_toInt_le.mpr ?_
    have h3 : ¬ x < 0 := fun hh => h (Or.inl hh)
    have h4 : ¬ x.toInt < (0 : Int32).toInt := fun hh => h3 (Int32.lt_iff_toInt_lt.mpr hh)
    omega
  obtain ⟨k, hk, rfl⟩ := n32_of h0
  rw [n32_cl hk] at h
  exact ⟨k, by omega, rfl⟩
/-! bits -/
def bt (w : Nat) : Int32 := (1 : Int32) <<< (n32 w &&& 31)
theorem bt_eq : ∀ w, w < 31 → bt w = n32 (2 ^ w) := by decide +kernel
theorem tb_sh : ∀ w, w < 32 → ((n32 w &&& 31).toBitVec.smod 32).toNat = w := by decide +kernel
theorem n32_bv (s i : Nat) : (n32 s).toBitVec.getLsbD i = (decide (i < 32) && s.testBit i) := by
  show (BitVec.ofNat 32 s).getLsbD i = _
  rw [BitVec.getLsbD_ofNat]
theorem tb_and1 (x : Int32) : x &&& 1 = if x.toBitVec.getLsbD 0 then 1 else 0 := by
  apply Int32.toBitVec_inj.mp
  have h : (x &&& 1).toBitVec = x.toBitVec &&& 1#32 := rfl
  rw [h, BitVec.and_one_eq_setWidth_ofBool_getLsbD]
  cases x.toBitVec.getLsbD 0 <;> rfl
theorem tb_n32 {s w : Nat} (hw : w < 32) : (n32 s >>> (n32 w &&& 31)) &&& 1 = if s.testBit w then 1 else 0 := by
  rw [tb_and1]
  have h : (n32 s >>> (n32 w &&& 31)).toBitVec.getLsbD 0 = s.testBit w := by
    rw [Int32.toBitVec_shiftRight, BitVec.getLsbD_sshiftRight', tb_sh w hw]
    rw [Nat.add_zero, if_pos hw, n32_bv]
    simp [hw]
  rw [h]
theorem tb_0 {s w : Nat} (hw : w < 32) : (n32 s >>> (n32 w &&& 31)) &&& 1 = 0 ↔ s.testBit w = false := by
  rw [tb_n32 hw]
  cases s.testBit w <;> simp
theorem tb_1 {s w : Nat} (hw : w < 32) : (n32 s >>> (n32 w &&& 31)) &&& 1 = 1 ↔ s.testBit w = true := by
  rw [tb_n32 hw]
  cases s.testBit w <;> simp
theorem n32_or (a b : Nat) : n32 a ||| n32 b = n32 (a ||| b) := by
  apply Int32.toBitVec_inj.mp
  show BitVec.ofNat 32 a ||| BitVec.ofNat 32 b = BitVec.ofNat 32 (a ||| b)
  simp
theorem n32_and (a b : Nat) : n32 a &&& n32 b = n32 (a &&& b) := by
  apply Int32.toBitVec_inj.mp
  show BitVec.ofNat 32 a &&& BitVec.ofNat 32 b = BitVec.ofNat 32 (a &&& b)
  simp
/-- the set of those below n, as bits -/
def bs (P : Nat → Bool) : Nat → Nat
  | 0 => 0
  | n + 1 => bs P n + (if P n then 2 ^ n else 0)
theorem bs_lt (P : Nat → Bool) : ∀ n, bs P n < 2 ^ n
  | 0 => by simp [bs]
  | n + 1 => by
    have := bs_lt P n
    unfold bs
    rw [Nat.pow_succ]
    split <;> omega
theorem bs_tb (P : Nat → Bool) : ∀ n w, (bs P n).testBit w = (decide (w < n) && P w)
  | 0, w => by simp [bs]
  | n + 1, w => by
    have ih := bs_tb P n
    have hl := bs_lt P n
    unfold bs
    by_cases hp : P n = true
    · rw [if_pos hp, Nat.add_comm]
      by_cases hw : w = n
      · subst hw
        rw [Nat.testBit_two_pow_add_eq, ih]
        simp [hp]
      · by_cases h2 : w < n
        · rw [Nat.testBit_two_pow_add_gt h2, ih]
          simp [h2, show w < n + 1 by omega]
        · rw [Nat.testBit_lt_two_pow (Nat.lt_of_lt_of_le (show 2 ^ n + bs P n < 2 ^ (n + 1) by rw [Nat.pow_succ]; omega) (Nat.pow_le_pow_right (by omega) (show n + 1 ≤ w by omega)))]
          simp; omega
    · rw [if_neg hp, Nat.add_zero, ih]
      by_cases hw : w = n
      · subst hw; simp [hp]
      · by_cases h3 : w < n
        · simp [h3, show w < n + 1 by omega]
        · simp [h3, show ¬ w < n + 1 by omega]
theorem bs_or {P : Nat → Bool} {n : Nat} (hn : n < 31) (h : P n = true) : n32 (bs P n) ||| (1 : Int32) <<< (n32 n &&& 31) = n32 (bs P (n + 1)) := by
  rw [show (1 : Int32) <<< (n32 n &&& 31) = bt n from rfl, bt_eq n hn, n32_or]
  congr 1
  apply Nat.eq_of_testBit_eq
  intro i
  rw [Nat.testBit_or, bs_tb, bs_tb, Nat.testBit_two_pow]
  by_cases hi : i = n
  · subst hi; simp [h]
  · have : ¬ n = i := fun e => hi e.symm
    by_cases h2 : i < n
    · simp [this, h2, show i < n + 1 by omega]
    · simp [this, h2, show ¬ i < n + 1 by omega]
theorem bs_no {P : Nat → Bool} {n : Nat} (h : P n = false) : bs P (n + 1) = bs P n := by
  show bs P n + (if P n then 2 ^ n else 0) = bs P n
  simp [h]
theorem bs_congr {P P' : Nat → Bool} : ∀ {n : Nat}, (∀ w, w < n → P w = P' w) → bs P n = bs P' n
  | 0, _ => rfl
  | n + 1, h => by
    show bs P n + _ = bs P' n + _
    rw [bs_congr (fun w hw => h w (by omega)), h n (by omega)]
theorem bs_ext {P : Nat → Bool} {n m : Nat} (h : n ≤ m) (hf : ∀ w, n ≤ w → w < m → P w = false) : bs P m = bs P n := by
  apply Nat.eq_of_testBit_eq
  intro i
  rw [bs_tb, bs_tb]
  by_cases h1 : i < n
  · simp [h1, show i < m by omega]
  · by_cases h2 : i < m
    · simp [h1, h2, hf i (by omega) h2]
    · simp [h1, h2]
/-! frames: what is kept -/
def kp (P : Nat → Nat → Nat → Prop) (m m' : mi_M) : Prop := (∀ k i p, ¬ P k i p → m'.1 k i p = m.1 k i p) ∧ (∀ k i p, ¬ P (k + 100) i p → m'.2.1 k i p = m.2.1 k i p) ∧ m'.2.2 = m.2.2
theorem kp.rf {P : Nat → Nat → Nat → Prop} {m : mi_M} : kp P m m := ⟨fun _ _ _ _ => rfl, fun _ _ _ _ => rfl, rfl⟩
theorem kp.tr {P : Nat → Nat → Nat → Prop} {m m' m'' : mi_M} (h : kp P m m') (h' : kp P m' m'') : kp P m m'' :=
  ⟨fun k i p n => (h'.1 k i p n).trans (h.1 k i p n), fun k i p n => (h'.2.1 k i p n).trans (h.2.1 k i p n), h'.2.2.trans h.2.2⟩
theorem kp.mo {P P' : Nat → Nat → Nat → Prop} {m m' : mi_M} (h : kp P m m') (hp : ∀ k i p, P k i p → P' k i p) : kp P' m m' :=
  ⟨fun k i p n => h.1 k i p (fun x => n (hp _ _ _ x)), fun k i p n => h.2.1 k i p (fun x => n (hp _ _ _ x)), h.2.2⟩
theorem kp.wI {P : Nat → Nat → Nat → Prop} {m m' : mi_M} {k i p : Nat} {v : Int32} (h : kp P m m') (hp : P k i p) : kp P m (mi_wI m' k i p v) := by
  refine ⟨fun a b c n => ?_, h.2.1, h.2.2⟩
  show (if a = k ∧ b = i ∧ c = p then v else m'.1 a b c) = _
  rw [if_neg (fun e => n (by obtain ⟨rfl, rfl, rfl⟩ := e; exact hp))]
  exact h.1 a b c n
theorem kp.wL {P : Nat → Nat → Nat → Prop} {m m' : mi_M} {k i p : Nat} {v : Int64} (h : kp P m m') (hp : P (k + 100) i p) : kp P m (mi_wL m' k i p v) := by
  refine ⟨h.1, fun a b c n => ?_, h.2.2⟩
  show (if a = k ∧ b = i ∧ c = p then v else m'.2.1 a b c) = _
  rw [if_neg (fun e => n (by obtain ⟨rfl, rfl, rfl⟩ := e; exact hp))]
  exact h.2.1 a b c n
theorem rI {m : mi_M} {k i p a b c : Nat} {v : Int32} : (mi_wI m k i p v).1 a b c = if a = k ∧ b = i ∧ c = p then v else m.1 a b c := rfl
theorem rL {m : mi_M} {k i p a b c : Nat} {v : Int64} : (mi_wL m k i p v).2.1 a b c = if a = k ∧ b = i ∧ c = p then v else m.2.1 a b c := rfl
theorem rIL {m : mi_M} {k i p : Nat} {v : Int32} : (mi_wI m k i p v).2 = m.2 := rfl
theorem rLI {m : mi_M} {k i p : Nat} {v : Int64} : (mi_wL m k i p v).1 = m.1 := rfl
theorem rLR {m : mi_M} {k i p : Nat} {v : Int64} : (mi_wL m k i p v).2.2 = m.2.2 := rfl
theorem rI_ne {m : mi_M} {k i p a b c : Nat} {v : Int32} (h : ¬ (a = k ∧ b = i ∧ c = p)) : (mi_wI m k i p v).1 a b c = m.1 a b c := if_neg h
theorem rI_eq {m : mi_M} {k i p : Nat} {v : Int32} : (mi_wI m k i p v).1 k i p = v := if_pos ⟨rfl, rfl, rfl⟩
