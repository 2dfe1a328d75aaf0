/-! ===== tokens by their number; how the developers pass them ===== -/
def kD (L : List Nat) (n : Nat) : Nat := kdT L (plT L n)
def wX (L : List Nat) (n : Nat) : Nat := wxT L (plT L n)
def vL (L : List Nat) (n : Nat) : Nat := if kdT L (plT L n) = 3 then wN 10 48 L (plT L n) (nxT L (plT L n) - plT L n) else gT L (plT L n)
def nM (L : List Nat) (n : Nat) : Nat := wN 37 96 L (plT L n) (nxT L (plT L n) - plT L n)
def nC (L : List Nat) (n : Nat) : Nat := wN 32 96 L (plT L n) (nxT L (plT L n) - plT L n)
def eS (L : List Nat) (c n : Nat) : Nat := if kD L n = 4 ∧ vL L n = c then 0 else 1
def eN (L : List Nat) (lo hx n : Nat) : Nat := if kD L n = 3 then (if lo ≤ vL L n ∧ vL L n < hx then 0 else 4) else 1
def eW (L : List Nat) (w n : Nat) : Nat := if wX L n = w then 0 else 1
def fdN (L : List Nat) (nm : Nat → Nat) (k n : Nat) : Nat := fq (fun j => decide (nM L (nm j) = nM L n)) k 0
/-- a person told before, another one than a (99: any) -/
def eO (L : List Nat) (nm : Nat → Nat) (k a n : Nat) : Nat := if kD L n = 2 ∧ 23 ≤ wX L n then (if fdN L nm k n < k then (if fdN L nm k n = a then 3 else 0) else 2) else 1
theorem kD_lt (L : List Nat) (n : Nat) : kD L n < 5 := by
  unfold kD kdT
  repeat' split
  all_goals omega
theorem wX_le (L : List Nat) (n : Nat) : wX L n ≤ 26 := wx_le _ _
theorem wX_k {L : List Nat} {n : Nat} (h : wX L n < 26) : kD L n = 2 := wx_k h
theorem nx_le {L : List Nat} {p : Nat} (hp : p ≤ L.length) : nxT L p ≤ L.length := by
  by_cases h : p < L.length
  · exact (nxT_b h).2
  · have : nxT L p = p := if_neg h
    omega
theorem pl_le (L : List Nat) : ∀ n, plT L n ≤ L.length
  | 0 => (skA_b (Nat.zero_le _)).2
  | n + 1 => (skA_b (nx_le (pl_le L n))).2
theorem dg_b {L : List Nat} {p : Nat} (h : kdT L p = 3) : nxT L p - p ≤ 4 ∧ ∀ i, i < nxT L p - p → gT L (p + i) ≤ 57 := by
  unfold kdT at h
  by_cases hp : p < L.length
  · rw [if_pos hp] at h
    by_cases hl : ltr (gT L p) = true
    · rw [if_pos hl] at h
      split at h <;> omega
    · rw [if_neg hl] at h
      by_cases hd : dgt (gT L p) = true
      · rw [if_pos hd] at h
        have en : nxT L p = spA dgt L p := by unfold nxT; rw [if_pos hp, if_neg hl, if_pos hd]
        rw [en]
        obtain ⟨a1, a2, a3, a4⟩ := fq_sp (P := fun i => !dgt (gT L i)) (L.length - p) p
        by_cases h8 : spA dgt L p - p ≤ 4
        · refine ⟨h8, fun i hi => ?_⟩
          have := a3 (p + i) (by omega) (by unfold spA at hi; omega)
          have : dgt (gT L (p + i)) = true := by simpa using this
          exact (of_decide_eq_true this).2
        · rw [if_neg h8] at h
          omega
      · rw [if_neg hd] at h
        split at h <;> omega
  · rw [if_neg hp] at h
    omega
theorem wN_10 {L : List Nat} {p : Nat} : ∀ {n : Nat}, (∀ i, i < n → gT L (p + i) ≤ 57) → wN 10 48 L p n < 10 ^ n
  | 0, _ => by simp [wN]
  | n + 1, h => by
    have q := h n (by omega)
    have ih := wN_10 (L := L) (p := p) (n := n) (fun i hi => h i (by omega))
    rw [wN_s, Nat.pow_succ]
    omega
theorem vL_lt {L : List Nat} (hL : okL L) (n : Nat) : vL L n < 10000 := by
  unfold vL
  by_cases h : kdT L (plT L n) = 3
  · rw [if_pos h]
    obtain ⟨d1, d2⟩ := dg_b h
    have h1 := wN_10 d2
    have h2 : 10 ^ (nxT L (plT L n) - plT L n) ≤ 10 ^ 4 := Nat.pow_le_pow_right (by omega) d1
    have h3 : 10 ^ 4 = 10000 := by decide
    omega
  · rw [if_neg h]
    have := gT_lt hL (plT L n)
    omega
def dT (m : mi_M) (L : List Nat) (n : Nat) : Prop := tokC m L (plT L n) ∧ tpC m L ∧ m.1 7 0 1 = 0
theorem dT.k {m : mi_M} {L : List Nat} {n : Nat} (h : dT m L n) : m.1 6 0 1 = n32 (kD L n) := h.1.2.2.1
theorem dT.p {m : mi_M} {L : List Nat} {n : Nat} (h : dT m L n) : m.1 6 0 2 = n32 (plT L n) := h.1.1
theorem dT.v {m : mi_M} {L : List Nat} {n : Nat} (h : dT m L n) (hk : kD L n = 3 ∨ kD L n = 4) : m.1 6 0 3 = n32 (vL L n) := by
  unfold vL
  rcases hk with hk | hk
  · have hk : kdT L (plT L n) = 3 := hk
    rw [if_pos hk]; exact h.1.2.2.2.1 hk
  · have hk : kdT L (plT L n) = 4 := hk
    rw [if_neg (by omega)]; exact h.1.2.2.2.2.1 hk
theorem dT.w {m : mi_M} {L : List Nat} {n : Nat} (h : dT m L n) (hk : kD L n = 2) : m.2.1 6 0 4 = n64 (nC L n) := h.1.2.2.2.2.2 hk
theorem tokC.mv {m m' : mi_M} {L : List Nat} {p : Nat} {P : Nat → Nat → Nat → Prop} (h : tokC m L p) (hk : kp P m m') (h1 : ∀ q, q = 1 ∨ q = 2 ∨ q = 3 ∨ q = 6 → ¬ P 6 0 q) (h2 : ¬ P 106 0 4) : tokC m' L p := by
  unfold tokC at *
  rw [hk.1 6 0 2 (h1 2 (by omega)), hk.1 6 0 6 (h1 6 (by omega)), hk.1 6 0 1 (h1 1 (by omega)), hk.1 6 0 3 (h1 3 (by omega)), hk.2.1 6 0 4 h2]
  exact h
theorem dT.mv {m m' : mi_M} {L : List Nat} {n : Nat} {P : Nat → Nat → Nat → Prop} (h : dT m L n) (hk : kp P m m') (h1 : ∀ q, ¬ P 6 0 q) (h2 : ¬ P 106 0 4) (h3 : ∀ q, ¬ P 37 0 q) (h4 : ¬ P 7 0 1 := by omega) : dT m' L n :=
  ⟨h.1.mv hk (fun q _ => h1 q) h2, h.2.1.mv hk h3 (h1 0), by rw [hk.1 7 0 1 h4]; exact h.2.2⟩
theorem pc_adv {m : mi_M} {L : List Nat} {n : Nat} (h : dT m L n) (hL : okL L) : wo (f_X6_advance m) (fun m' => dT m' L (n + 1) ∧ kp (fun k i p => k6 k i p) m m') := by
  refine pw_mono (pc_advance h.2.1 hL (nx_le (pl_le L n)) h.1.2.1) ?_
  rintro m' ⟨a1, a2, a3⟩
  exact ⟨⟨a1, a2, by rw [a3.1 7 0 1 (by omega)]; exact h.2.2⟩, a3⟩
theorem pc_am {m : mi_M} {L : List Nat} {n a : Nat} (h : dT m L n) (ha : a < 12) (h1 : 1 ≤ a) : f_X6_among a m = some (ixW (wX L n) (wls a) 0) := pc_among h.1 ha h1
theorem pc_isSign {m : mi_M} {L : List Nat} {n c : Nat} (h : dT m L n) (hL : okL L) (hc : c < 127) : f_X6_isSign (n32 c) m = some (if kD L n = 4 ∧ vL L n = c then 1 else 0) := by
  unfold f_X6_isSign f_X6_isSign_J20 f_X6_isSign_J21
  have kl := kD_lt L n
  have vl := vL_lt hL n
  rw [h.k, pe_g (by decide), pe_g (by decide)]
  by_cases hk : kD L n = 4
  · rw [if_pos (by rw [hk]; rfl), h.v (Or.inr hk)]
    by_cases hv : vL L n = c
    · rw [if_pos (by rw [hv]), if_pos ⟨hk, hv⟩]
    · rw [if_neg (by rw [n32_eq (by omega) (by omega)]; exact hv), if_neg (fun x => hv x.2)]
  · rw [if_neg (by rw [n32_eqL (by omega) (by decide)]; exact hk), if_neg (fun x => hk x.1)]
abbrev k67 (k i p : Nat) : Prop := i = 0 ∧ (k = 6 ∧ (p = 1 ∨ p = 2 ∨ p = 3 ∨ p = 6) ∨ k = 106 ∧ p = 4 ∨ k = 7 ∧ p = 1)
/-- what a step over one token answers: e its fault, 0 none -/
def rD (L : List Nat) (n : Nat) (m : mi_M) (e : Nat) (r : Int32 × mi_M) : Prop := (e = 0 → r.1 = 1 ∧ dT r.2 L (n + 1)) ∧ (e ≠ 0 → r.1 = 0 ∧ r.2.1 7 0 1 = n32 (e + 16 * plT L n)) ∧ kp (fun k i p => k67 k i p) m r.2
theorem rd_fail {m : mi_M} {L : List Nat} {n e : Nat} (h : dT m L n) (he : e ≠ 0) : wo (f_X7_fail (n32 e) m) (rD L n m e) := by
  unfold f_X7_fail
  rw [pw_let, pw_g, pw_some]
  refine ⟨by decide, fun x => absurd x he, fun _ => ⟨rfl, ?_⟩, kp.rf.wI ⟨rfl, by omega⟩⟩
  rw [rI_eq, h.p, n32_lm, n32_add]
theorem rd_01 {L : List Nat} {n e : Nat} {m : mi_M} {o : Option (Int32 × mi_M)} (h : wo o (rD L n m e)) : wo (mi_b o fun v m' => mi_g (v = 0 ∨ v = 1) (some (v, m'))) (rD L n m e) := by
  rw [pw_b]
  refine pw_mono h ?_
  rintro ⟨v, m'⟩ hr
  rw [pw_g, pw_some]
  refine ⟨?_, hr⟩
  by_cases e0 : e = 0
  · exact Or.inr (hr.1 e0).1
  · exact Or.inl (hr.2.1 e0).1
theorem rd_adv {m : mi_M} {L : List Nat} {n : Nat} (h : dT m L n) (hL : okL L) : wo (mi_bo (f_X6_advance m) fun m2 => mi_g ((1 : Int32) = 0 ∨ (1 : Int32) = 1) (some ((1 : Int32), m2))) (rD L n m 0) := by
  rw [pw_bo]
  refine pw_mono (pc_adv h hL) ?_
  rintro m' ⟨a1, a2⟩
  rw [pw_g, pw_some]
  exact ⟨by decide, fun _ => ⟨rfl, a1⟩, fun x => absurd rfl x, a2.mo (fun k i p a => by omega)⟩
theorem pc_passSign {m : mi_M} {L : List Nat} {n c : Nat} (h : dT m L n) (hL : okL L) (hc : c < 127) : wo (f_X7_passSign (n32 c) m) (rD L n m (eS L c n)) := by
  unfold f_X7_passSign eS
  rw [pc_isSign h hL hc, pe_bo]
  by_cases q : kD L n = 4 ∧ vL L n = c
  · rw [if_pos q, if_pos q, if_neg (by decide)]
    exact rd_adv h hL
  · rw [if_neg q, if_neg q, if_pos rfl]
    exact rd_01 (rd_fail (e := 1) h (by decide))
theorem n32_pr {v hx : Nat} (hv : v < 100000) (hh : hx < 100000) : n32 v ≤ n32 hx - 1 ↔ v < hx := by
  have e : (n32 hx - 1).toInt = (hx : Int) - 1 := by
    have e1 : (1 : Int32).toInt = 1 := by decide
    rw [Int32.toInt_sub, n32_int (by omega), e1, Int.bmod_eq_of_le] <;> omega
  rw [i32_le, e, n32_int (by omega)]
  omega
theorem pc_passNumber {m : mi_M} {L : List Nat} {n lo hx : Nat} (h : dT m L n) (hL : okL L) (hl : lo < 100000) (hh : hx < 100000) : wo (f_X7_passNumber (n32 lo) (n32 hx - 1) m) (rD L n m (eN L lo hx n)) := by
  unfold f_X7_passNumber eN
  have kl := kD_lt L n
  have vl := vL_lt hL n
  rw [h.k]
  by_cases hk : kD L n = 3
  · rw [if_pos (by rw [hk]; rfl), if_pos hk, h.v (Or.inl hk), pc_within, pe_bo]
    have qq : (n32 lo ≤ n32 (vL L n) ∧ n32 (vL L n) ≤ n32 hx - 1) ↔ (lo ≤ vL L n ∧ vL L n < hx) := by rw [n32_pr (by omega) hh, n32_le (by omega) (by omega)]
    by_cases q : lo ≤ vL L n ∧ vL L n < hx
    · rw [if_pos (qq.mpr q), if_pos q, if_neg (by decide)]
      exact rd_adv h hL
    · rw [if_neg (fun x => q (qq.mp x)), if_neg q, if_pos rfl]
      exact rd_01 (rd_fail (e := 4) h (by decide))
  · rw [if_neg (by rw [n32_eqL (by omega) (by decide)]; exact hk), if_neg hk]
    exact rd_01 (rd_fail (e := 1) h (by decide))
theorem pc_pass {m : mi_M} {L : List Nat} {n a w : Nat} (h : dT m L n) (hL : okL L) (ha : a < 12) (h1 : 1 ≤ a) (hw : wls a = [w]) : wo (f_X7_pass a m) (rD L n m (eW L w n)) := by
  unfold f_X7_pass eW
  rw [pc_am h ha h1, pe_bo, hw, ix_c]
  by_cases q : w = wX L n
  · rw [if_pos q, if_pos q.symm, if_neg (by decide)]
    exact rd_adv h hL
  · rw [if_neg q, show ixW (wX L n) [] (0 + 1) = -1 from rfl, if_pos rfl, if_neg (fun x => q x.symm)]
    exact rd_01 (rd_fail (e := 1) h (by decide))
theorem nm_tab : ∀ x, x ≤ 26 → (if ixW x (wls 1) 0 = -1 then if ixW x (wls 2) 0 = -1 then if ixW x (wls 3) 0 = -1 then if ixW x (wls 4) 0 = -1 then if ixW x (wls 5) 0 = -1 then some (1 : Int32) else some 0 else some 0 else some 0 else some 0 else some 0) = some (if 23 ≤ x then 1 else 0) := by decide +kernel
theorem pc_isName {m : mi_M} {L : List Nat} {n : Nat} (h : dT m L n) : f_X7_isName m = some (if kD L n = 2 ∧ 23 ≤ wX L n then 1 else 0) := by
  have kl := kD_lt L n
  have j1 : f_X7_isName_J81 1 = some 1 := pe_g (by decide)
  have j0 : f_X7_isName_J80 = some 0 := pe_g (by decide)
  unfold f_X7_isName
  rw [h.k, pc_am h (by decide) (by decide), pc_am h (by decide) (by decide), pc_am h (by decide) (by decide), pc_am h (by decide) (by decide), pc_am h (by decide) (by decide), j1, j0]
  by_cases hk : kD L n = 2
  · rw [if_pos (by rw [hk]; rfl)]
    refine (nm_tab _ (wX_le L n)).trans ?_
    by_cases q : 23 ≤ wX L n
    · rw [if_pos q, if_pos ⟨hk, q⟩]
    · rw [if_neg q, if_neg (fun x => q x.2)]
  · rw [if_neg (by rw [n32_eqL (by omega) (by decide)]; exact hk), if_neg (fun x => hk x.1)]
/-- the names told so far, as the developers hold them -/
def namC (m : mi_M) (e : Nat) (L : List Nat) (nm : Nat → Nat) (k : Nat) : Prop := k ≤ 6 ∧ m.1 8 e 0 = n32 k ∧ ∀ j, j < k → m.2.1 38 e j = n64 (nC L (nm j)) ∧ kD L (nm j) = 2
theorem nC_nM {L : List Nat} {i j : Nat} (hi : kD L i = 2) (hj : kD L j = 2) : n64 (nC L i) = n64 (nC L j) ↔ nM L i = nM L j := by
  obtain ⟨d1, d2⟩ := wd_tok hi
  obtain ⟨o1, o2⟩ := wd_tok hj
  unfold nC nM
  rw [n64_eq (wN_l8 (by omega) (by omega) d1 d2) (wN_l8 (by omega) (by omega) o1 o2), wN_bb (b' := 37) (by omega) (by omega) d1 o1]
theorem fnd_le {L : List Nat} {nm : Nat → Nat} {k n : Nat} : fdN L nm k n ≤ k := by
  have := (fq_sp (P := fun j => decide (nM L (nm j) = nM L n)) k 0).2.1
  unfold fdN
  omega
theorem pc_named {m : mi_M} {e : Nat} {L : List Nat} {nm : Nat → Nat} {k : Nat} {x : Int64} (h : namC m e L nm k) : ∃ r, f_X8_personNamed e x m = some r ∧ ∀ n, kD L n = 2 → x = n64 (nC L n) → r = if fdN L nm k n < k then n32 (fdN L nm k n) else -1 := by
  obtain ⟨h1, h2, h3⟩ := h
  suffices hh : wo (f_X8_personNamed e x m) (fun r => ∀ n, kD L n = 2 → x = n64 (nC L n) → r = if fdN L nm k n < k then n32 (fdN L nm k n) else -1) by
    obtain ⟨r, e1, e2⟩ := hh
    exact ⟨r, e1, e2⟩
  unfold f_X8_personNamed
  rw [pw_bo]
  refine pl_for (fun j l => l = n32 j ∧ ∀ i, i < j → m.2.1 38 e i ≠ x) k (by omega) ⟨rfl, fun i hi => absurd hi (by omega)⟩ ?_
  rintro j l hj ⟨rfl, a2⟩
  unfold f_X8_personNamed_B2
  have pre : ∀ n, kD L n = 2 → x = n64 (nC L n) → ∀ i, 0 ≤ i → i < j → decide (nM L (nm i) = nM L n) = false := by
    intro n n1 n2 i _ hi
    refine decide_eq_false (fun z => a2 i hi ?_)
    rw [(h3 i (by omega)).1, n2]
    exact (nC_nM (h3 i (by omega)).2 n1).mpr z
  rw [h2]
  simp (disch := omega) only [pw_if, n32_le, pw_some, lr_r, lr_l, pw_g, n32_in, n32_cl, n32_al, lg_cmp0]
  refine ⟨fun hx => ?_, fun hx => ⟨by omega, fun hy => ?_, fun hy => ⟨by omega, by trivial, fun i hi => ?_⟩⟩⟩
  · refine pw_some.mpr (fun n n1 n2 => ?_)
    have : fdN L nm k n = k := fq_at (by omega) (by omega) (fun i a b => pre n n1 n2 i a (by omega)) (fun z => absurd z (by omega))
    rw [if_neg (by omega)]
  · refine pw_some.mpr (fun n n1 n2 => ?_)
    have : fdN L nm k n = j := fq_at (by omega) (by omega) (fun i a b => pre n n1 n2 i a (by omega)) (fun _ => decide_eq_true ((nC_nM (h3 j (by omega)).2 n1).mp (by rw [← n2, ← (h3 j (by omega)).1]; exact hy)))
    rw [this, if_pos (by omega)]
  · by_cases z : i = j
    · rw [z]; exact hy
    · exact a2 i (by omega)
theorem pc_passDoor {m : mi_M} {e : Nat} {L : List Nat} {nm : Nat → Nat} {k a n : Nat} {fi : Int32} (h : dT m L n) (hL : okL L) (hN : namC m e L nm k) (hf : ∀ d, d < 6 → (n32 d = fi ↔ d = a)) : wo (f_X7_passDoor e fi m) (rD L n m (eO L nm k a n)) := by
  have h6 := hN.1
  unfold f_X7_passDoor eO
  rw [pc_isName h, pe_bo]
  by_cases q : kD L n = 2 ∧ 23 ≤ wX L n
  · rw [if_pos q, if_pos q, if_neg (by decide)]
    obtain ⟨r, e1, e2⟩ := pc_named (x := m.2.1 6 0 4) hN
    have e3 := e2 n q.1 (h.w q.1)
    rw [e1, pe_bo, e3]
    by_cases f : fdN L nm k n < k
    · rw [if_pos f, if_pos f, if_neg (by rw [n32_eqN (by omega)]; exact id)]
      by_cases g : fdN L nm k n = a
      · rw [if_pos ((hf _ (by omega)).mpr g), if_pos g]
        exact rd_01 (rd_fail (e := 3) h (by decide))
      · rw [if_neg (fun z => g ((hf _ (by omega)).mp z)), if_neg g]
        exact rd_adv h hL
    · rw [if_neg f, if_neg f, if_pos rfl]
      exact rd_01 (rd_fail (e := 2) h (by decide))
  · rw [if_neg q, if_neg q, if_pos rfl]
    exact rd_01 (rd_fail (e := 1) h (by decide))
