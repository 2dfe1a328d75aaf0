/-! ===== how the reference passes tokens ===== -/
theorem pg1 {α : Type} {o : Option α} : mi_g ((1 : Int32) = 0 ∨ (1 : Int32) = 1) o = o := pe_g (by decide)
theorem pg0 {α : Type} {o : Option α} : mi_g ((0 : Int32) = 0 ∨ (0 : Int32) = 1) o = o := pe_g (by decide)
theorem if01 {α : Type} {P : Prop} [Decidable P] {a b : α} : (if (if P then (1 : Int32) else 0) = 0 then a else b) = if P then b else a := by
  by_cases h : P
  · rw [if_pos h, if_pos h, if_neg (by decide)]
  · rw [if_neg h, if_neg h, if_pos rfl]
theorem lg_lt (x y : Int64) : lg_cmp x y < 0 ↔ x.toInt < y.toInt := by
  unfold lg_cmp
  have g : (x > y) ↔ y.toInt < x.toInt := Int64.lt_iff_toInt_lt
  by_cases h1 : x > y
  · rw [if_pos h1]
    have := g.mp h1
    exact ⟨fun h => absurd h (by decide), fun h => absurd h (by omega)⟩
  · rw [if_neg h1]
    have g1 : ¬ y.toInt < x.toInt := fun z => h1 (g.mpr z)
    by_cases h2 : x = y
    · rw [if_pos h2, h2]
      exact ⟨fun h => absurd h (by decide), fun h => absurd h (by omega)⟩
    · rw [if_neg h2]
      have g2 : x.toInt ≠ y.toInt := fun z => h2 (Int64.toInt_inj.mp z)
      exact ⟨fun _ => by omega, fun _ => by decide⟩
theorem lg_le (x y : Int64) : lg_cmp x y ≤ 0 ↔ x.toInt ≤ y.toInt := by
  unfold lg_cmp
  have g : (x > y) ↔ y.toInt < x.toInt := Int64.lt_iff_toInt_lt
  by_cases h1 : x > y
  · rw [if_pos h1]
    have := g.mp h1
    exact ⟨fun h => absurd h (by decide), fun h => absurd h (by omega)⟩
  · rw [if_neg h1]
    have g1 : ¬ y.toInt < x.toInt := fun z => h1 (g.mpr z)
    by_cases h2 : x = y
    · rw [if_pos h2, h2]
      exact ⟨fun _ => by omega, fun _ => by decide⟩
    · rw [if_neg h2]
      exact ⟨fun _ => by omega, fun _ => by decide⟩
theorem n32_pi {hx : Nat} (hh : hx < 100000) : (n32 hx - 1).toInt64.toInt = (hx : Int) - 1 := by
  have e1 : (1 : Int32).toInt = 1 := by decide
  rw [Int32.toInt_toInt64, Int32.toInt_sub, n32_int (by omega), e1, Int.bmod_eq_of_le] <;> omega
def cutC (m : mi_M) (L : List Nat) (c : Nat) : Prop := c ≤ L.length ∧ plT L c = L.length ∧ (∀ i, i < c → plT L i < L.length) ∧ ∀ i, i ≤ c → tokM m L i (plT L i)
theorem cutC.mv {m m' : mi_M} {L : List Nat} {c : Nat} {P : Nat → Nat → Nat → Prop} (h : cutC m L c) (hk : kp P m m') (hp : ∀ p, ¬ P 52 0 p ∧ ¬ P 53 0 p ∧ ¬ P 154 0 p) : cutC m' L c :=
  ⟨h.1, h.2.1, h.2.2.1, fun i hi => (h.2.2.2 i hi).mv hk (hp i).1 (hp i).2.1 (hp i).2.2⟩
/-- the tokens that there are: the end is one more -/
def tkN (L : List Nat) (c : Nat) : Prop := okL L ∧ c ≤ L.length ∧ plT L c = L.length ∧ ∀ i, i < c → plT L i < L.length
theorem tkN.k {L : List Nat} {c n : Nat} (h : tkN L c) (hn : n ≤ c) (hk : kD L n ≠ 0) : n < c := by
  by_cases e : n = c
  · exfalso
    apply hk
    unfold kD kdT
    rw [e, h.2.2.1, if_neg (Nat.lt_irrefl _)]
  · omega
theorem tkN.z {L : List Nat} {c n : Nat} (h : tkN L c) (hn : n < c) : kD L n ≠ 0 := by
  unfold kD kdT
  rw [if_pos (h.2.2.2 n hn)]
  repeat' split
  all_goals omega
theorem tkN.c {L : List Nat} {c : Nat} (h : tkN L c) : c ≤ 1000 := Nat.le_trans h.2.1 h.1.1
theorem tkN.p {L : List Nat} {c n : Nat} (h : tkN L c) : plT L n ≤ 1000 := Nat.le_trans (pl_le L n) h.1.1
/-- the reference at its token n, with the fault v (0: none) -/
def rS (m : mi_M) (L : List Nat) (c n v : Nat) : Prop := cutC m L c ∧ pWords m ∧ n ≤ c ∧ m.1 12 0 7 = n32 n ∧ m.1 12 0 8 = n32 v ∧ v < 100000
theorem rS.mv {m m' : mi_M} {L : List Nat} {c n v : Nat} {P : Nat → Nat → Nat → Prop} (h : rS m L c n v) (hk : kp P m m') (h1 : ¬ P 12 0 7) (h2 : ¬ P 12 0 8) (h3 : ∀ p, ¬ P 52 0 p ∧ ¬ P 53 0 p ∧ ¬ P 154 0 p) (h4 : ∀ i p, P 155 i p → False) : rS m' L c n v :=
  ⟨h.1.mv hk h3, h.2.1.mv hk h4, h.2.2.1, by rw [hk.1 12 0 7 h1]; exact h.2.2.2.1, by rw [hk.1 12 0 8 h2]; exact h.2.2.2.2.1, h.2.2.2.2.2⟩
abbrev k78 (k i p : Nat) : Prop := k = 12 ∧ i = 0 ∧ (p = 7 ∨ p = 8)
theorem rS.up {m m' : mi_M} {L : List Nat} {c n v n' v' : Nat} (h : rS m L c n v) (hk : kp (fun k i p => k78 k i p) m m') (h1 : m'.1 12 0 7 = n32 n') (h2 : m'.1 12 0 8 = n32 v') (hn : n' ≤ c) (hv : v' < 100000) : rS m' L c n' v' :=
  ⟨h.1.mv hk (fun p => by omega), h.2.1.mv hk (fun i p a => by omega), hn, h1, h2, hv⟩
def sx (L : List Nat) (e : Nat → Nat) (s : Nat × Nat) : Nat × Nat := if s.2 = 0 then (if e s.1 = 0 then (s.1 + 1, 0) else (s.1, e s.1 + 16 * plT L s.1)) else s
theorem sx_f {L : List Nat} {e : Nat → Nat} {n v : Nat} (h : v ≠ 0) : sx L e (n, v) = (n, v) := if_neg h
theorem sx_y {L : List Nat} {e : Nat → Nat} {n : Nat} (h : e n = 0) : sx L e (n, 0) = (n + 1, 0) := by
  unfold sx
  rw [if_pos rfl]
  exact if_pos h
theorem sx_n {L : List Nat} {e : Nat → Nat} {n : Nat} (h : e n ≠ 0) : sx L e (n, 0) = (n, e n + 16 * plT L n) := by
  unfold sx
  rw [if_pos rfl]
  exact if_neg h
/-- what a step of the reference leaves -/
def rP (L : List Nat) (c : Nat) (m : mi_M) (s : Nat × Nat) (m' : mi_M) : Prop := rS m' L c s.1 s.2 ∧ kp (fun k i p => k78 k i p) m m'
theorem rp_id {L : List Nat} {c n v : Nat} {m : mi_M} (h : rS m L c n v) : rP L c m (n, v) m := ⟨h, kp.rf⟩
theorem rp_at {L : List Nat} {c n v : Nat} {m : mi_M} (h : rS m L c n v) (hn : n + 1 ≤ c) : rP L c m (n + 1, v) (mi_wI m 12 0 7 (m.1 12 0 7 + 1)) := by
  have kk : kp (fun k i p => k78 k i p) m (mi_wI m 12 0 7 (m.1 12 0 7 + 1)) := kp.rf.wI ⟨rfl, rfl, by omega⟩
  exact ⟨h.up kk (by rw [rI_eq, h.2.2.2.1, n32_al]) (by rw [rI_ne (by omega)]; exact h.2.2.2.2.1) hn h.2.2.2.2.2, kk⟩
theorem rp_a0 {L : List Nat} {c n v : Nat} {m : mi_M} (h : rS m L c n v) : rP L c m (n, v) (mi_wI m 12 0 7 (m.1 12 0 7 + 0)) := by
  have kk : kp (fun k i p => k78 k i p) m (mi_wI m 12 0 7 (m.1 12 0 7 + 0)) := kp.rf.wI ⟨rfl, rfl, by omega⟩
  exact ⟨h.up kk (by rw [rI_eq, h.2.2.2.1]; exact n32_al n 0) (by rw [rI_ne (by omega)]; exact h.2.2.2.2.1) h.2.2.1 h.2.2.2.2.2, kk⟩
theorem rS.ix {m : mi_M} {L : List Nat} {c n v : Nat} (h : rS m L c n v) (hL : tkN L c) : vp_in (m.1 12 0 7) 1002 ∧ (m.1 12 0 7).toNatClampNeg = n := by
  have := hL.c
  have := h.2.2.1
  rw [h.2.2.2.1, n32_in (by omega), n32_cl (by omega)]
  exact ⟨by omega, rfl⟩
theorem rS.f0 {m : mi_M} {L : List Nat} {c n v : Nat} (h : rS m L c n v) : (m.1 12 0 8 = 0 ↔ v = 0) ∧ (m.1 12 0 8 ≤ 0 ↔ v = 0) := by
  have := h.2.2.2.2.2
  rw [h.2.2.2.2.1, show (0 : Int32) = n32 0 from rfl, n32_eq (by omega) (by omega), n32_le (by omega) (by omega)]
  exact ⟨Iff.rfl, by omega⟩
theorem pm_wrong {m : mi_M} {L : List Nat} {c n e : Nat} (h : rS m L c n 0) (hL : tkN L c) (he : e < 10) : wo (f_X12_wrong (n32 e) m) (rP L c m (n, e + 16 * plT L n)) := by
  obtain ⟨i1, i2⟩ := h.ix hL
  have pb := hL.p (n := n)
  unfold f_X12_wrong f_X12_wrong_J25
  rw [if_pos (h.f0.1.mpr rfl), pw_g, pw_let, pw_some, i2]
  refine ⟨i1, ?_⟩
  have t := (h.1.2.2.2 n h.2.2.1).2.1
  rw [t, n32_lm, n32_add]
  have kk : kp (fun k i p => k78 k i p) m (mi_wI m 12 0 8 (n32 (e + 16 * plT L n))) := kp.rf.wI ⟨rfl, rfl, by omega⟩
  exact ⟨h.up kk (by rw [rI_ne (by omega)]; exact h.2.2.2.1) rI_eq h.2.2.1 (by omega), kk⟩
theorem pm_wrongF {m : mi_M} {L : List Nat} {c n v : Nat} {e : Int32} (h : rS m L c n v) (hv : v ≠ 0) : f_X12_wrong e m = some m := by
  have := h.2.2.2.2.2
  unfold f_X12_wrong f_X12_wrong_J25
  rw [h.2.2.2.2.1, if_neg (by rw [show (0 : Int32) = n32 0 from rfl, n32_eq (by omega) (by omega)]; exact hv)]
theorem mS_k : ∀ k, k < 5 → (n32 (mS k) = 1 ↔ k = 2) ∧ (n32 (mS k) = 2 ↔ k = 3) ∧ (n32 (mS k) = 3 ↔ k = 4) ∧ (n32 (mS k) = 0 ↔ k = 0) := by decide
theorem rS.s {m : mi_M} {L : List Nat} {c n v : Nat} (h : rS m L c n v) : m.1 52 0 n = n32 (mS (kD L n)) := (h.1.2.2.2 n h.2.2.1).1
theorem pm_isSign {m : mi_M} {L : List Nat} {c n v ch : Nat} (h : rS m L c n v) (hL : tkN L c) (hc : ch < 127) : f_X12_isSign (n32 ch) m = some (if v = 0 ∧ kD L n = 4 ∧ vL L n = ch then 1 else 0) := by
  obtain ⟨i1, i2⟩ := h.ix hL
  have kl := kD_lt L n
  have ms := mS_k _ kl
  have g := gT_lt hL.1 (plT L n)
  unfold f_X12_isSign f_X12_isSign_J39 f_X12_isSign_J40
  rw [pg1, pg0, pe_g i1, pe_g i1, i2, h.s]
  by_cases hv : v = 0
  · rw [if_pos (h.f0.1.mpr hv)]
    by_cases hk : kD L n = 4
    · have e54 : m.2.1 54 0 n = n64 (gT L (plT L n)) := (h.1.2.2.2 n h.2.2.1).2.2.2.2 hk
      have ev : vL L n = gT L (plT L n) := if_neg (by unfold kD at hk; omega)
      have ew : lg_cmp (n64 (gT L (plT L n))) (n32 ch).toInt64 = 0 ↔ vL L n = ch := by rw [lg_cmp0, n32_64 (by omega), n64_eq (by omega) (by omega), ev]
      rw [if_pos (ms.2.2.1.mpr hk), e54]
      by_cases hw : vL L n = ch
      · rw [if_pos (ew.mpr hw), if_pos ⟨hv, hk, hw⟩]
      · rw [if_neg (fun x => hw (ew.mp x)), if_neg (fun x => hw x.2.2)]
    · rw [if_neg (fun x => hk (ms.2.2.1.mp x)), if_neg (fun x => hk x.2.1)]
  · rw [if_neg (fun x => hv (h.f0.1.mp x)), if_neg (fun x => hv x.1)]
theorem pm_isWord {m : mi_M} {L : List Nat} {c n v w : Nat} (h : rS m L c n v) (hL : tkN L c) (hw : w < 26) : f_X12_isWord (n32 w) m = some (if v = 0 ∧ wX L n = w then 1 else 0) := by
  obtain ⟨i1, i2⟩ := h.ix hL
  have kl := kD_lt L n
  have ms := mS_k _ kl
  unfold f_X12_isWord f_X12_isWord_J43 f_X12_isWord_J44
  rw [pg1, pg0, pe_g i1, pe_g i1, i2, h.s, n32_cl (by omega), pe_g ((n32_in (by omega)).mpr hw)]
  by_cases hv : v = 0
  · rw [if_pos (h.f0.1.mpr hv)]
    by_cases hk : kD L n = 2
    · have e54 : m.2.1 54 0 n = n64 (nM L n) := (h.1.2.2.2 n h.2.2.1).2.2.1 hk
      obtain ⟨d1, d2⟩ := wd_tok hk
      obtain ⟨o1, o2⟩ := wl_ok w hw
      have e1 : lg_cmp (n64 (nM L n)) (n64 (wN 37 96 (wl w) 0 (wl w).length)) = 0 ↔ wX L n = w := by
        unfold nM
        rw [lg_cmp0, n64_eq (wN_l8 (by omega) (by omega) d1 d2) (wN_l8 (by omega) (by omega) o2 o1)]
        have := wx_iff (L := L) (p := plT L n) hw
        exact ⟨fun x => (this.mp (decide_eq_true ⟨hk, x⟩)).symm, fun x => (of_decide_eq_true (this.mpr x.symm)).2⟩
      rw [if_pos (ms.1.mpr hk), e54, h.2.1 w hw, tab37 w hw]
      by_cases hx : wX L n = w
      · rw [if_pos (e1.mpr hx), if_pos ⟨hv, hx⟩]
      · rw [if_neg (fun x => hx (e1.mp x)), if_neg (fun x => hx x.2)]
    · rw [if_neg (fun x => hk (ms.1.mp x)), if_neg (fun x => hk (wX_k (by omega)))]
  · rw [if_neg (fun x => hv (h.f0.1.mp x)), if_neg (fun x => hv x.1)]
theorem pm_takeSign {m : mi_M} {L : List Nat} {c n v ch : Nat} (h : rS m L c n v) (hL : tkN L c) (hc : ch < 127) : wo (f_X12_takeSign (n32 ch) m) (rP L c m (sx L (eS L ch) (n, v))) := by
  unfold f_X12_takeSign f_X12_takeSign_J26
  rw [pm_isSign h hL hc, pe_bo, if01]
  by_cases hv : v = 0
  · subst hv
    by_cases q : kD L n = 4 ∧ vL L n = ch
    · have e0 : eS L ch n = 0 := if_pos q
      rw [if_pos ⟨rfl, q⟩, pw_let, pw_some, sx_y e0]
      have := hL.k h.2.2.1 (by omega)
      exact rp_at h (by omega)
    · have e1 : eS L ch n = 1 := if_neg q
      rw [if_neg (fun x => q x.2), pw_bo, sx_n (by omega), e1]
      refine pw_mono (pm_wrong (e := 1) h hL (by omega)) ?_
      exact fun a ha => pw_some.mpr ha
  · rw [if_neg (fun x => hv x.1), pm_wrongF h hv, pe_bo, pw_some, sx_f hv]
    exact rp_id h
theorem pm_hasSign {m : mi_M} {L : List Nat} {c n v ch : Nat} (h : rS m L c n v) (hL : tkN L c) (hc : ch < 127) : wo (f_X12_hasSign (n32 ch) m) (fun r => r.1 = (if v = 0 ∧ kD L n = 4 ∧ vL L n = ch then 1 else 0) ∧ rP L c m (if v = 0 ∧ kD L n = 4 ∧ vL L n = ch then n + 1 else n, v) r.2) := by
  unfold f_X12_hasSign f_X12_hasSign_J20
  rw [pm_isSign h hL hc, pe_bo]
  by_cases q : v = 0 ∧ kD L n = 4 ∧ vL L n = ch
  · simp only [if_pos q]
    rw [if_neg (by decide), pw_let, pw_g, pw_some]
    have := hL.k h.2.2.1 (by omega)
    exact ⟨by decide, rfl, rp_at h (by omega)⟩
  · simp only [if_neg q]
    rw [if_pos trivial, pw_let, pw_g, pw_some]
    exact ⟨Or.inl trivial, rfl, rp_a0 h⟩
theorem pm_hasWord {m : mi_M} {L : List Nat} {c n v w : Nat} (h : rS m L c n v) (hL : tkN L c) (hw : w < 26) : wo (f_X12_hasWord (n32 w) m) (fun r => r.1 = (if v = 0 ∧ wX L n = w then 1 else 0) ∧ rP L c m (if v = 0 ∧ wX L n = w then n + 1 else n, v) r.2) := by
  unfold f_X12_hasWord f_X12_hasWord_J20
  rw [pm_isWord h hL hw, pe_bo]
  by_cases q : v = 0 ∧ wX L n = w
  · simp only [if_pos q]
    rw [if_neg (by decide), pw_let, pw_g, pw_some]
    have := wX_k (L := L) (n := n) (by omega)
    have := hL.k h.2.2.1 (by omega)
    exact ⟨by decide, rfl, rp_at h (by omega)⟩
  · simp only [if_neg q]
    rw [if_pos trivial, pw_let, pw_g, pw_some]
    exact ⟨Or.inl trivial, rfl, rp_a0 h⟩
theorem rP.tr {L : List Nat} {c : Nat} {m m1 m2 : mi_M} {s s' : Nat × Nat} (h : rP L c m s m1) (h' : rP L c m1 s' m2) : rP L c m s' m2 := ⟨h'.1, h.2.tr h'.2⟩
theorem pm_takeWord {m : mi_M} {L : List Nat} {c n v w : Nat} (h : rS m L c n v) (hL : tkN L c) (hw : w < 26) : wo (f_X12_takeWord (n32 w) m) (rP L c m (sx L (eW L w) (n, v))) := by
  unfold f_X12_takeWord f_X12_takeWord_J13
  rw [pw_b]
  refine pw_mono (pm_hasWord h hL hw) ?_
  rintro ⟨r, m1⟩ ⟨a1, a2⟩
  simp only at a1 a2
  subst a1
  dsimp only
  rw [if01]
  by_cases hv : v = 0
  · subst hv
    by_cases q : wX L n = w
    · have e0 : eW L w n = 0 := if_pos q
      rw [if_pos ⟨rfl, q⟩] at a2
      rw [if_pos ⟨rfl, q⟩, pw_some, sx_y e0]
      exact a2
    · have e1 : eW L w n = 1 := if_neg q
      rw [if_neg (fun x => q x.2)] at a2
      rw [if_neg (fun x => q x.2), pw_bo, sx_n (by omega), e1]
      refine pw_mono (pm_wrong (e := 1) a2.1 hL (by omega)) ?_
      exact fun a ha => pw_some.mpr (a2.tr ha)
  · rw [if_neg (fun x => hv x.1)] at a2
    rw [if_neg (fun x => hv x.1), pm_wrongF a2.1 hv, pe_bo, pw_some, sx_f hv]
    exact a2
theorem pm_takeNumber {m : mi_M} {L : List Nat} {c n v lo hx : Nat} (h : rS m L c n v) (hL : tkN L c) (hl : lo < 100000) (hh : hx < 100000) : wo (f_X12_takeNumber (n32 lo) (n32 hx - 1) m) (fun r => rP L c m (sx L (eN L lo hx) (n, v)) r.2 ∧ r.1 = n32 (if (sx L (eN L lo hx) (n, v)).2 = 0 then vL L n else 0)) := by
  obtain ⟨i1, i2⟩ := h.ix hL
  have kl := kD_lt L n
  have ms := mS_k _ kl
  have vl := vL_lt hL.1 n
  have pb := hL.p (n := n)
  have hc := hL.c
  have nc := h.2.2.1
  unfold f_X12_takeNumber f_X12_takeNumber_J28 f_X12_takeNumber_J65
  by_cases hv : v = 0
  · subst hv
    have bad : ∀ e m1, e ≠ 0 → eN L lo hx n = e → rP L c m (n, e + 16 * plT L n) m1 → wo (f_X12_takeNumber_J70 m1) (fun r => rP L c m (sx L (eN L lo hx) (n, 0)) r.2 ∧ r.1 = n32 (if (sx L (eN L lo hx) (n, 0)).2 = 0 then vL L n else 0)) := by
      intro e m1 he ee hr
      unfold f_X12_takeNumber_J70
      rw [if_neg (fun x => absurd (hr.1.f0.2.mp x) (by show e + 16 * plT L n ≠ 0; omega)), pw_some, sx_n (by omega), ee]
      refine ⟨hr, ?_⟩
      rw [if_neg (by show e + 16 * plT L n ≠ 0; omega)]
      rfl
    rw [if_pos (h.f0.1.mpr rfl), if_pos (h.f0.1.mpr rfl), pw_g, i2, h.s]
    refine ⟨i1, ?_⟩
    by_cases hk : kD L n = 3
    · have e54 : m.2.1 54 0 n = n64 (vL L n) := by
        have := (h.1.2.2.2 n nc).2.2.2.1 hk
        unfold vL
        rw [if_pos (show kdT L (plT L n) = 3 from hk)]
        exact this
      have l1 : lg_cmp (n64 (vL L n)) ((n32 lo).toInt64) < 0 ↔ vL L n < lo := by
        rw [lg_lt, n32_64 (by omega), n64_int (by omega), n64_int (by omega)]
        omega
      have l2 : lg_cmp (n64 (vL L n)) ((n32 hx - 1).toInt64) ≤ 0 ↔ vL L n < hx := by
        rw [lg_le, n32_pi hh, n64_int (by omega)]
        omega
      rw [if_pos (ms.2.1.mpr hk), pw_g, e54, pw_if, l1, pw_g, pw_if, l2]
      have four : ¬ (lo ≤ vL L n ∧ vL L n < hx) → eN L lo hx n = 4 := fun q => by unfold eN; rw [if_pos hk, if_neg q]
      refine ⟨i1, fun x => ?_, fun x => ⟨i1, fun y => ?_, fun y => ?_⟩⟩
      · rw [pw_bo]
        refine pw_mono (pm_wrong (e := 4) h hL (by omega)) ?_
        exact fun a ha => bad 4 a (by decide) (four (by omega)) ha
      · have e0 : eN L lo hx n = 0 := by unfold eN; rw [if_pos hk, if_pos ⟨by omega, y⟩]
        unfold f_X12_takeNumber_J70
        have q := hL.k nc (by omega)
        have r1 := rp_at h (show n + 1 ≤ c by omega)
        rw [if_pos (h.f0.2.mpr rfl), pw_let, pw_g, pw_some, sx_y e0, r1.1.2.2.2.1]
        show vp_in (n32 (n + 1) - 1) 1002 ∧ _
        rw [show n32 (n + 1) - 1 = n32 n from n32_sub (b := 1) (by omega), n32_in (by omega), n32_cl (by omega)]
        refine ⟨by omega, r1, ?_⟩
        rw [if_pos rfl]
        show (m.2.1 54 0 n).toInt32 = _
        rw [e54, n64_32 (by omega)]
      · rw [pw_bo]
        refine pw_mono (pm_wrong (e := 4) h hL (by omega)) ?_
        exact fun a ha => bad 4 a (by decide) (four (by omega)) ha
    · rw [if_neg (fun x => hk (ms.2.1.mp x)), pw_bo]
      refine pw_mono (pm_wrong (e := 1) h hL (by omega)) ?_
      exact fun a ha => bad 1 a (by decide) (by unfold eN; rw [if_neg hk]) ha
  · rw [if_neg (fun x => hv (h.f0.1.mp x)), if_neg (fun x => hv (h.f0.1.mp x)), sx_f hv]
    unfold f_X12_takeNumber_J70
    rw [if_neg (fun x => hv (h.f0.2.mp x)), pw_some]
    exact ⟨rp_id h, by rw [if_neg hv]; rfl⟩
