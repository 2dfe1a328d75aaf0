/-! ===== towns and states, as both hold them ===== -/
def kdA (T : Nat → Nat) (p : Nat) : Nat := T (9 + 2 * p)
def byA (T : Nat → Nat) (w : Nat) : Nat := T (57 + 3 * w)
def toA (T : Nat → Nat) (w : Nat) : Nat := T (58 + 3 * w)
def szA (T : Nat → Nat) (w : Nat) : Nat := T (59 + 3 * w)
def barA (T : Nat → Nat) (w : Nat) : Nat := T 4 + (if kdA T (toA T w) = 2 then 3 else 0)
def lwA (T : Nat → Nat) (cd : Nat → List Int32) (l w : Nat) (sore night : Int32) : Int32 := evl (n32 (szA T w), sore, night) (cd l) 0 (fun _ => 0)
def clA (lo hi v : Int32) : Int32 := if v < lo then lo else if hi < v then hi else v
def wordsA (T : Nat → Nat) (cd : Nat → List Int32) (w : Nat) (sore night : Int32) : Int32 := clA 0 99 (sore - clA 0 99 (lwA T cd 0 w sore night))
def healA (T : Nat → Nat) (cd : Nat → List Int32) (w : Nat) (sore night : Int32) : Int32 := clA 0 99 (sore - clA (-9) 9 (lwA T cd 1 w sore night))
def burnA (T : Nat → Nat) (cd : Nat → List Int32) (w : Nat) (sore night : Int32) : Int32 := if kdA T (toA T w) = 3 then 2 * clA 0 30 (lwA T cd 2 w sore night) else clA 0 30 (lwA T cd 2 w sore night)
def tOK (T : Nat → Nat) : Prop := (T 0 ≤ 6 ∧ T 2 ≤ 8 ∧ T 3 ≤ 4 ∧ T 4 ≤ 30 ∧ T 5 ≤ 10) ∧ (∀ p, p < T 0 → kdA T p ≤ 3 ∧ T (10 + 2 * p) ≤ 999) ∧ (∀ w, w < T 2 → byA T w < T 0 ∧ toA T w < T 0 ∧ byA T w ≠ toA T w ∧ 1 ≤ szA T w ∧ szA T w ≤ 9) ∧ (∀ k, k < T 3 → T (81 + 2 * k) < T 0 ∧ T (82 + 2 * k) < T 0) ∧ lanOK T
def cdOK (cd : Nat → List Int32) : Prop := ∀ l, l < 3 → okc 40 (cd l) 0 1
def cTw (m : mi_M) (c : Nat) (T : Nat → Nat) : Prop := (m.1 8 c 0 = n32 (T 0) ∧ m.1 8 c 1 = n32 (T 2) ∧ (0 < T 2 → m.1 8 c 2 = n32 (T 4)) ∧ m.1 8 c 3 = n32 (T 5) ∧ m.1 9 c 0 = n32 (T 1) ∧ m.1 9 c 1 = n32 (T 3)) ∧ (∀ p, p < T 0 → m.1 39 c p = n32 (kdA T p) ∧ m.1 40 c p = n32 (T (10 + 2 * p))) ∧ (∀ w, w < T 2 → m.1 41 c w = n32 (byA T w) ∧ m.1 42 c w = n32 (toA T w) ∧ m.1 43 c w = n32 (szA T w)) ∧ (∀ k, k < T 3 → m.1 45 c k = n32 (T (81 + 2 * k)) ∧ m.1 46 c k = n32 (T (82 + 2 * k)))
/-- a town as the developers' holds it -/
def cT (m : mi_M) (c : Nat) (T : Nat → Nat) (cd : Nat → List Int32) : Prop := (cTw m c T ∧ tOK T ∧ cdOK cd) ∧ cWay m c T ∧ ∀ l, l < 3 → 0 < T 2 → claw m c l (cd l)
def dfA (l : Nat) : List Int32 := if l = 0 then [2] else if l = 1 then [1] else [-1]
/-- a town as the reference holds it -/
def mT (m : mi_M) (T : Nat → Nat) (cd : Nat → List Int32) : Prop := (mTw m T ∧ tOK T ∧ cdOK cd) ∧ ∀ l, l < 3 → (m.1 56 0 (6 + l) = -1 ∧ cd l = dfA l) ∨ ∃ q, m.1 56 0 (6 + l) = n32 q ∧ mlaw m q (cd l)
/-- the cells of the town c -/
def cTk (c k i : Nat) : Prop := (k = 8 ∨ k = 9 ∨ k = 39 ∨ k = 40 ∨ k = 41 ∨ k = 42 ∨ k = 43 ∨ k = 45 ∨ k = 46 ∨ k = 16 ∨ k = 17 ∨ k = 18 ∨ k = 47 ∨ k = 109) ∧ i = c ∨ k = 76 ∧ 6 * c ≤ i ∧ i < 6 * c + 6
theorem cTw.mv {m m' : mi_M} {c : Nat} {T : Nat → Nat} {P : Nat → Nat → Nat → Prop} (h : cTw m c T) (hk : kp P m m') (hp : ∀ k i p, P k i p → (k = 8 ∨ k = 9 ∨ k = 39 ∨ k = 40 ∨ k = 41 ∨ k = 42 ∨ k = 43 ∨ k = 45 ∨ k = 46) → i = c → False) : cTw m' c T := by
  obtain ⟨⟨h1, h2, h3, h4, h5, h6⟩, h7, h8, h9⟩ := h
  refine ⟨⟨?_, ?_, ?_, ?_, ?_, ?_⟩, fun p hq => ?_, fun w hw => ?_, fun q hq => ?_⟩
  · rw [hk.1 8 c 0 (fun x => hp _ _ _ x (by omega) rfl)]; exact h1
  · rw [hk.1 8 c 1 (fun x => hp _ _ _ x (by omega) rfl)]; exact h2
  · rw [hk.1 8 c 2 (fun x => hp _ _ _ x (by omega) rfl)]; exact h3
  · rw [hk.1 8 c 3 (fun x => hp _ _ _ x (by omega) rfl)]; exact h4
  · rw [hk.1 9 c 0 (fun x => hp _ _ _ x (by omega) rfl)]; exact h5
  · rw [hk.1 9 c 1 (fun x => hp _ _ _ x (by omega) rfl)]; exact h6
  · rw [hk.1 39 c p (fun x => hp _ _ _ x (by omega) rfl), hk.1 40 c p (fun x => hp _ _ _ x (by omega) rfl)]; exact h7 p hq
  · rw [hk.1 41 c w (fun x => hp _ _ _ x (by omega) rfl), hk.1 42 c w (fun x => hp _ _ _ x (by omega) rfl), hk.1 43 c w (fun x => hp _ _ _ x (by omega) rfl)]; exact h8 w hw
  · rw [hk.1 45 c q (fun x => hp _ _ _ x (by omega) rfl), hk.1 46 c q (fun x => hp _ _ _ x (by omega) rfl)]; exact h9 q hq
theorem claw.mv {m m' : mi_M} {c l : Nat} {code : List Int32} {P : Nat → Nat → Nat → Prop} (h : claw m c l code) (hk : kp P m m') (hp : ∀ k i p, P k i p → (k = 16 ∨ k = 17 ∨ k = 18) → i = c → False) : claw m' c l code := by
  obtain ⟨f, h1, h2, h3, h4⟩ := h
  refine ⟨f, ?_, ?_, h3, fun k hh => ?_⟩
  · rw [hk.1 17 c l (fun x => hp _ _ _ x (by omega) rfl)]; exact h1
  · rw [hk.1 18 c l (fun x => hp _ _ _ x (by omega) rfl)]; exact h2
  · rw [hk.1 16 c _ (fun x => hp _ _ _ x (by omega) rfl)]; exact h4 k hh
theorem cWay.mv {m m' : mi_M} {c : Nat} {T : Nat → Nat} {P : Nat → Nat → Nat → Prop} (h : cWay m c T) (hk : kp P m m') (hp : ∀ k i p, P k i p → ((k = 47 ∨ k = 109) ∧ i = c ∨ k = 76 ∧ 6 * c ≤ i ∧ i < 6 * c + 6) → False) : cWay m' c T := by
  refine ⟨fun i j hi hj => ?_, fun b hb hkb i j hi hj => ?_⟩
  · rw [hk.1 76 _ j (fun x => hp _ _ _ x (by omega))]; exact h.1 i j hi hj
  · rw [hk.1 47 c _ (fun x => hp _ _ _ x (by omega))]
    rw [hk.2.1 9 c 6 (fun x => hp _ _ _ x (by omega))] at hkb
    exact h.2 b hb hkb i j hi hj
theorem cT.mv {m m' : mi_M} {c : Nat} {T : Nat → Nat} {cd : Nat → List Int32} {P : Nat → Nat → Nat → Prop} (h : cT m c T cd) (hk : kp P m m') (hp : ∀ k i p, P k i p → cTk c k i → False) : cT m' c T cd := by
  refine ⟨⟨h.1.1.mv hk (fun k i p a b d => hp k i p a (by unfold cTk; omega)), h.1.2⟩, h.2.1.mv hk (fun k i p a b => hp k i p a (by unfold cTk; omega)), fun l hl hz => (h.2.2 l hl hz).mv hk (fun k i p a b d => hp k i p a (by unfold cTk; omega))⟩
theorem mT.mv {m m' : mi_M} {T : Nat → Nat} {cd : Nat → List Int32} {P : Nat → Nat → Nat → Prop} (h : mT m T cd) (hk : kp P m m') (hp : ∀ k i p, P k i p → (k = 56 ∧ p < 100 ∨ (k = 57 ∨ k = 58) ∧ p < 1100) → i = 0 → False) : mT m' T cd := by
  refine ⟨⟨h.1.1.mv hk (fun p hp2 x => hp _ _ _ x (by omega) rfl), h.1.2⟩, fun l hl => ?_⟩
  rw [hk.1 56 0 (6 + l) (fun x => hp _ _ _ x (by omega) rfl)]
  rcases h.2 l hl with hh | ⟨q, h1, h2, h3, h4⟩
  · exact Or.inl hh
  · refine Or.inr ⟨q, h1, h2, fun k hk2 => ?_, ?_⟩
    · rw [hk.1 57 0 _ (fun x => hp _ _ _ x (by omega) rfl), hk.1 58 0 _ (fun x => hp _ _ _ x (by omega) rfl)]
      exact h3 k hk2
    · rw [hk.1 57 0 _ (fun x => hp _ _ _ x (by omega) rfl)]
      exact h4
def cSt (m : mi_M) (i : Nat) (S : Nat → Int32) : Prop := (m.1 5 i 0 = S 0 ∧ m.1 5 i 1 = S 1 ∧ m.1 5 i 2 = n32 (bs (fun w => S (22 + w) == 1) 8) ∧ m.1 5 i 3 = n32 (bs (fun w => S (30 + w) == 1) 8)) ∧ (∀ p, p < 6 → m.1 35 i p = S (2 + p)) ∧ (∀ p, p < 6 → m.1 36 i p = S (8 + p)) ∧ (∀ w, w < 8 → m.1 34 i w = S (14 + w))
def mSt (m : mi_M) (b : Nat) (S : Nat → Int32) : Prop := ∀ q, q < 38 → m.1 64 0 (b + q) = S q
def s6 (C : Nat → Nat) : Nat := C 0 + C 1 + C 2 + C 3 + C 4 + C 5
def sOK (T : Nat → Nat) (S : Nat → Int32) : Prop := (∀ p, p < 6 → ∃ n, n ≤ 99 ∧ S (2 + p) = n32 n) ∧ (∀ p, p < 6 → T 0 ≤ p → S (2 + p) = 0 ∧ S (8 + p) = 0) ∧ (∃ C : Nat → Nat, s6 C ≤ 5994 ∧ ∀ p, p < 6 → S (8 + p) = n32 (C p)) ∧ (∀ w, w < 8 → ∃ n, n ≤ 99 ∧ S (14 + w) = n32 n) ∧ (∀ w, w < 8 → (S (22 + w) = 0 ∨ S (22 + w) = 1) ∧ (S (30 + w) = 0 ∨ S (30 + w) = 1)) ∧ (∀ w, w < 8 → T 2 ≤ w → S (22 + w) = 0 ∧ S (30 + w) = 0)
theorem cSt.mv {m m' : mi_M} {i : Nat} {S : Nat → Int32} {P : Nat → Nat → Nat → Prop} (h : cSt m i S) (hk : kp P m m') (hp : ∀ k j p, P k j p → (k = 5 ∨ k = 34 ∨ k = 35 ∨ k = 36) → j = i → False) : cSt m' i S := by
  obtain ⟨⟨h1, h2, h3, h4⟩, h5, h6, h7⟩ := h
  refine ⟨⟨?_, ?_, ?_, ?_⟩, fun p hq => ?_, fun p hq => ?_, fun w hq => ?_⟩
  · rw [hk.1 5 i 0 (fun x => hp _ _ _ x (by omega) rfl)]; exact h1
  · rw [hk.1 5 i 1 (fun x => hp _ _ _ x (by omega) rfl)]; exact h2
  · rw [hk.1 5 i 2 (fun x => hp _ _ _ x (by omega) rfl)]; exact h3
  · rw [hk.1 5 i 3 (fun x => hp _ _ _ x (by omega) rfl)]; exact h4
  · rw [hk.1 35 i p (fun x => hp _ _ _ x (by omega) rfl)]; exact h5 p hq
  · rw [hk.1 36 i p (fun x => hp _ _ _ x (by omega) rfl)]; exact h6 p hq
  · rw [hk.1 34 i w (fun x => hp _ _ _ x (by omega) rfl)]; exact h7 w hq
theorem mSt.mv {m m' : mi_M} {b : Nat} {S : Nat → Int32} {P : Nat → Nat → Nat → Prop} (h : mSt m b S) (hk : kp P m m') (hp : ∀ p, P 64 0 p → b ≤ p → p < b + 38 → False) : mSt m' b S := fun q hq => by rw [hk.1 64 0 _ (fun x => hp _ x (by omega) (by omega))]; exact h q hq
/-- what the developers' may change when it weighs: stacks, costs -/
abbrev pcE (c k i : Nat) : Prop := (k = 19 ∨ k = 47 ∨ k = 109) ∧ i = c
/-- what the reference may change when it weighs -/
abbrev pmE (k i : Nat) : Prop := (k = 62 ∨ k = 63 ∨ k = 66 ∨ k = 67 ∨ k = 68) ∧ i = 0
theorem cT.st {m m' : mi_M} {c : Nat} {T : Nat → Nat} {cd : Nat → List Int32} (h : cT m c T cd) (hk : kp (fun k i _ => k = 19 ∧ i = c) m m') : cT m' c T cd := h.mv hk (fun k i p a b => by unfold cTk at b; omega)
theorem cT.wy {m m' : mi_M} {c : Nat} {T : Nat → Nat} {cd : Nat → List Int32} (h : cT m c T cd) (hw : cWay m' c T) (hk : kp (fun k i _ => (k = 47 ∨ k = 109) ∧ i = c) m m') : cT m' c T cd :=
  ⟨⟨h.1.1.mv hk (fun k i p a b d => by omega), h.1.2⟩, hw, fun l hl hz => (h.2.2 l hl hz).mv hk (fun k i p a b d => by omega)⟩
/-! numbers between bounds -/
theorem i32_lt {x y : Int32} : x < y ↔ x.toInt < y.toInt := Int32.lt_iff_toInt_lt
theorem i32_le {x y : Int32} : x ≤ y ↔ x.toInt ≤ y.toInt := Int32.le_iff_toInt_le
theorem clA_in {lo hi v : Int32} (h : lo ≤ hi) : lo ≤ clA lo hi v ∧ clA lo hi v ≤ hi := by
  unfold clA
  simp only [i32_lt, i32_le] at *
  split
  · omega
  · split <;> omega
theorem clA_n {n : Nat} (hn : n < 2147483648) (v : Int32) : ∃ k, k ≤ n ∧ clA 0 (n32 n) v = n32 k := by
  have h0 : (0 : Int32) ≤ n32 n := n32_ge0 hn
  obtain ⟨h1, h2⟩ := clA_in (v := v) h0
  obtain ⟨k, hk, e⟩ := n32_of h1
  rw [e, n32_le hk hn] at h2
  exact ⟨k, h2, e⟩
theorem pc_clamp {v lo hi : Int32} {m : mi_M} (h : lo ≤ hi) : f_X11_clamp v lo hi m = some (clA lo hi v) := by
  unfold f_X11_clamp
  rw [pe_let, pe_let]
  congr 1
  unfold clA
  simp only [i32_lt, i32_le] at *
  repeat' split
  all_goals first | rfl | omega | (apply Int32.toInt_inj.mp; omega)
theorem pm_atMost {v : Int32} {m : mi_M} : f_X12_atMost v m = some (clA 0 99 v) := by
  unfold f_X12_atMost f_X12_atMost_J20 clA
  simp only [i32_lt, i32_le]
  repeat' split
  all_goals first | rfl | omega
/-- 0 at least: as the clamp, of what is 99 at most -/
theorem max0 {a : Nat} (ha : a ≤ 99) {v : Int32} (h0 : 0 ≤ v) (h9 : v ≤ 99) : (if 0 < n32 a - v then n32 a - v else 0) = clA 0 99 (n32 a - v) := by
  obtain ⟨k, hk, rfl⟩ := n32_of h0
  have h9 := (n32_le (b := 99) hk (by omega)).mp h9
  have e : (n32 a - n32 k).toInt = (a : Int) - k := by
    rw [Int32.toInt_sub, n32_int (by omega), n32_int (by omega), Int.bmod_eq_of_le] <;> omega
  have e0 : (0 : Int32).toInt = 0 := by decide
  have e9 : (99 : Int32).toInt = 99 := by decide
  unfold clA
  simp only [i32_lt, i32_le]
  repeat' split
  all_goals first | rfl | omega | (apply Int32.toInt_inj.mp; omega)
theorem min99 {a b : Nat} (ha : a < 1000000) (hb : b < 1000000) : (if n32 a + n32 b < 99 then n32 a + n32 b else 99) = clA 0 99 (n32 a + n32 b) := by
  rw [n32_add]
  have e : (n32 (a + b)).toInt = (a : Int) + b := by rw [n32_int (by omega)]; omega
  have e0 : (0 : Int32).toInt = 0 := by decide
  have e9 : (99 : Int32).toInt = 99 := by decide
  unfold clA
  simp only [i32_lt, i32_le]
  repeat' split
  all_goals first | rfl | omega | (apply Int32.toInt_inj.mp; omega)
