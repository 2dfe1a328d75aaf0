/-! ===== what holds between the two, from call to call ===== -/
def pTape (m : mi_M) : Prop := ∃ n, n ≤ 1000 ∧ m.1 6 0 0 = n32 n ∧ m.1 12 0 2 = n32 n ∧ ∀ i, i < n → ∃ s, (s = 10 ∨ (32 ≤ s ∧ s ≤ 126)) ∧ m.1 37 0 i = n32 s ∧ m.1 51 0 i = n32 s
def tabW : List Int64 := [1119812451, 6395136, 609728, 44038517, 755, 975695, 1166843, 2793, 1177862, 43890307, 15248385, 4837214, 26073, 367711, 2083, 26704030, 30596128, 36689632, 35672571, 1143701655, 19741, 1891, 573, 22565491, 983613, 988049129]
def pWords (m : mi_M) : Prop := ∀ w, w < 26 → m.2.1 55 0 w = tabW.getD w 0
def pYear (m : mi_M) (y W : Nat) : Prop := ∃ n, n ≤ 30 ∧ m.1 10 y 0 = n32 n ∧ m.1 61 0 0 = n32 n ∧ ∀ k, k < n → ∃ d w g, (d ≤ 3 ∧ (d < 3 → w < W) ∧ g ≤ 99) ∧ (m.1 48 y k = n32 d ∧ m.1 49 y k = n32 w ∧ m.1 50 y k = n32 g) ∧ m.1 61 0 (1 + 3 * k) = n32 d ∧ m.1 61 0 (2 + 3 * k) = n32 w ∧ m.1 61 0 (3 + 3 * k) = n32 g
def pState (m : mi_M) (T : Nat → Nat) (i b : Nat) : Prop := ∃ S, cSt m i S ∧ mSt m b S ∧ sOK T S
def pSights (m : mi_M) (T : Nat → Nat) (s b : Nat) : Prop := ∃ n, n ≤ 8 ∧ m.1 4 s 0 = n32 n ∧ m.1 64 0 (b + 38) = n32 n ∧ ∀ k, k < n → ∃ l g u, (l < T 0 ∧ g ≤ 9 ∧ u ≤ 1) ∧ (m.1 31 s k = n32 l ∧ m.1 32 s k = n32 g ∧ m.1 33 s k = n32 u) ∧ m.1 64 0 (b + (39 + 3 * k)) = n32 l ∧ m.1 64 0 (b + (40 + 3 * k)) = n32 g ∧ m.1 64 0 (b + (41 + 3 * k)) = n32 u
def pUndo (m : mi_M) (T : Nat → Nat) : Prop := ∃ h nx, h ≤ 16 ∧ nx < 16 ∧ m.1 3 0 0 = n32 h ∧ m.1 3 0 1 = n32 nx ∧ m.1 12 0 22 = n32 h ∧ ∀ j, j < h → pState m T (1 + (nx + 16 - h + j) % 16) (63 * (5 + j))
def pMarks (m : mi_M) (T : Nat → Nat) : Prop := ∃ L : Nat → Bool, m.1 3 0 2 = n32 (bs L 4) ∧ ∀ k, k < 4 → m.1 65 0 k = (if L k then 1 else 0) ∧ (L k = true → pState m T (17 + k) (63 * (1 + k)) ∧ pSights m T (1 + k) (63 * (1 + k)))
def pRefs (m : mi_M) (c y : Nat) : Prop := c < 2 ∧ y < 2 ∧ m.2.2 0 = c ∧ m.2.2 1 = 1 - c ∧ m.2.2 2 = y ∧ m.2.2 3 = 1 - y ∧ m.1 12 0 24 = 0
def RelX (m : mi_M) (T : Nat → Nat) (cd : Nat → List Int32) (c y : Nat) : Prop := pRefs m c y ∧ cT m c T cd ∧ mT m T cd ∧ pTape m ∧ pWords m ∧ pYear m y (T 2) ∧ pState m T 0 0 ∧ pSights m T 0 0 ∧ pUndo m T ∧ pMarks m T
def Rel (m : mi_M) : Prop := ∃ T cd c y, RelX m T cd c y
/-! each of these under a frame -/
theorem pTape.mv {m m' : mi_M} {P : Nat → Nat → Nat → Prop} (h : pTape m) (hk : kp P m m') (hp : ∀ k i p, P k i p → (k = 6 ∧ p = 0 ∨ k = 12 ∧ p = 2 ∨ k = 37 ∨ k = 51) → i = 0 → False) : pTape m' := by
  obtain ⟨n, h1, h2, h3, h4⟩ := h
  refine ⟨n, h1, ?_, ?_, fun i hi => ?_⟩
  · rw [hk.1 6 0 0 (fun x => hp _ _ _ x (by omega) rfl)]; exact h2
  · rw [hk.1 12 0 2 (fun x => hp _ _ _ x (by omega) rfl)]; exact h3
  · rw [hk.1 37 0 i (fun x => hp _ _ _ x (by omega) rfl), hk.1 51 0 i (fun x => hp _ _ _ x (by omega) rfl)]; exact h4 i hi
theorem pWords.mv {m m' : mi_M} {P : Nat → Nat → Nat → Prop} (h : pWords m) (hk : kp P m m') (hp : ∀ i p, P 155 i p → False) : pWords m' := fun w hw => by
  rw [hk.2.1 55 0 w (fun x => hp _ _ x)]
  exact h w hw
theorem pYear.mv {m m' : mi_M} {y W : Nat} {P : Nat → Nat → Nat → Prop} (h : pYear m y W) (hk : kp P m m') (hp : ∀ k i p, P k i p → ((k = 10 ∨ k = 48 ∨ k = 49 ∨ k = 50) ∧ i = y ∨ k = 61 ∧ i = 0 ∧ p < 100) → False) : pYear m' y W := by
  obtain ⟨n, h1, h2, h3, h4⟩ := h
  refine ⟨n, h1, ?_, ?_, fun k hk2 => ?_⟩
  · rw [hk.1 10 y 0 (fun x => hp _ _ _ x (by omega))]; exact h2
  · rw [hk.1 61 0 0 (fun x => hp _ _ _ x (by omega))]; exact h3
  · rw [hk.1 48 y k (fun x => hp _ _ _ x (by omega)), hk.1 49 y k (fun x => hp _ _ _ x (by omega)), hk.1 50 y k (fun x => hp _ _ _ x (by omega)), hk.1 61 0 _ (fun x => hp _ _ _ x (by omega)), hk.1 61 0 _ (fun x => hp _ _ _ x (by omega)), hk.1 61 0 _ (fun x => hp _ _ _ x (by omega))]
    exact h4 k hk2
theorem pState.mv {m m' : mi_M} {T : Nat → Nat} {i b : Nat} {P : Nat → Nat → Nat → Prop} (h : pState m T i b) (hk : kp P m m') (hp : ∀ k j p, P k j p → ((k = 5 ∨ k = 34 ∨ k = 35 ∨ k = 36) ∧ j = i ∨ k = 64 ∧ j = 0 ∧ b ≤ p ∧ p < b + 38) → False) : pState m' T i b := by
  obtain ⟨S, h1, h2, h3⟩ := h
  exact ⟨S, h1.mv hk (fun k j p a x y => hp k j p a (Or.inl ⟨x, y⟩)), h2.mv hk (fun p a x y => hp 64 0 p a (Or.inr ⟨rfl, rfl, x, y⟩)), h3⟩
theorem pSights.mv {m m' : mi_M} {T : Nat → Nat} {s b : Nat} {P : Nat → Nat → Nat → Prop} (h : pSights m T s b) (hk : kp P m m') (hp : ∀ k j p, P k j p → ((k = 4 ∨ k = 31 ∨ k = 32 ∨ k = 33) ∧ j = s ∨ k = 64 ∧ j = 0 ∧ b + 38 ≤ p ∧ p < b + 63) → False) : pSights m' T s b := by
  obtain ⟨n, h1, h2, h3, h4⟩ := h
  refine ⟨n, h1, ?_, ?_, fun k hk2 => ?_⟩
  · rw [hk.1 4 s 0 (fun x => hp _ _ _ x (by omega))]; exact h2
  · rw [hk.1 64 0 _ (fun x => hp _ _ _ x (by omega))]; exact h3
  · rw [hk.1 31 s k (fun x => hp _ _ _ x (by omega)), hk.1 32 s k (fun x => hp _ _ _ x (by omega)), hk.1 33 s k (fun x => hp _ _ _ x (by omega)), hk.1 64 0 _ (fun x => hp _ _ _ x (by omega)), hk.1 64 0 _ (fun x => hp _ _ _ x (by omega)), hk.1 64 0 _ (fun x => hp _ _ _ x (by omega))]
    exact h4 k hk2
theorem pUndo.mv {m m' : mi_M} {T : Nat → Nat} {P : Nat → Nat → Nat → Prop} (h : pUndo m T) (hk : kp P m m') (hp : ∀ k j p, P k j p → (k = 3 ∧ p < 2 ∨ k = 12 ∧ p = 22 ∨ (k = 5 ∨ k = 34 ∨ k = 35 ∨ k = 36) ∧ 1 ≤ j ∧ j ≤ 16 ∨ k = 64 ∧ 315 ≤ p ∧ p < 1323) → False) : pUndo m' T := by
  obtain ⟨n, nx, h1, h2, h3, h4, h5, h6⟩ := h
  refine ⟨n, nx, h1, h2, ?_, ?_, ?_, fun j hj => (h6 j hj).mv hk (fun k j p a b => hp k j p a (by omega))⟩
  · rw [hk.1 3 0 0 (fun x => hp _ _ _ x (by omega))]; exact h3
  · rw [hk.1 3 0 1 (fun x => hp _ _ _ x (by omega))]; exact h4
  · rw [hk.1 12 0 22 (fun x => hp _ _ _ x (by omega))]; exact h5
theorem pMarks.mv {m m' : mi_M} {T : Nat → Nat} {P : Nat → Nat → Nat → Prop} (h : pMarks m T) (hk : kp P m m') (hp : ∀ k j p, P k j p → (k = 3 ∧ p = 2 ∨ k = 65 ∨ (k = 5 ∨ k = 34 ∨ k = 35 ∨ k = 36) ∧ 17 ≤ j ∧ j ≤ 20 ∨ (k = 4 ∨ k = 31 ∨ k = 32 ∨ k = 33) ∧ 1 ≤ j ∨ k = 64 ∧ 63 ≤ p ∧ p < 315) → False) : pMarks m' T := by
  obtain ⟨L, h1, h2⟩ := h
  refine ⟨L, ?_, fun k hk2 => ⟨?_, fun hL => ⟨((h2 k hk2).2 hL).1.mv hk (fun k j p a b => hp k j p a (by omega)), ((h2 k hk2).2 hL).2.mv hk (fun k j p a b => hp k j p a (by omega))⟩⟩⟩
  · rw [hk.1 3 0 2 (fun x => hp _ _ _ x (by omega))]; exact h1
  · rw [hk.1 65 0 k (fun x => hp _ _ _ x (by omega))]; exact (h2 k hk2).1
theorem pRefs.mv {m m' : mi_M} {c y : Nat} {P : Nat → Nat → Nat → Prop} (h : pRefs m c y) (hk : kp P m m') (hp : ¬ P 12 0 24) : pRefs m' c y := by
  obtain ⟨h1, h2, h3, h4, h5, h6, h7⟩ := h
  rw [← hk.2.2] at h3 h4 h5 h6
  exact ⟨h1, h2, h3, h4, h5, h6, by rw [hk.1 12 0 24 hp]; exact h7⟩
/-- the developers' own paper, and its weighing -/
abbrev pXc (c k i : Nat) : Prop := pcE c k i ∨ k = 0 ∨ k = 2 ∨ k = 14 ∨ k = 15 ∨ (20 ≤ k ∧ k ≤ 27) ∨ ((k = 5 ∨ k = 34 ∨ k = 35 ∨ k = 36) ∧ 21 ≤ i)
/-- the reference's own paper -/
abbrev pXm (k i p : Nat) : Prop := (k = 12 ∧ (p = 0 ∨ p = 31 ∨ p = 34 ∨ p = 35 ∨ p = 36)) ∨ pmE k i ∨ (69 ≤ k ∧ k ≤ 75) ∨ (k = 64 ∧ 1323 ≤ p) ∨ k = 112
theorem RelX.sc {m m' : mi_M} {T : Nat → Nat} {cd : Nat → List Int32} {c y : Nat} (h : RelX m T cd c y) (hk : kp (fun k i _ => pXc c k i) m m') (hc : cT m' c T cd) : RelX m' T cd c y := by
  obtain ⟨h1, h2, h3, h4, h5, h6, h7, h8, h9, h10⟩ := h
  have hc2 := h1.1
  exact ⟨h1.mv hk (by omega), hc, h3.mv hk (fun k i p a b d => by omega), h4.mv hk (fun k i p a b d => by omega), h5.mv hk (fun i p a => by omega), h6.mv hk (fun k i p a b => by omega), h7.mv hk (fun k i p a b => by omega), h8.mv hk (fun k i p a b => by omega), h9.mv hk (fun k i p a b => by omega), h10.mv hk (fun k i p a b => by omega)⟩
theorem RelX.sm {m m' : mi_M} {T : Nat → Nat} {cd : Nat → List Int32} {c y : Nat} (h : RelX m T cd c y) (hk : kp (fun k i p => pXm k i p) m m') : RelX m' T cd c y := by
  obtain ⟨h1, h2, h3, h4, h5, h6, h7, h8, h9, h10⟩ := h
  have hc2 := h1.1
  exact ⟨h1.mv hk (by omega), h2.mv hk (fun k i p a b => by unfold cTk at b; omega), h3.mv hk (fun k i p a b d => by omega), h4.mv hk (fun k i p a b d => by omega), h5.mv hk (fun i p a => by omega), h6.mv hk (fun k i p a b => by omega), h7.mv hk (fun k i p a b => by omega), h8.mv hk (fun k i p a b => by omega), h9.mv hk (fun k i p a b => by omega), h10.mv hk (fun k i p a b => by omega)⟩
/-- a call that leaves all as it is but the papers -/
theorem ob_ev {m : mi_M} {T : Nat → Nat} {cd : Nat → List Int32} {c y : Nat} {f1 f2 : mi_M → Option (Int32 × mi_M)} (hR : RelX m T cd c y) (val : Int32) (h1 : wo (f1 m) (fun r => r.1 = val ∧ cT r.2 c T cd ∧ kp (fun k i _ => pXc c k i) m r.2)) (h2 : ∀ m1, RelX m1 T cd c y → (∀ S b, mSt m b S → mSt m1 b S) → wo (f2 m1) (fun r => r.1 = val ∧ kp (fun k i p => pXm k i p) m1 r.2)) : ∃ (r : Int32) (m1 m2 : mi_M), f1 m = some (r, m1) ∧ f2 m1 = some (r, m2) ∧ Rel m2 := by
  obtain ⟨⟨r1, m1⟩, e1, a1, a2, a3⟩ := h1
  simp only at a1 a2 a3
  subst a1
  have hR1 := hR.sc a3 a2
  obtain ⟨⟨r2, m2⟩, e2, b1, b2⟩ := h2 m1 hR1 (fun S b hS => hS.mv a3 (fun p a x y => by omega))
  simp only at b1 b2
  subst b1
  exact ⟨_, m1, m2, e1, e2, T, cd, c, y, hR1.sm b2⟩
theorem ob_rd {m : mi_M} {T : Nat → Nat} {cd : Nat → List Int32} {c y : Nat} {f1 : mi_M → Option Int32} {f2 : mi_M → Option (Int32 × mi_M)} (hR : RelX m T cd c y) (val : Int32) (h1 : f1 m = some val) (h2 : wo (f2 m) (fun r => r.1 = val ∧ kp (fun k i p => pXm k i p) m r.2)) : ∃ (r : Int32) (m2 : mi_M), f1 m = some r ∧ f2 m = some (r, m2) ∧ Rel m2 := by
  obtain ⟨⟨r2, m2⟩, e2, b1, b2⟩ := h2
  simp only at b1 b2
  subst b1
  exact ⟨_, m2, h1, e2, T, cd, c, y, hR.sm b2⟩
theorem kp_thr {m : mi_M} {v : Int32} : kp (fun k i p => pXm k i p) m (mi_wI m 12 0 0 v) := kp.rf.wI (Or.inl ⟨rfl, Or.inl rfl⟩)
theorem n8 {c : Nat} (h : c < 2) : c < mi_n 8 := by
  have : mi_n 8 = 2 := by decide
  omega
theorem n10 {c : Nat} (h : c < 2) : c < mi_n 10 := by
  have : mi_n 10 = 2 := by decide
  omega
