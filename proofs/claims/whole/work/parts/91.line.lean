/-! ===== lines: what both read ===== -/
def upT (T : Nat → Nat) (q v : Nat) : Nat → Nat := fun x => if x = q then v else T x
theorem up_e {T : Nat → Nat} {q v : Nat} : upT T q v q = v := if_pos rfl
theorem up_n {T : Nat → Nat} {q v x : Nat} (h : x ≠ q) : upT T q v x = T x := if_neg h
def upB (T : Nat → Bool) (q : Nat) : Nat → Bool := fun x => if x = q then true else T x
def upC (T : Nat → List Int32) (q : Nat) (v : List Int32) : Nat → List Int32 := fun x => if x = q then v else T x
def eP (L : List Nat) (nm : Nat → Nat) (k n : Nat) : Nat := if kD L n = 2 ∧ 23 ≤ wX L n then (if fdN L nm k n < k then 3 else 0) else 1
/-- the cells of the town, where the names stand, what was told once, the laws -/
abbrev PS : Type := (Nat → Nat) × (Nat → Nat) × (Nat → Bool) × (Nat → List Int32)
def lnP (L : List Nat) (n : Nat) (P : PS) : (Nat × Nat) × PS := (sx L (eS L 59) (sx L (eN L 0 1000) (sx L (eW L 1) (sx L (eK L) (sx L (eP L P.2.1 (P.1 0)) (n + 1, 0))))), (upT (upT (upT P.1 (9 + 2 * P.1 0) (wX L (n + 2) - 16)) (10 + 2 * P.1 0) (vL L (n + 4))) 0 (P.1 0 + 1), upT P.2.1 (P.1 0) (n + 1), P.2.2))
def lnL (L : List Nat) (n : Nat) (P : PS) : (Nat × Nat) × PS := (sx L (eS L 59) (sx L (eN L 1 31) (sx L (eQ L P.2.1 P.1 (P.1 0) (fdN L P.2.1 (P.1 0) (n + 1))) (sx L (eO L P.2.1 (P.1 0) 99) (n + 1, 0)))), (upT (upT (upT P.1 (21 + 6 * fdN L P.2.1 (P.1 0) (n + 1) + fdN L P.2.1 (P.1 0) (n + 2)) (vL L (n + 3))) (21 + 6 * fdN L P.2.1 (P.1 0) (n + 2) + fdN L P.2.1 (P.1 0) (n + 1)) (vL L (n + 3))) 1 (P.1 1 + 1), P.2))
def lnW (L : List Nat) (n : Nat) (P : PS) : (Nat × Nat) × PS := (sx L (eS L 59) (sx L (eN L 1 10) (sx L (eW L 5) (sx L (eO L P.2.1 (P.1 0) (fdN L P.2.1 (P.1 0) (n + 1))) (sx L (eW L 4) (sx L (eO L P.2.1 (P.1 0) 99) (n + 1, 0)))))), (upT (upT (upT (upT P.1 (57 + 3 * P.1 2) (fdN L P.2.1 (P.1 0) (n + 1))) (58 + 3 * P.1 2) (fdN L P.2.1 (P.1 0) (n + 3))) (59 + 3 * P.1 2) (vL L (n + 5))) 2 (P.1 2 + 1), P.2))
def lnK (L : List Nat) (n : Nat) (P : PS) : (Nat × Nat) × PS := (sx L (eS L 59) (sx L (eO L P.2.1 (P.1 0) (fdN L P.2.1 (P.1 0) (n + 1))) (sx L (eW L 4) (sx L (eO L P.2.1 (P.1 0) 99) (n + 1, 0)))), (upT (upT (upT P.1 (81 + 2 * P.1 3) (fdN L P.2.1 (P.1 0) (n + 1))) (82 + 2 * P.1 3) (fdN L P.2.1 (P.1 0) (n + 3))) 3 (P.1 3 + 1), P.2))
/-- bar (b = 0), wind (b = 1) -/
def lnB (L : List Nat) (n b : Nat) (P : PS) : (Nat × Nat) × PS := (sx L (eS L 59) (sx L (eN L 0 (if b = 0 then 31 else 11)) (n + 1, 0)), (upT P.1 (4 + b) (vL L (n + 1)), P.2.1, upB P.2.2.1 b, P.2.2.2))
def lnE (L : List Nat) (l : Nat) (P : PS) (r : Option ((Nat × Nat) ⊕ (Nat × List Int32))) : (Nat × Nat) × PS :=
  match r with
  | some (.inr (n1, c1)) => (sx L (eS L 59) (n1, 0), (P.1, P.2.1, upB P.2.2.1 (2 + l), upC P.2.2.2 l c1))
  | some (.inl (k, nf)) => ((nf, k + 16 * plT L nf), P)
  | none => ((0, 1), P)
def lnO (L : List Nat) (n b : Nat) (P : PS) : (Nat × Nat) × PS := if P.2.2.1 b = true then ((n, 3 + 16 * plT L n), P) else if b < 2 then lnB L n b P else lnE L (b - 2) P (pt L 17000 0 0 (n + 1))
def ln (L : List Nat) (n : Nat) (P : PS) : (Nat × Nat) × PS :=
  if wX L n = 0 then (if P.1 0 = 6 then ((n, 5 + 16 * plT L n), P) else lnP L n P)
  else if wX L n = 2 then lnL L n P
  else if wX L n = 3 then (if P.1 2 = 8 then ((n, 5 + 16 * plT L n), P) else lnW L n P)
  else if wX L n = 6 then (if P.1 3 = 4 then ((n, 5 + 16 * plT L n), P) else lnK L n P)
  else if 7 ≤ wX L n ∧ wX L n ≤ 11 then lnO L n (wX L n - 7) P
  else ((n, 1 + 16 * plT L n), P)
theorem sx_0 {L : List Nat} {e : Nat → Nat} {s : Nat × Nat} (h : (sx L e s).2 = 0) : s.2 = 0 ∧ e s.1 = 0 ∧ sx L e s = (s.1 + 1, 0) := by
  obtain ⟨n, v⟩ := s
  by_cases hv : v = 0
  · subst hv
    by_cases he : e n = 0
    · exact ⟨rfl, he, sx_y he⟩
    · rw [sx_n he] at h
      have h : e n + 16 * plT L n = 0 := h
      omega
  · rw [sx_f hv] at h
    exact absurd h hv
theorem sx_k {L : List Nat} {e : Nat → Nat} {s : Nat × Nat} {k : Nat} (h : (sx L e s).2 = 0) (hs : s = (k, 0)) : e k = 0 ∧ sx L e s = (k + 1, 0) := by
  subst hs
  exact (sx_0 h).2
def pOK (P : PS) : Prop := tOK P.1 ∧ cdOK P.2.2.2
theorem eN_0 {L : List Nat} {lo hx n : Nat} (h : eN L lo hx n = 0) : kD L n = 3 ∧ lo ≤ vL L n ∧ vL L n < hx := by
  unfold eN at h
  by_cases k : kD L n = 3
  · rw [if_pos k] at h
    by_cases q : lo ≤ vL L n ∧ vL L n < hx
    · exact ⟨k, q⟩
    · rw [if_neg q] at h; omega
  · rw [if_neg k] at h; omega
theorem eK_0 {L : List Nat} {n : Nat} (h : eK L n = 0) : 16 ≤ wX L n ∧ wX L n < 20 := by
  unfold eK at h
  by_cases q : 16 ≤ wX L n ∧ wX L n < 20
  · exact q
  · rw [if_neg q] at h; omega
theorem eW_0 {L : List Nat} {w n : Nat} (h : eW L w n = 0) : wX L n = w := by
  unfold eW at h
  by_cases q : wX L n = w
  · exact q
  · rw [if_neg q] at h; omega
theorem eS_0 {L : List Nat} {c n : Nat} (h : eS L c n = 0) : kD L n = 4 ∧ vL L n = c := by
  unfold eS at h
  by_cases q : kD L n = 4 ∧ vL L n = c
  · exact q
  · rw [if_neg q] at h; omega
theorem eQ_0 {L : List Nat} {nm T : Nat → Nat} {k a n : Nat} (h : eQ L nm T k a n = 0) : eO L nm k 99 n = 0 ∧ fdN L nm k n ≠ a ∧ T (21 + 6 * a + fdN L nm k n) = 0 := by
  unfold eQ at h
  by_cases q : eO L nm k 99 n = 0
  · rw [if_pos q] at h
    by_cases z : fdN L nm k n = a ∨ 0 < T (21 + 6 * a + fdN L nm k n)
    · rw [if_pos z] at h; omega
    · exact ⟨q, by omega, by omega⟩
  · rw [if_neg q] at h
    exact absurd h q
theorem eP_0 {L : List Nat} {nm : Nat → Nat} {k n : Nat} (h : eP L nm k n = 0) : kD L n = 2 ∧ 23 ≤ wX L n ∧ fdN L nm k n = k := by
  unfold eP at h
  have := fnd_le (L := L) (nm := nm) (k := k) (n := n)
  by_cases q : kD L n = 2 ∧ 23 ≤ wX L n
  · rw [if_pos q] at h
    by_cases z : fdN L nm k n < k
    · rw [if_pos z] at h; omega
    · exact ⟨q.1, q.2, by omega⟩
  · rw [if_neg q] at h; omega
theorem lnP_0 {L : List Nat} {n : Nat} {P : PS} (h : (lnP L n P).1.2 = 0) : eP L P.2.1 (P.1 0) (n + 1) = 0 ∧ eK L (n + 2) = 0 ∧ eW L 1 (n + 3) = 0 ∧ eN L 0 1000 (n + 4) = 0 ∧ eS L 59 (n + 5) = 0 ∧ (lnP L n P).1 = (n + 6, 0) := by
  have a1 := (sx_0 h).1
  have b1 := (sx_0 a1).1
  have c1 := (sx_0 b1).1
  have d1 := (sx_0 c1).1
  obtain ⟨x4, y4⟩ := sx_k d1 rfl
  obtain ⟨x3, y3⟩ := sx_k c1 y4
  obtain ⟨x2, y2⟩ := sx_k b1 y3
  obtain ⟨x1, y1⟩ := sx_k a1 y2
  obtain ⟨x0, y0⟩ := sx_k h y1
  exact ⟨x4, x3, x2, x1, x0, y0⟩
theorem lnL_0 {L : List Nat} {n : Nat} {P : PS} (h : (lnL L n P).1.2 = 0) : eO L P.2.1 (P.1 0) 99 (n + 1) = 0 ∧ eQ L P.2.1 P.1 (P.1 0) (fdN L P.2.1 (P.1 0) (n + 1)) (n + 2) = 0 ∧ eN L 1 31 (n + 3) = 0 ∧ eS L 59 (n + 4) = 0 ∧ (lnL L n P).1 = (n + 5, 0) := by
  have a1 := (sx_0 h).1
  have b1 := (sx_0 a1).1
  have c1 := (sx_0 b1).1
  obtain ⟨x3, y3⟩ := sx_k c1 rfl
  obtain ⟨x2, y2⟩ := sx_k b1 y3
  obtain ⟨x1, y1⟩ := sx_k a1 y2
  obtain ⟨x0, y0⟩ := sx_k h y1
  exact ⟨x3, x2, x1, x0, y0⟩
theorem lnW_0 {L : List Nat} {n : Nat} {P : PS} (h : (lnW L n P).1.2 = 0) : eO L P.2.1 (P.1 0) 99 (n + 1) = 0 ∧ eW L 4 (n + 2) = 0 ∧ eO L P.2.1 (P.1 0) (fdN L P.2.1 (P.1 0) (n + 1)) (n + 3) = 0 ∧ eW L 5 (n + 4) = 0 ∧ eN L 1 10 (n + 5) = 0 ∧ eS L 59 (n + 6) = 0 ∧ (lnW L n P).1 = (n + 7, 0) := by
  have a1 := (sx_0 h).1
  have b1 := (sx_0 a1).1
  have c1 := (sx_0 b1).1
  have d1 := (sx_0 c1).1
  have e1 := (sx_0 d1).1
  obtain ⟨x5, y5⟩ := sx_k e1 rfl
  obtain ⟨x4, y4⟩ := sx_k d1 y5
  obtain ⟨x3, y3⟩ := sx_k c1 y4
  obtain ⟨x2, y2⟩ := sx_k b1 y3
  obtain ⟨x1, y1⟩ := sx_k a1 y2
  obtain ⟨x0, y0⟩ := sx_k h y1
  exact ⟨x5, x4, x3, x2, x1, x0, y0⟩
theorem lnK_0 {L : List Nat} {n : Nat} {P : PS} (h : (lnK L n P).1.2 = 0) : eO L P.2.1 (P.1 0) 99 (n + 1) = 0 ∧ eW L 4 (n + 2) = 0 ∧ eO L P.2.1 (P.1 0) (fdN L P.2.1 (P.1 0) (n + 1)) (n + 3) = 0 ∧ eS L 59 (n + 4) = 0 ∧ (lnK L n P).1 = (n + 5, 0) := by
  have a1 := (sx_0 h).1
  have b1 := (sx_0 a1).1
  have c1 := (sx_0 b1).1
  obtain ⟨x3, y3⟩ := sx_k c1 rfl
  obtain ⟨x2, y2⟩ := sx_k b1 y3
  obtain ⟨x1, y1⟩ := sx_k a1 y2
  obtain ⟨x0, y0⟩ := sx_k h y1
  exact ⟨x3, x2, x1, x0, y0⟩
theorem lnB_0 {L : List Nat} {n b : Nat} {P : PS} (h : (lnB L n b P).1.2 = 0) : eN L 0 (if b = 0 then 31 else 11) (n + 1) = 0 ∧ eS L 59 (n + 2) = 0 ∧ (lnB L n b P).1 = (n + 3, 0) := by
  have a1 := (sx_0 h).1
  obtain ⟨x1, y1⟩ := sx_k a1 rfl
  obtain ⟨x0, y0⟩ := sx_k h y1
  exact ⟨x1, x0, y0⟩
theorem lnP_ok {L : List Nat} {n : Nat} {P : PS} (hP : pOK P) (h6 : P.1 0 ≠ 6) (h : (lnP L n P).1.2 = 0) : pOK (lnP L n P).2 := by
  obtain ⟨-, e2, -, e4, -, -⟩ := lnP_0 h
  obtain ⟨k1, k2⟩ := eK_0 e2
  obtain ⟨-, n1, n2⟩ := eN_0 e4
  obtain ⟨⟨t1, t2, t3, t4, t5⟩, hc⟩ := hP
  refine ⟨?_, hc⟩
  unfold tOK lanOK kdA byA toA szA at *
  show _ ∧ _
  simp only [lnP]
  have z0 : ∀ x, x ≠ 0 → x ≠ 9 + 2 * P.1 0 → x ≠ 10 + 2 * P.1 0 → upT (upT (upT P.1 (9 + 2 * P.1 0) (wX L (n + 2) - 16)) (10 + 2 * P.1 0) (vL L (n + 4))) 0 (P.1 0 + 1) x = P.1 x := fun x x0 x1 x2 => by rw [up_n x0, up_n x2, up_n x1]
  have z1 : upT (upT (upT P.1 (9 + 2 * P.1 0) (wX L (n + 2) - 16)) (10 + 2 * P.1 0) (vL L (n + 4))) 0 (P.1 0 + 1) 0 = P.1 0 + 1 := up_e
  have z2 : upT (upT (upT P.1 (9 + 2 * P.1 0) (wX L (n + 2) - 16)) (10 + 2 * P.1 0) (vL L (n + 4))) 0 (P.1 0 + 1) (9 + 2 * P.1 0) = wX L (n + 2) - 16 := by rw [up_n (by omega), up_n (by omega), up_e]
  have z3 : upT (upT (upT P.1 (9 + 2 * P.1 0) (wX L (n + 2) - 16)) (10 + 2 * P.1 0) (vL L (n + 4))) 0 (P.1 0 + 1) (10 + 2 * P.1 0) = vL L (n + 4) := by rw [up_n (by omega), up_e]
  generalize upT (upT (upT P.1 (9 + 2 * P.1 0) (wX L (n + 2) - 16)) (10 + 2 * P.1 0) (vL L (n + 4))) 0 (P.1 0 + 1) = T' at z0 z1 z2 z3
  have b6 : P.1 0 < 6 := by omega
  refine ⟨?_, fun p hp => ?_, fun w hw => ?_, fun k hk => ?_, fun i j hi hj => ?_⟩
  · rw [z1, z0 2 (by omega) (by omega) (by omega), z0 3 (by omega) (by omega) (by omega), z0 4 (by omega) (by omega) (by omega), z0 5 (by omega) (by omega) (by omega)]
    omega
  · rw [z1] at hp
    by_cases e : p = P.1 0
    · subst e
      rw [z2, z3]
      omega
    · rw [z0 _ (by omega) (by omega) (by omega), z0 _ (by omega) (by omega) (by omega)]
      exact t2 p (by omega)
  · rw [z0 2 (by omega) (by omega) (by omega)] at hw
    have := t3 w hw
    rw [z1, z0 _ (by omega) (by omega) (by omega), z0 _ (by omega) (by omega) (by omega), z0 _ (by omega) (by omega) (by omega)]
    omega
  · rw [z0 3 (by omega) (by omega) (by omega)] at hk
    have := t4 k hk
    rw [z1, z0 _ (by omega) (by omega) (by omega), z0 _ (by omega) (by omega) (by omega)]
    omega
  · have := t5 i j hi hj
    rw [z1, z0 _ (by omega) (by omega) (by omega)]
    exact ⟨this.1, fun x => this.2 (by omega)⟩
theorem lnL_ok {L : List Nat} {n : Nat} {P : PS} (hP : pOK P) (h : (lnL L n P).1.2 = 0) : pOK (lnL L n P).2 := by
  obtain ⟨e1, e2, e3, -, -⟩ := lnL_0 h
  obtain ⟨-, -, f1, -⟩ := eO_k e1
  obtain ⟨q1, q2, -⟩ := eQ_0 e2
  obtain ⟨-, -, f2, -⟩ := eO_k q1
  obtain ⟨-, n1, n2⟩ := eN_0 e3
  obtain ⟨⟨t1, t2, t3, t4, t5⟩, hc⟩ := hP
  refine ⟨?_, hc⟩
  unfold tOK lanOK kdA byA toA szA at *
  show _ ∧ _
  simp only [lnL]
  generalize fdN L P.2.1 (P.1 0) (n + 1) = a at *
  generalize fdN L P.2.1 (P.1 0) (n + 2) = b at *
  generalize vL L (n + 3) = v at *
  have z0 : ∀ x, x ≠ 1 → x ≠ 21 + 6 * a + b → x ≠ 21 + 6 * b + a → upT (upT (upT P.1 (21 + 6 * a + b) v) (21 + 6 * b + a) v) 1 (P.1 1 + 1) x = P.1 x := fun x x0 x1 x2 => by rw [up_n x0, up_n x2, up_n x1]
  have z1 : ∀ x, x = 21 + 6 * a + b ∨ x = 21 + 6 * b + a → upT (upT (upT P.1 (21 + 6 * a + b) v) (21 + 6 * b + a) v) 1 (P.1 1 + 1) x = v := fun x hx => by
    rw [up_n (by omega)]
    by_cases e : x = 21 + 6 * b + a
    · rw [e, up_e]
    · rw [up_n e, show x = 21 + 6 * a + b by omega, up_e]
  generalize upT (upT (upT P.1 (21 + 6 * a + b) v) (21 + 6 * b + a) v) 1 (P.1 1 + 1) = T' at z0 z1
  refine ⟨?_, fun p hp => ?_, fun w hw => ?_, fun k hk => ?_, fun i j hi hj => ?_⟩
  · rw [z0 0 (by omega) (by omega) (by omega), z0 2 (by omega) (by omega) (by omega), z0 3 (by omega) (by omega) (by omega), z0 4 (by omega) (by omega) (by omega), z0 5 (by omega) (by omega) (by omega)]
    exact t1
  · rw [z0 0 (by omega) (by omega) (by omega)] at hp
    rw [z0 _ (by omega) (by omega) (by omega), z0 _ (by omega) (by omega) (by omega)]
    exact t2 p hp
  · rw [z0 2 (by omega) (by omega) (by omega)] at hw
    rw [z0 0 (by omega) (by omega) (by omega), z0 _ (by omega) (by omega) (by omega), z0 _ (by omega) (by omega) (by omega), z0 _ (by omega) (by omega) (by omega)]
    exact t3 w hw
  · rw [z0 3 (by omega) (by omega) (by omega)] at hk
    rw [z0 0 (by omega) (by omega) (by omega), z0 _ (by omega) (by omega) (by omega), z0 _ (by omega) (by omega) (by omega)]
    exact t4 k hk
  · rw [z0 0 (by omega) (by omega) (by omega)]
    by_cases e : 21 + 6 * i + j = 21 + 6 * a + b ∨ 21 + 6 * i + j = 21 + 6 * b + a
    · rw [z1 _ e]
      exact ⟨by omega, fun x => absurd x (by omega)⟩
    · rw [z0 _ (by omega) (by omega) (by omega)]
      exact t5 i j hi hj
theorem lnW_ok {L : List Nat} {n : Nat} {P : PS} (hP : pOK P) (h8 : P.1 2 ≠ 8) (h : (lnW L n P).1.2 = 0) : pOK (lnW L n P).2 := by
  obtain ⟨e1, -, e3, -, e5, -, -⟩ := lnW_0 h
  obtain ⟨-, -, f1, -⟩ := eO_k e1
  obtain ⟨-, -, f2, f3⟩ := eO_k e3
  obtain ⟨-, n1, n2⟩ := eN_0 e5
  obtain ⟨⟨t1, t2, t3, t4, t5⟩, hc⟩ := hP
  refine ⟨?_, hc⟩
  unfold tOK lanOK kdA byA toA szA at *
  show _ ∧ _
  simp only [lnW]
  generalize fdN L P.2.1 (P.1 0) (n + 1) = a at *
  generalize fdN L P.2.1 (P.1 0) (n + 3) = b at *
  generalize vL L (n + 5) = v at *
  have z0 : ∀ x, x ≠ 2 → x ≠ 57 + 3 * P.1 2 → x ≠ 58 + 3 * P.1 2 → x ≠ 59 + 3 * P.1 2 → upT (upT (upT (upT P.1 (57 + 3 * P.1 2) a) (58 + 3 * P.1 2) b) (59 + 3 * P.1 2) v) 2 (P.1 2 + 1) x = P.1 x := fun x x0 x1 x2 x3 => by rw [up_n x0, up_n x3, up_n x2, up_n x1]
  have z1 : upT (upT (upT (upT P.1 (57 + 3 * P.1 2) a) (58 + 3 * P.1 2) b) (59 + 3 * P.1 2) v) 2 (P.1 2 + 1) 2 = P.1 2 + 1 := up_e
  have z2 : upT (upT (upT (upT P.1 (57 + 3 * P.1 2) a) (58 + 3 * P.1 2) b) (59 + 3 * P.1 2) v) 2 (P.1 2 + 1) (57 + 3 * P.1 2) = a := by rw [up_n (by omega), up_n (by omega), up_n (by omega), up_e]
  have z3 : upT (upT (upT (upT P.1 (57 + 3 * P.1 2) a) (58 + 3 * P.1 2) b) (59 + 3 * P.1 2) v) 2 (P.1 2 + 1) (58 + 3 * P.1 2) = b := by rw [up_n (by omega), up_n (by omega), up_e]
  have z4 : upT (upT (upT (upT P.1 (57 + 3 * P.1 2) a) (58 + 3 * P.1 2) b) (59 + 3 * P.1 2) v) 2 (P.1 2 + 1) (59 + 3 * P.1 2) = v := by rw [up_n (by omega), up_e]
  generalize upT (upT (upT (upT P.1 (57 + 3 * P.1 2) a) (58 + 3 * P.1 2) b) (59 + 3 * P.1 2) v) 2 (P.1 2 + 1) = T' at z0 z1 z2 z3 z4
  refine ⟨?_, fun p hp => ?_, fun w hw => ?_, fun k hk => ?_, fun i j hi hj => ?_⟩
  · rw [z1, z0 0 (by omega) (by omega) (by omega) (by omega), z0 3 (by omega) (by omega) (by omega) (by omega), z0 4 (by omega) (by omega) (by omega) (by omega), z0 5 (by omega) (by omega) (by omega) (by omega)]
    omega
  · rw [z0 0 (by omega) (by omega) (by omega) (by omega)] at hp
    rw [z0 _ (by omega) (by omega) (by omega) (by omega), z0 _ (by omega) (by omega) (by omega) (by omega)]
    exact t2 p hp
  · rw [z1] at hw
    rw [z0 0 (by omega) (by omega) (by omega) (by omega)]
    by_cases e : w = P.1 2
    · subst e
      rw [z2, z3, z4]
      omega
    · rw [z0 _ (by omega) (by omega) (by omega) (by omega), z0 _ (by omega) (by omega) (by omega) (by omega), z0 _ (by omega) (by omega) (by omega) (by omega)]
      exact t3 w (by omega)
  · rw [z0 3 (by omega) (by omega) (by omega) (by omega)] at hk
    rw [z0 0 (by omega) (by omega) (by omega) (by omega), z0 _ (by omega) (by omega) (by omega) (by omega), z0 _ (by omega) (by omega) (by omega) (by omega)]
    exact t4 k hk
  · rw [z0 0 (by omega) (by omega) (by omega) (by omega), z0 _ (by omega) (by omega) (by omega) (by omega)]
    exact t5 i j hi hj
theorem lnK_ok {L : List Nat} {n : Nat} {P : PS} (hP : pOK P) (h8 : P.1 3 ≠ 4) (h : (lnK L n P).1.2 = 0) : pOK (lnK L n P).2 := by
  obtain ⟨e1, -, e3, -, -⟩ := lnK_0 h
  obtain ⟨-, -, f1, -⟩ := eO_k e1
  obtain ⟨-, -, f2, f3⟩ := eO_k e3
  obtain ⟨⟨t1, t2, t3, t4, t5⟩, hc⟩ := hP
  refine ⟨?_, hc⟩
  unfold tOK lanOK kdA byA toA szA at *
  show _ ∧ _
  simp only [lnK]
  generalize fdN L P.2.1 (P.1 0) (n + 1) = a at *
  generalize fdN L P.2.1 (P.1 0) (n + 3) = b at *
  have z0 : ∀ x, x ≠ 3 → x ≠ 81 + 2 * P.1 3 → x ≠ 82 + 2 * P.1 3 → upT (upT (upT P.1 (81 + 2 * P.1 3) a) (82 + 2 * P.1 3) b) 3 (P.1 3 + 1) x = P.1 x := fun x x0 x1 x2 => by rw [up_n x0, up_n x2, up_n x1]
  have z1 : upT (upT (upT P.1 (81 + 2 * P.1 3) a) (82 + 2 * P.1 3) b) 3 (P.1 3 + 1) 3 = P.1 3 + 1 := up_e
  have z2 : upT (upT (upT P.1 (81 + 2 * P.1 3) a) (82 + 2 * P.1 3) b) 3 (P.1 3 + 1) (81 + 2 * P.1 3) = a := by rw [up_n (by omega), up_n (by omega), up_e]
  have z3 : upT (upT (upT P.1 (81 + 2 * P.1 3) a) (82 + 2 * P.1 3) b) 3 (P.1 3 + 1) (82 + 2 * P.1 3) = b := by rw [up_n (by omega), up_e]
  generalize upT (upT (upT P.1 (81 + 2 * P.1 3) a) (82 + 2 * P.1 3) b) 3 (P.1 3 + 1) = T' at z0 z1 z2 z3
  refine ⟨?_, fun p hp => ?_, fun w hw => ?_, fun k hk => ?_, fun i j hi hj => ?_⟩
  · rw [z1, z0 0 (by omega) (by omega) (by omega), z0 2 (by omega) (by omega) (by omega), z0 4 (by omega) (by omega) (by omega), z0 5 (by omega) (by omega) (by omega)]
    omega
  · rw [z0 0 (by omega) (by omega) (by omega)] at hp
    rw [z0 _ (by omega) (by omega) (by omega), z0 _ (by omega) (by omega) (by omega)]
    exact t2 p hp
  · rw [z0 2 (by omega) (by omega) (by omega)] at hw
    rw [z0 0 (by omega) (by omega) (by omega), z0 _ (by omega) (by omega) (by omega), z0 _ (by omega) (by omega) (by omega), z0 _ (by omega) (by omega) (by omega)]
    exact t3 w hw
  · rw [z1] at hk
    rw [z0 0 (by omega) (by omega) (by omega)]
    by_cases e : k = P.1 3
    · subst e
      rw [z2, z3]
      exact ⟨f1, f2⟩
    · rw [z0 _ (by omega) (by omega) (by omega), z0 _ (by omega) (by omega) (by omega)]
      exact t4 k (by omega)
  · rw [z0 0 (by omega) (by omega) (by omega), z0 _ (by omega) (by omega) (by omega)]
    exact t5 i j hi hj
theorem lnB_ok {L : List Nat} {n b : Nat} {P : PS} (hP : pOK P) (hb : b < 2) (h : (lnB L n b P).1.2 = 0) : pOK (lnB L n b P).2 := by
  obtain ⟨e1, -, -⟩ := lnB_0 h
  obtain ⟨-, n1, n2⟩ := eN_0 e1
  obtain ⟨⟨t1, t2, t3, t4, t5⟩, hc⟩ := hP
  refine ⟨?_, hc⟩
  unfold tOK lanOK kdA byA toA szA at *
  show _ ∧ _
  simp only [lnB]
  generalize vL L (n + 1) = v at *
  refine ⟨?_, fun p hp => ?_, fun w hw => ?_, fun k hk => ?_, fun i j hi hj => ?_⟩
  · rw [up_n (by omega), up_n (by omega), up_n (by omega)]
    have : b = 0 ∨ b = 1 := by omega
    rcases this with rfl | rfl
    · rw [if_pos rfl] at n2
      rw [show (4 + 0) = 4 from rfl, up_e, up_n (by omega)]
      omega
    · rw [if_neg (by decide)] at n2
      rw [show (4 + 1) = 5 from rfl, up_n (by omega), up_e]
      omega
  · rw [up_n (by omega)] at hp
    rw [up_n (by omega), up_n (by omega)]
    exact t2 p hp
  · rw [up_n (by omega)] at hw
    rw [up_n (by omega), up_n (by omega), up_n (by omega), up_n (by omega)]
    exact t3 w hw
  · rw [up_n (by omega)] at hk
    rw [up_n (by omega), up_n (by omega), up_n (by omega)]
    exact t4 k hk
  · rw [up_n (by omega), up_n (by omega)]
    exact t5 i j hi hj
theorem lnO_ok {L : List Nat} {c n b : Nat} {P : PS} (hL : tkN L c) (hn : n + 1 ≤ c) (hP : pOK P) (hb : b < 5) (h : (lnO L n b P).1.2 = 0) : pOK (lnO L n b P).2 := by
  unfold lnO at h ⊢
  by_cases o : P.2.2.1 b = true
  · rw [if_pos o] at h
    have h : 3 + 16 * plT L n = 0 := h
    omega
  · rw [if_neg o] at h ⊢
    by_cases b2 : b < 2
    · rw [if_pos b2] at h ⊢
      exact lnB_ok hP b2 h
    · rw [if_neg b2] at h ⊢
      obtain ⟨r, e⟩ := (pt_e hL 17000).1 0 0 (n + 1) (by omega) (by omega) hn (by have := hL.c; omega)
      have ob := (pt_b hL 17000).1 0 0 (n + 1) r (by omega) (by omega) hn e
      rw [e] at h ⊢
      match r, ob, h with
      | .inl (k, nf), ob, h =>
        obtain ⟨-, -, o3, -⟩ := ob.1 k nf rfl
        have h : k + 16 * plT L nf = 0 := h
        omega
      | .inr (n1, c1), ob, h =>
        obtain ⟨-, -, -, o4, -⟩ := ob.2 n1 c1 rfl
        refine ⟨hP.1, fun l hl => ?_⟩
        show okc 40 (if l = b - 2 then c1 else P.2.2.2 l) 0 1
        by_cases e : l = b - 2
        · rw [if_pos e]
          exact okc_mo (by omega) o4
        · rw [if_neg e]
          exact hP.2 l hl
theorem ln_ok {L : List Nat} {c n : Nat} {P : PS} (hL : tkN L c) (hn : n ≤ c) (hP : pOK P) (h : (ln L n P).1.2 = 0) : pOK (ln L n P).2 := by
  unfold ln at h ⊢
  have wk : wX L n < 26 → kD L n = 2 := wX_k
  by_cases a : wX L n = 0
  · rw [if_pos a] at h ⊢
    by_cases b : P.1 0 = 6
    · rw [if_pos b] at h
      have h : 5 + 16 * plT L n = 0 := h
      omega
    · rw [if_neg b] at h ⊢
      exact lnP_ok hP b h
  · rw [if_neg a] at h ⊢
    by_cases a2 : wX L n = 2
    · rw [if_pos a2] at h ⊢
      exact lnL_ok hP h
    · rw [if_neg a2] at h ⊢
      by_cases a3 : wX L n = 3
      · rw [if_pos a3] at h ⊢
        by_cases b : P.1 2 = 8
        · rw [if_pos b] at h
          have h : 5 + 16 * plT L n = 0 := h
          omega
        · rw [if_neg b] at h ⊢
          exact lnW_ok hP b h
      · rw [if_neg a3] at h ⊢
        by_cases a6 : wX L n = 6
        · rw [if_pos a6] at h ⊢
          by_cases b : P.1 3 = 4
          · rw [if_pos b] at h
            have h : 5 + 16 * plT L n = 0 := h
            omega
          · rw [if_neg b] at h ⊢
            exact lnK_ok hP b h
        · rw [if_neg a6] at h ⊢
          by_cases a7 : 7 ≤ wX L n ∧ wX L n ≤ 11
          · rw [if_pos a7] at h ⊢
            have := hL.k hn (by rw [wk (by omega)]; decide)
            exact lnO_ok hL (by omega) hP (by omega) h
          · rw [if_neg a7] at h
            have h : 1 + 16 * plT L n = 0 := h
            omega
