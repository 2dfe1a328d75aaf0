/-! the rounds, found from the front -/
def okX (P : Nat) (rp : Nat → Nat) (st : Nat → Nat → Nat) (mo s a w x : Nat) : Prop := x < P ∧ 0 < rp x ∧ s.testBit x = false ∧ w + st a x ≤ mo
def Rf (P : Nat) (rp : Nat → Nat) (st : Nat → Nat → Nat) (mo : Nat) : Nat → Nat → Nat → Nat → Nat → Nat → Nat → Prop
  | 0, s, a, w, s', a', w' => s' = s ∧ a' = a ∧ w' = w
  | n + 1, s, a, w, s', a', w' => (s' = s ∧ a' = a ∧ w' = w) ∨ ∃ x, okX P rp st mo s a w x ∧ Rf P rp st mo n (stS s x) x (w + st a x) s' a' w'
theorem Rf_0 {P : Nat} {rp : Nat → Nat} {st : Nat → Nat → Nat} {mo : Nat} : ∀ {n s a w}, Rf P rp st mo n s a w s a w
  | 0, _, _, _ => ⟨rfl, rfl, rfl⟩
  | _ + 1, _, _, _ => Or.inl ⟨rfl, rfl, rfl⟩
theorem Rf_up {P : Nat} {rp : Nat → Nat} {st : Nat → Nat → Nat} {mo : Nat} {s' a' w' : Nat} : ∀ {n s a w}, Rf P rp st mo n s a w s' a' w' → Rf P rp st mo (n + 1) s a w s' a' w'
  | 0, _, _, _, h => Or.inl h
  | n + 1, _, _, _, h => h.elim Or.inl (fun ⟨x, x1, x2⟩ => Or.inr ⟨x, x1, Rf_up x2⟩)
theorem Rf_mo {P : Nat} {rp : Nat → Nat} {st : Nat → Nat → Nat} {mo : Nat} {s a w s' a' w' n : Nat} (h : Rf P rp st mo n s a w s' a' w') : ∀ k, Rf P rp st mo (n + k) s a w s' a' w'
  | 0 => h
  | k + 1 => Rf_up (Rf_mo h k)
theorem Rf_on {P : Nat} {rp : Nat → Nat} {st : Nat → Nat → Nat} {mo : Nat} {s1 a1 w1 x : Nat} (hx : okX P rp st mo s1 a1 w1 x) : ∀ {n s a w}, Rf P rp st mo n s a w s1 a1 w1 → Rf P rp st mo (n + 1) s a w (stS s1 x) x (w1 + st a1 x)
  | 0, _, _, _, ⟨e1, e2, e3⟩ => by
    subst e1 e2 e3
    exact Or.inr ⟨x, hx, rfl, rfl, rfl⟩
  | n + 1, _, _, _, h => by
    rcases h with ⟨e1, e2, e3⟩ | ⟨y, y1, y2⟩
    · subst e1 e2 e3
      exact Or.inr ⟨x, hx, Rf_0⟩
    · exact Or.inr ⟨y, y1, Rf_on hx y2⟩
def fN (rp : Nat → Nat) (s : Nat) : Nat := (if s.testBit 0 then rp 0 else 0) + (if s.testBit 1 then rp 1 else 0) + (if s.testBit 2 then rp 2 else 0) + (if s.testBit 3 then rp 3 else 0) + (if s.testBit 4 then rp 4 else 0) + (if s.testBit 5 then rp 5 else 0)
theorem stS_t {s x y : Nat} : (stS s x).testBit y = (decide (y < 8) && (s.testBit y || decide (y = x))) := bs_tb _ 8 y
theorem fN_s {rp : Nat → Nat} {s x : Nat} (hx : x < 6) (h : s.testBit x = false) : fN rp (stS s x) = fN rp s + rp x := by
  unfold fN
  simp only [stS_t]
  have : x = 0 ∨ x = 1 ∨ x = 2 ∨ x = 3 ∨ x = 4 ∨ x = 5 := by omega
  rcases this with rfl | rfl | rfl | rfl | rfl | rfl <;> simp [h] <;> omega
theorem fN_le {rp : Nat → Nat} {s N : Nat} (h : ∀ x, x < 6 → rp x ≤ N) : fN rp s ≤ 6 * N := by
  unfold fN
  have h0 := h 0 (by omega)
  have h1 := h 1 (by omega)
  have h2 := h 2 (by omega)
  have h3 := h 3 (by omega)
  have h4 := h 4 (by omega)
  have h5 := h 5 (by omega)
  have t : ∀ (b : Bool) (r : Nat), r ≤ N → (if b then r else 0) ≤ N := by intro b r hr; cases b <;> simp <;> omega
  have := t (s.testBit 0) _ h0
  have := t (s.testBit 1) _ h1
  have := t (s.testBit 2) _ h2
  have := t (s.testBit 3) _ h3
  have := t (s.testBit 4) _ h4
  have := t (s.testBit 5) _ h5
  omega
theorem s64 : ∀ s, s < 64 → ∀ x, x < 6 → stS s x < 64 ∧ (s.testBit x = false → s < stS s x) ∧ (s.testBit x = false → pcN s < 6) ∧ pcN s ≤ 6 := by decide +kernel
/-- the one is better than the other -/
def bet (t b : Nat × Nat × Nat) : Prop := b.1 < t.1 ∨ (t.1 = b.1 ∧ (t.2.1 < b.2.1 ∨ (t.2.1 = b.2.1 ∧ t.2.2 < b.2.2)))
theorem bet_tr {a b c : Nat × Nat × Nat} (h1 : ¬ bet a b) (h2 : ¬ bet b c) : ¬ bet a c := by
  unfold bet at *; omega
theorem bet_an {a b : Nat × Nat × Nat} (h1 : ¬ bet a b) (h2 : ¬ bet b a) : a = b := by
  obtain ⟨a1, a2, a3⟩ := a
  obtain ⟨b1, b2, b3⟩ := b
  unfold bet at *
  simp only at h1 h2
  have e1 : a1 = b1 := by omega
  have e2 : a2 = b2 := by omega
  have e3 : a3 = b3 := by omega
  rw [e1, e2, e3]
theorem bet_rf {a : Nat × Nat × Nat} : ¬ bet a a := by unfold bet; omega
def bO (m : mi_M) : Option (Nat × Nat × Nat) → Prop
  | none => m.1 12 0 34 = -1 ∧ m.1 12 0 35 = 0 ∧ m.1 12 0 36 = 0
  | some b => (m.1 12 0 34 = n32 b.1 ∧ m.1 12 0 35 = n32 b.2.1 ∧ m.1 12 0 36 = n32 b.2.2) ∧ b.1 ≤ 48 ∧ b.2.1 ≤ 200 ∧ b.2.2 < 64
theorem bO.mv {m m' : mi_M} {o : Option (Nat × Nat × Nat)} {P : Nat → Nat → Nat → Prop} (h : bO m o) (hk : kp P m m') (hp : ¬ P 12 0 34 ∧ ¬ P 12 0 35 ∧ ¬ P 12 0 36) : bO m' o := by
  unfold bO at *
  cases o with
  | none => exact ⟨by rw [hk.1 12 0 34 hp.1]; exact h.1, by rw [hk.1 12 0 35 hp.2.1]; exact h.2.1, by rw [hk.1 12 0 36 hp.2.2]; exact h.2.2⟩
  | some b => exact ⟨⟨by rw [hk.1 12 0 34 hp.1]; exact h.1.1, by rw [hk.1 12 0 35 hp.2.1]; exact h.1.2.1, by rw [hk.1 12 0 36 hp.2.2]; exact h.1.2.2⟩, h.2⟩
/-- what a call of the search leaves: as good as all that it met, and met -/
def rPost (G : Nat → Nat → Nat → Prop) (rp : Nat → Nat) (o : Option (Nat × Nat × Nat)) (b' : Nat × Nat × Nat) : Prop := (o = some b' ∨ ∃ s' a' w', G s' a' w' ∧ b' = (fN rp s', w', s')) ∧ (∀ b, o = some b → ¬ bet b b') ∧ ∀ s' a' w', G s' a' w' → ¬ bet (fN rp s', w', s') b'
abbrev k3 (k i p : Nat) : Prop := k = 12 ∧ i = 0 ∧ (p = 34 ∨ p = 35 ∨ p = 36)
def rMem (m : mi_M) (T : Nat → Nat) (rp : Nat → Nat) : Prop := mTw m T ∧ stM m (cst T 63) ∧ (∀ x, x < T 0 → m.1 73 0 x = n32 (rp x))
theorem rMem.mv {m m' : mi_M} {T : Nat → Nat} {rp : Nat → Nat} {P : Nat → Nat → Nat → Prop} (h : rMem m T rp) (hk : kp P m m') (hp : ∀ k p, P k 0 p → k = 56 ∨ k = 72 ∨ k = 73 → False) : rMem m' T rp :=
  ⟨h.1.mv hk (fun p _ x => hp _ _ x (by omega)), fun q hq => by rw [hk.1 72 0 q (fun x => hp _ _ x (by omega))]; exact h.2.1 q hq, fun x hx => by rw [hk.1 73 0 x (fun z => hp _ _ z (by omega))]; exact h.2.2 x hx⟩
abbrev sT (T : Nat → Nat) (a x : Nat) : Nat := gO (cst T 63 a x)
theorem rb_body {T : Nat → Nat} {rp : Nat → Nat} {mo s a w : Nat} {G : Nat → Nat → Nat → Nat → Prop} {rc : Int32 → Int32 → Int32 → Int32 → Int32 → mi_M → Option mi_M} (hT : tOK T) (hr : ∀ x, x < 6 → rp x ≤ 8) (hmo : mo ≤ 200) (hs : s < 64) (ha : a < T 0) (hw : w ≤ mo)
    (H : ∀ x, okX (T 0) rp (sT T) mo s a w x → ∀ m o, rMem m T rp → bO m o → wo (rc (n32 x) (n32 (stS s x)) (n32 (w + sT T a x)) (n32 (fN rp (stS s x))) (n32 mo) m) (fun m' => kp (fun k i p => k3 k i p) m m' ∧ ∃ b', bO m' (some b') ∧ rPost (G x) rp o b'))
    {m : mi_M} {o : Option (Nat × Nat × Nat)} (hm : rMem m T rp) (ho : bO m o) :
    wo (f_X12_rounds_ rc (n32 a) (n32 s) (n32 w) (n32 (fN rp s)) (n32 mo) m) (fun m' => kp (fun k i p => k3 k i p) m m' ∧ ∃ b', bO m' (some b') ∧ rPost (fun s' a' w' => (s' = s ∧ a' = a ∧ w' = w) ∨ ∃ x, okX (T 0) rp (sT T) mo s a w x ∧ G x s' a' w') rp o b') := by
  have h6 := hT.1.1
  have hX : XX = 1048576 := rfl
  have hf : fN rp s ≤ 48 := fN_le (N := 8) hr
  have gl : ∀ x, x < 6 → sT T a x ≤ 1000000 := by
    intro x hx
    have := fl63 hT.2.2.2.2 (k := 6) (i := a) (j := x) (by omega) (by omega) hx
    show gO (fl (lanQ T 63) 6 a x) ≤ _
    unfold gO
    split <;> omega
  have loop : ∀ m1 b1, kp (fun k i p => k3 k i p) m m1 → bO m1 (some b1) → rPost (fun s' a' w' => (s' = s ∧ a' = a ∧ w' = w)) rp o b1 → wo (f_X12_rounds_J91 rc (n32 a) (n32 s) (n32 w) (n32 (fN rp s)) (n32 mo) m1) (fun m' => kp (fun k i p => k3 k i p) m m' ∧ ∃ b', bO m' (some b') ∧ rPost (fun s' a' w' => (s' = s ∧ a' = a ∧ w' = w) ∨ ∃ x, okX (T 0) rp (sT T) mo s a w x ∧ G x s' a' w') rp o b') := by
    intro m1 b1 k1 hb1 hp1
    unfold f_X12_rounds_J91
    rw [pw_bo]
    refine pl_for (fun k z => z.1 = n32 k ∧ kp (fun k i p => k3 k i p) m z.2 ∧ ∃ b', bO z.2 (some b') ∧ rPost (fun s' a' w' => (s' = s ∧ a' = a ∧ w' = w) ∨ ∃ x, x < k ∧ okX (T 0) rp (sT T) mo s a w x ∧ G x s' a' w') rp o b') (T 0) (by omega) ⟨rfl, k1, b1, hb1, ?_⟩ ?_
    · obtain ⟨p1, p2, p3⟩ := hp1
      refine ⟨p1.elim Or.inl (fun ⟨s', a', w', q1, q2⟩ => Or.inr ⟨s', a', w', Or.inl q1, q2⟩), p2, fun s' a' w' q => ?_⟩
      rcases q with q | ⟨x, q, -⟩
      · exact p3 s' a' w' q
      · omega
    · rintro k ⟨l, m2⟩ hk ⟨e1, k2, b2, hb2, hp2⟩
      simp only at e1 k2 hb2
      subst e1
      have hm2 := hm.mv k2 (fun k p x y => by omega)
      unfold f_X12_rounds_B94
      dsimp only
      rw [pm_people hm2.1, pw_bo, pw_some]
      simp (disch := omega) only [pw_if, pw_some, n32_le, lr_r, pw_g, pw_let, n32_lm, n32_add, n32_in, n32_cl, tb_0]
      refine ⟨fun hx => ?_, fun hx => ?_⟩
      · have : k = T 0 := by omega
        subst this
        unfold f_X12_rounds_K94
        rw [pw_some]
        refine ⟨k2, b2, hb2, ?_⟩
        obtain ⟨p1, p2, p3⟩ := hp2
        refine ⟨p1.elim Or.inl (fun ⟨s', a', w', q1, q2⟩ => Or.inr ⟨s', a', w', q1.elim Or.inl (fun ⟨x, x1, x2⟩ => Or.inr ⟨x, x2⟩), q2⟩), p2, fun s' a' w' q => ?_⟩
        rcases q with q | ⟨x, q, q2⟩
        · exact p3 s' a' w' (Or.inl q)
        · exact p3 s' a' w' (Or.inr ⟨x, q.1, q, q2⟩)
      · have hk : k < T 0 := by omega
        have e72 := hm2.2.1 (6 * a + k) (by omega)
        rw [show (6 * a + k) / 6 = a by omega, show (6 * a + k) % 6 = k by omega] at e72
        have gk : gO (cst T 63 a k) ≤ 1000000 := gl k (by omega)
        rw [e72]
        have skip : ¬ okX (T 0) rp (sT T) mo s a w k → wo (f_X12_rounds_J171 (n32 k) m2) (lr (fun z => k < T 0 ∧ z.1 = n32 (k + 1) ∧ kp (fun k i p => k3 k i p) m z.2 ∧ ∃ b', bO z.2 (some b') ∧ rPost (fun s' a' w' => (s' = s ∧ a' = a ∧ w' = w) ∨ ∃ x, x < k + 1 ∧ okX (T 0) rp (sT T) mo s a w x ∧ G x s' a' w') rp o b') (fun e => wo (f_X12_rounds_K94 e) (fun m' => kp (fun k i p => k3 k i p) m m' ∧ ∃ b', bO m' (some b') ∧ rPost (fun s' a' w' => (s' = s ∧ a' = a ∧ w' = w) ∨ ∃ x, okX (T 0) rp (sT T) mo s a w x ∧ G x s' a' w') rp o b'))) := by
          intro no
          unfold f_X12_rounds_J171
          rw [pw_some, lr_l, n32_al]
          refine ⟨hk, rfl, k2, b2, hb2, ?_⟩
          obtain ⟨p1, p2, p3⟩ := hp2
          refine ⟨p1.elim Or.inl (fun ⟨s', a', w', q1, q2⟩ => Or.inr ⟨s', a', w', q1.elim Or.inl (fun ⟨x, x1, x2⟩ => Or.inr ⟨x, by omega, x2⟩), q2⟩), p2, fun s' a' w' q => ?_⟩
          rcases q with q | ⟨x, q0, q, q2⟩
          · exact p3 s' a' w' (Or.inl q)
          · by_cases e : x = k
            · subst e; exact absurd q no
            · exact p3 s' a' w' (Or.inr ⟨x, by omega, q, q2⟩)
        refine ⟨by omega, fun hb => ⟨by omega, ?_⟩, fun hb => skip (fun z => hb z.2.2.1)⟩
        rw [hm2.2.2 k hk]
        have rk := hr k (by omega)
        rw [show (0 : Int32) = n32 0 from rfl]
        simp (disch := omega) only [n32_le, n32_lt, n32_add]
        refine ⟨fun hz => skip (fun z => by have := z.2.1; omega), fun hz => ⟨fun hz2 => skip (fun z => by have : w + gO (cst T 63 a k) ≤ mo := z.2.2.2; omega), fun hz2 => ⟨by omega, ?_⟩⟩⟩
        have ok : okX (T 0) rp (sT T) mo s a w k := ⟨hk, by omega, hb, by show w + gO (cst T 63 a k) ≤ mo; omega⟩
        rw [(stS_n s (by omega) k (by omega)).1, ← fN_s (rp := rp) (by omega) hb, pw_bo]
        refine pw_mono (H k ok m2 (some b2) hm2 hb2) ?_
        rintro m3 ⟨k3', b3, hb3, p3⟩
        unfold f_X12_rounds_J171
        rw [pw_some, lr_l, n32_al]
        refine ⟨hk, rfl, k2.tr k3', b3, hb3, ?_⟩
        obtain ⟨p1, p2, p4⟩ := hp2
        obtain ⟨q1, q2, q3⟩ := p3
        have b23 := q2 b2 rfl
        refine ⟨?_, fun b hb => bet_tr (p2 b hb) b23, fun s' a' w' q => ?_⟩
        · rcases q1 with q1 | ⟨s', a', w', q1, q4⟩
          · have e : b2 = b3 := Option.some.inj q1
            subst e
            exact p1.elim Or.inl (fun ⟨s', a', w', q1, q2⟩ => Or.inr ⟨s', a', w', q1.elim Or.inl (fun ⟨x, x1, x2⟩ => Or.inr ⟨x, by omega, x2⟩), q2⟩)
          · exact Or.inr ⟨s', a', w', Or.inr ⟨k, by omega, ok, q1⟩, q4⟩
        · rcases q with q | ⟨x, q0, q, q5⟩
          · exact bet_tr (p4 s' a' w' (Or.inl q)) b23
          · by_cases e : x = k
            · subst e; exact q3 s' a' w' q5
            · exact bet_tr (p4 s' a' w' (Or.inr ⟨x, by omega, q, q5⟩)) b23
  have yes : (∀ b, o = some b → ¬ bet b (fN rp s, w, s)) → wo (f_X12_rounds_J63 rc (n32 a) (n32 s) (n32 w) (n32 (fN rp s)) (n32 mo) m) (fun m' => kp (fun k i p => k3 k i p) m m' ∧ ∃ b', bO m' (some b') ∧ rPost (fun s' a' w' => (s' = s ∧ a' = a ∧ w' = w) ∨ ∃ x, okX (T 0) rp (sT T) mo s a w x ∧ G x s' a' w') rp o b') := by
    intro hb
    unfold f_X12_rounds_J63 f_X12_rounds_J68
    rw [if_neg (by decide), pw_let, pw_let, pw_let]
    refine loop _ (fN rp s, w, s) (((kp.rf.wI ⟨rfl, rfl, by omega⟩).wI ⟨rfl, rfl, by omega⟩).wI ⟨rfl, rfl, by omega⟩) ⟨⟨?_, ?_, ?_⟩, hf, by show w ≤ 200; omega, hs⟩ ⟨Or.inr ⟨s, a, w, ⟨rfl, rfl, rfl⟩, rfl⟩, hb, ?_⟩
    · rw [rI_ne (by omega), rI_ne (by omega), rI_eq]
    · rw [rI_ne (by omega), rI_eq]
    · rw [rI_eq]
    · rintro s' a' w' ⟨rfl, rfl, rfl⟩
      exact bet_rf
  have no : ∀ b, o = some b → ¬ bet (fN rp s, w, s) b → wo (f_X12_rounds_J67 rc (n32 a) (n32 s) (n32 w) (n32 (fN rp s)) (n32 mo) m) (fun m' => kp (fun k i p => k3 k i p) m m' ∧ ∃ b', bO m' (some b') ∧ rPost (fun s' a' w' => (s' = s ∧ a' = a ∧ w' = w) ∨ ∃ x, okX (T 0) rp (sT T) mo s a w x ∧ G x s' a' w') rp o b') := by
    intro b hb hn
    unfold f_X12_rounds_J67 f_X12_rounds_J68
    rw [if_pos rfl]
    subst hb
    refine loop m b kp.rf ho ⟨Or.inl rfl, fun b2 h2 => by rw [Option.some.inj h2]; exact bet_rf, ?_⟩
    rintro s' a' w' ⟨rfl, rfl, rfl⟩
    exact hn
  unfold f_X12_rounds_ f_X12_rounds_J26 f_X12_rounds_J30 f_X12_rounds_J31
  cases o with
  | none =>
    have ho : m.1 12 0 34 = -1 ∧ m.1 12 0 35 = 0 ∧ m.1 12 0 36 = 0 := ho
    rw [ho.1, if_pos (by rw [i32_lt, n32_int (by omega), show (-1 : Int32).toInt = -1 by decide]; omega), if_neg (by decide)]
    exact yes (fun b hb => by cases hb)
  | some b =>
    obtain ⟨⟨o1, o2, o3⟩, o4, o5, o6⟩ := id ho
    rw [o1, o2, o3]
    simp (disch := omega) only [pw_if, n32_lt, n32_eq, n32_le]
    refine ⟨fun x => ⟨fun y => absurd y (by decide), fun _ => yes (fun b2 hb => ?_)⟩, fun x => ⟨fun y => ⟨fun z => ⟨fun _ => ⟨fun _ => ⟨fun q => ⟨fun q2 => no b rfl ?_, fun q2 => yes (fun b2 hb => ?_)⟩, fun q => no b rfl ?_⟩, fun q => absurd y q⟩, fun q => absurd (by trivial) q⟩, fun z => ⟨fun q => absurd q (by decide), fun _ => yes (fun b2 hb => ?_)⟩⟩, fun y => ⟨fun _ => ⟨fun q => absurd q y, fun _ => no b rfl ?_⟩, fun q => absurd (by trivial) q⟩⟩⟩
    all_goals (try (rw [← Option.some.inj hb]))
    all_goals (unfold bet; dsimp only; omega)
theorem pm_rounds {T : Nat → Nat} {rp : Nat → Nat} {mo : Nat} (hT : tOK T) (hr : ∀ x, x < 6 → rp x ≤ 8) (hmo : mo ≤ 200) : ∀ n d s a w m o, n < d → 6 ≤ pcN s + n → s < 64 → a < T 0 → w ≤ mo → rMem m T rp → bO m o → wo (fg_X12_rounds d (n32 a) (n32 s) (n32 w) (n32 (fN rp s)) (n32 mo) m) (fun m' => kp (fun k i p => k3 k i p) m m' ∧ ∃ b', bO m' (some b') ∧ rPost (Rf (T 0) rp (sT T) mo n s a w) rp o b')
  | n, 0, _, _, _, _, _, h, _, _, _, _, _, _ => absurd h (by omega)
  | 0, d + 1, s, a, w, m, o, h, h2, hs, ha, hw, hm, ho => by
    have h6 := hT.1.1
    show wo (f_X12_rounds_ (fg_X12_rounds d) _ _ _ _ _ _) _
    refine pw_mono (rb_body (G := fun _ _ _ _ => False) hT hr hmo hs ha hw (fun x ok => absurd ((s64 s hs x (by have := ok.1; omega)).2.2.1 ok.2.2.1) (by omega)) hm ho) ?_
    rintro m' ⟨q1, b', q2, q3, q4, q5⟩
    refine ⟨q1, b', q2, ?_, q4, fun s' a' w' g => q5 s' a' w' (Or.inl g)⟩
    rcases q3 with q | ⟨s', a', w', q, q6⟩
    · exact Or.inl q
    · refine Or.inr ⟨s', a', w', ?_, q6⟩
      rcases q with q | ⟨x, -, f⟩
      · exact q
      · exact f.elim
  | n + 1, d + 1, s, a, w, m, o, h, h2, hs, ha, hw, hm, ho => by
    have h6 := hT.1.1
    show wo (f_X12_rounds_ (fg_X12_rounds d) _ _ _ _ _ _) _
    refine pw_mono (rb_body (G := fun x => Rf (T 0) rp (sT T) mo n (stS s x) x (w + sT T a x)) hT hr hmo hs ha hw (fun x ok m o hm ho => ?_) hm ho) ?_
    · have hx := ok.1
      have z := s64 s hs x (by omega)
      have z2 := (stS_n s (by omega) x (by omega)).2 ok.2.2.1
      exact pm_rounds hT hr hmo n d (stS s x) x (w + sT T a x) m o (by omega) (by omega) z.1 hx ok.2.2.2 hm ho
    · rintro m' ⟨q1, b', q2, q3⟩
      exact ⟨q1, b', q2, q3⟩
