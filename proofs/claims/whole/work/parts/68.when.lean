/-! ===== when: rows of asks, each a number to base 9 ===== -/
def wQ (T : Nat → Nat) (cd : Nat → List Int32) (S : Nat → Int32) (o : Nat) : Nat → Int32 := if o < T 2 then aAsk T cd S o 0 else S
def wS (T : Nat → Nat) (cd : Nat → List Int32) (S : Nat → Int32) (o : Nat) : Nat → Int32 := aSleep T cd (wQ T cd S o)
def wH (T : Nat → Nat) (cd : Nat → List Int32) (S : Nat → Int32) (o : Nat) : Nat := hmN T (lsA (wQ T cd S o) 0)
def sim (T : Nat → Nat) (cd : Nat → List Int32) : Nat → (Nat → Int32) → Nat → Nat → Option Nat
  | 0, _, h, _ => some h
  | k + 1, S, h, c => if T 2 < c / 9 ^ k % 9 ∨ (c / 9 ^ k % 9 < T 2 ∧ S (22 + c / 9 ^ k % 9) ≠ 0) then none else sim T cd k (wS T cd S (c / 9 ^ k % 9)) (h + wH T cd S (c / 9 ^ k % 9)) c
theorem sim_s {T : Nat → Nat} {cd : Nat → List Int32} {k h c : Nat} {S : Nat → Int32} : sim T cd (k + 1) S h c = if T 2 < c / 9 ^ k % 9 ∨ (c / 9 ^ k % 9 < T 2 ∧ S (22 + c / 9 ^ k % 9) ≠ 0) then none else sim T cd k (wS T cd S (c / 9 ^ k % 9)) (h + wH T cd S (c / 9 ^ k % 9)) c := rfl
theorem wQ_e {T : Nat → Nat} {cd : Nat → List Int32} {S S' : Nat → Int32} {o : Nat} (h : eq1 S S') : eq1 (wQ T cd S o) (wQ T cd S' o) := by
  unfold wQ
  by_cases e : o < T 2
  · rw [if_pos e, if_pos e]; exact h.ask
  · rw [if_neg e, if_neg e]; exact h
theorem sim_e {T : Nat → Nat} {cd : Nat → List Int32} {c : Nat} : ∀ {k h} {S S' : Nat → Int32}, eq1 S S' → sim T cd k S h c = sim T cd k S' h c
  | 0, _, _, _, _ => rfl
  | k + 1, h, S, S', e => by
    rw [sim_s, sim_s, e (22 + c / 9 ^ k % 9) (by omega), sim_e (k := k) (show eq1 (wS T cd S (c / 9 ^ k % 9)) (wS T cd S' (c / 9 ^ k % 9)) from (wQ_e e).sleep), show wH T cd S (c / 9 ^ k % 9) = wH T cd S' (c / 9 ^ k % 9) from by unfold wH; rw [(wQ_e e).ls]]
theorem sim_le {T : Nat → Nat} {cd : Nat → List Int32} {c h' : Nat} : ∀ {k h} {S : Nat → Int32}, sim T cd k S h c = some h' → h ≤ h'
  | 0, _, _, e => Nat.le_of_eq (Option.some.inj e)
  | k + 1, h, S, e => by
    rw [sim_s] at e
    split at e
    · cases e
    · have := sim_le e; omega
theorem wQ_ok {T : Nat → Nat} {cd : Nat → List Int32} {S : Nat → Int32} {o : Nat} (hT : tOK T) (h : sOK T S) : sOK T (wQ T cd S o) := by
  unfold wQ
  by_cases e : o < T 2
  · rw [if_pos e]; exact aAsk_ok hT h e
  · rw [if_neg e]; exact h
theorem wQ_1 {T : Nat → Nat} {cd : Nat → List Int32} {S : Nat → Int32} {o : Nat} : wQ T cd S o 1 = S 1 := by
  unfold wQ
  by_cases e : o < T 2
  · rw [if_pos e]; exact ask_1
  · rw [if_neg e]
theorem wS_1 {T : Nat → Nat} {cd : Nat → List Int32} {S : Nat → Int32} {o h : Nat} (e : S 1 = n32 h) : wS T cd S o 1 = n32 (h + wH T cd S o) := by
  show wQ T cd S o 1 + n32 (hmN T (lsA (wQ T cd S o) 0)) = _
  rw [wQ_1, e, n32_add]
  rfl
theorem wS_22 {T : Nat → Nat} {cd : Nat → List Int32} {S : Nat → Int32} {o w : Nat} (hT : tOK T) (hw : w < 8) (h : wS T cd S o (22 + w) = 0) : S (22 + w) = 0 := by
  have e : wS T cd S o (22 + w) = wQ T cd S o (22 + w) := by
    unfold wS aSleep
    rw [if_neg (by omega), if_neg (by omega), if_neg (by omega), if_neg (by omega), if_neg (by omega), if_pos (by omega)]
  rw [e] at h
  unfold wQ at h
  by_cases g : o < T 2
  · rw [if_pos g] at h
    have t := (hT.2.2.1 o g).2.1
    have t6 := hT.1.1
    have o8 := hT.1.2.1
    unfold aAsk at h
    by_cases q : S (14 + o) ≤ n32 (barA T o)
    · rw [if_pos q, fu_ne (by omega)] at h
      by_cases e2 : w = o
      · rw [e2, fu_eq] at h; exact absurd h (by decide)
      · rw [fu_ne (by omega)] at h; exact h
    · rw [if_neg q, fu_ne (by omega)] at h; exact h
  · rw [if_neg g] at h; exact h
/-- a row that asks one that is closed at the start is none -/
theorem sim_o {T : Nat → Nat} {cd : Nat → List Int32} {c h' w : Nat} (hT : tOK T) (hw : w < T 2) : ∀ {k h} {S : Nat → Int32}, sim T cd k S h c = some h' → ∀ i, i < k → c / 9 ^ i % 9 = w → S (22 + w) = 0
  | 0, _, _, _, i, hi, _ => absurd hi (by omega)
  | k + 1, h, S, e, i, hi, hd => by
    have h8 := hT.1.2.1
    rw [sim_s] at e
    split at e
    · cases e
    · rename_i q
      by_cases e2 : i = k
      · subst e2
        rw [hd] at q
        exact Classical.byContradiction (fun z => q (Or.inr ⟨hw, z⟩))
      · exact wS_22 hT (by omega) (sim_o hT hw e i (by omega) hd)
theorem d9 {c k x : Nat} (h : c / 9 ^ (k + 1) = x) : c / 9 ^ k = x * 9 + c / 9 ^ k % 9 := by
  rw [Nat.pow_succ, ← Nat.div_div_eq_div_mul] at h
  omega
theorem d9r {c k x o : Nat} (h : c / 9 ^ k = x * 9 + o) (ho : o < 9) : c / 9 ^ (k + 1) = x ∧ c / 9 ^ k % 9 = o := by
  rw [Nat.pow_succ, ← Nat.div_div_eq_div_mul]
  omega
theorem sim_ex {T : Nat → Nat} {cd : Nat → List Int32} (h8 : T 2 ≤ 8) : ∀ k h (S : Nat → Int32) c, ∃ c' h', c' / 9 ^ k = c ∧ sim T cd k S h c' = some h'
  | 0, h, S, c => ⟨c, h, by simp, rfl⟩
  | k + 1, h, S, c => by
    obtain ⟨c', h', e1, e2⟩ := sim_ex h8 k (h + wH T cd S (T 2)) (wS T cd S (T 2)) (c * 9 + T 2)
    obtain ⟨q1, q2⟩ := d9r e1 (by omega)
    refine ⟨c', h', q1, ?_⟩
    rw [sim_s, q2, if_neg (by omega)]
    exact e2
def btw (t b : Nat × Nat) : Prop := t.1 < b.1 ∨ (t.1 = b.1 ∧ t.2 < b.2)
theorem btw_tr {a b c : Nat × Nat} (h1 : ¬ btw a b) (h2 : ¬ btw b c) : ¬ btw a c := by
  unfold btw at *; omega
theorem btw_an {a b : Nat × Nat} (h1 : ¬ btw a b) (h2 : ¬ btw b a) : a = b := by
  obtain ⟨a1, a2⟩ := a
  obtain ⟨b1, b2⟩ := b
  unfold btw at *
  simp only at h1 h2
  have e1 : a1 = b1 := by omega
  have e2 : a2 = b2 := by omega
  rw [e1, e2]
/-- what a search over a set of rows leaves -/
def wPost (G : Nat → Nat → Prop) (o o' : Option (Nat × Nat)) (B : Nat) : Prop := (o' = o ∨ ∃ h c, o' = some (h, c) ∧ G h c) ∧ (∀ b, o = some b → ∃ b', o' = some b' ∧ ¬ btw b b') ∧ (∀ h c, G h c → ∃ b', o' = some b' ∧ ¬ btw (h, c) b') ∧ ∀ b, o' = some b → b.2 < B
theorem wPost.sq {G G' : Nat → Nat → Prop} {o o1 o2 : Option (Nat × Nat)} {B B' : Nat} (h1 : wPost G o o1 B) (h2 : wPost G' o1 o2 B') : wPost (fun h c => G h c ∨ G' h c) o o2 B' := by
  obtain ⟨a1, a2, a3, -⟩ := h1
  obtain ⟨b1, b2, b3, b4⟩ := h2
  refine ⟨?_, fun b hb => ?_, fun h c g => ?_, b4⟩
  · rcases b1 with b1 | ⟨h, c, b1, g⟩
    · rcases a1 with a1 | ⟨h, c, a1, g⟩
      · exact Or.inl (by rw [b1, a1])
      · exact Or.inr ⟨h, c, by rw [b1, a1], Or.inl g⟩
    · exact Or.inr ⟨h, c, b1, Or.inr g⟩
  · obtain ⟨x, x1, x2⟩ := a2 b hb
    obtain ⟨y, y1, y2⟩ := b2 x x1
    exact ⟨y, y1, btw_tr x2 y2⟩
  · rcases g with g | g
    · obtain ⟨x, x1, x2⟩ := a3 h c g
      obtain ⟨y, y1, y2⟩ := b2 x x1
      exact ⟨y, y1, btw_tr x2 y2⟩
    · exact b3 h c g
theorem wPost.cg {G G' : Nat → Nat → Prop} {o o' : Option (Nat × Nat)} {B B' : Nat} (h : wPost G o o' B) (hg : ∀ h c, G h c ↔ G' h c) (hB : B ≤ B') : wPost G' o o' B' := by
  obtain ⟨a1, a2, a3, a4⟩ := h
  exact ⟨a1.elim Or.inl (fun ⟨h, c, x1, x2⟩ => Or.inr ⟨h, c, x1, (hg h c).mp x2⟩), a2, fun h c g => a3 h c ((hg h c).mpr g), fun b hb => Nat.lt_of_lt_of_le (a4 b hb) hB⟩
theorem wPost.no {G : Nat → Nat → Prop} {o : Option (Nat × Nat)} {B : Nat} (hB : ∀ b, o = some b → b.2 < B) (hg : ∀ h c, G h c → ∃ b', o = some b' ∧ ¬ btw (h, c) b') : wPost G o o B :=
  ⟨Or.inl rfl, fun b hb => ⟨b, hb, by unfold btw; omega⟩, hg, hB⟩
def dg (n x : Nat) : Int32 := if x < n then n32 x else -1
