/-! ===== circles: a walk that closes, and one that meets nobody twice ===== -/
def fq (P : Nat → Bool) : Nat → Nat → Nat
  | 0, w => w
  | k + 1, w => if P w = true then w else fq P k (w + 1)
theorem fq_sp {P : Nat → Bool} : ∀ k w, w ≤ fq P k w ∧ fq P k w ≤ w + k ∧ (∀ j, w ≤ j → j < fq P k w → P j = false) ∧ (fq P k w < w + k → P (fq P k w) = true)
  | 0, w => ⟨Nat.le_refl _, Nat.le_refl _, fun j a b => absurd b (Nat.not_lt.mpr a), fun a => absurd a (Nat.lt_irrefl _)⟩
  | k + 1, w => by
    unfold fq
    by_cases h : P w = true
    · rw [if_pos h]; exact ⟨Nat.le_refl _, by omega, fun j a b => absurd b (Nat.not_lt.mpr a), fun _ => h⟩
    · rw [if_neg h]
      obtain ⟨a1, a2, a3, a4⟩ := fq_sp (P := P) k (w + 1)
      refine ⟨by omega, by omega, fun j x y => ?_, fun x => a4 (by omega)⟩
      by_cases e : j = w
      · subst e; simpa using h
      · exact a3 j (by omega) y
theorem fq_eq {P : Nat → Bool} {n v : Nat} (hv : v < n) (h1 : P v = true) (h2 : ∀ j, j < v → P j = false) : fq P n 0 = v := by
  obtain ⟨-, a2, a3, a4⟩ := fq_sp (P := P) n 0
  have x1 : ¬ v < fq P n 0 := fun x => by rw [a3 v (by omega) x] at h1; cases h1
  have x2 : ¬ fq P n 0 < v := fun x => by rw [h2 _ x] at a4; exact absurd (a4 (by omega)) (by decide)
  omega
theorem fq_no {P : Nat → Bool} {n : Nat} (h : ∀ j, j < n → P j = false) : fq P n 0 = n := by
  obtain ⟨-, a2, a3, a4⟩ := fq_sp (P := P) n 0
  by_cases e : fq P n 0 < n
  · have := a4 (by omega)
    rw [h _ e] at this
    cases this
  · omega
theorem fq_in {P : Nat → Bool} {n v : Nat} (hv : v < n) (h1 : P v = true) : fq P n 0 < n ∧ P (fq P n 0) = true := by
  obtain ⟨-, a2, a3, a4⟩ := fq_sp (P := P) n 0
  have x1 : ¬ v < fq P n 0 := fun x => by rw [a3 v (by omega) x] at h1; cases h1
  exact ⟨by omega, a4 (by omega)⟩
def cn (P : Nat → Bool) : Nat → Nat
  | 0 => 0
  | k + 1 => cn P k + (if P k = true then 1 else 0)
def la (P : Nat → Bool) : Nat → Nat
  | 0 => 0
  | k + 1 => if P k = true then k else la P k
theorem cn_0 {P : Nat → Bool} : ∀ n, cn P n = 0 → ∀ u, u < n → P u = false
  | 0, _, u, hu => absurd hu (Nat.not_lt_zero _)
  | n + 1, h, u, hu => by
    unfold cn at h
    by_cases e : P n = true
    · rw [if_pos e] at h; omega
    · rw [if_neg e] at h
      by_cases e2 : u = n
      · subst e2; simpa using e
      · exact cn_0 n h u (by omega)
theorem cn_1 {P : Nat → Bool} : ∀ n, cn P n = 1 → la P n < n ∧ P (la P n) = true ∧ ∀ u, u < n → P u = true → u = la P n
  | 0, h => absurd (show (0 : Nat) = 1 from h) (by decide)
  | n + 1, h => by
    unfold cn at h
    unfold la
    by_cases e : P n = true
    · rw [if_pos e] at h ⊢
      refine ⟨by omega, e, fun u hu hp => ?_⟩
      by_cases e2 : u = n
      · exact e2
      · rw [cn_0 (P := P) n (by omega) u (by omega)] at hp; cases hp
    · rw [if_neg e] at h ⊢
      obtain ⟨a1, a2, a3⟩ := cn_1 n h
      refine ⟨by omega, a2, fun u hu hp => ?_⟩
      by_cases e2 : u = n
      · subst e2; exact absurd hp e
      · exact a3 u (by omega) hp
theorem cn_z {P : Nat → Bool} : ∀ n, (∀ u, u < n → P u = false) → cn P n = 0
  | 0, _ => rfl
  | n + 1, h => by
    unfold cn
    rw [h n (by omega), if_neg (by decide), cn_z n (fun u hu => h u (by omega))]
theorem cn_u {P : Nat → Bool} {v : Nat} (hp : P v = true) : ∀ n, v < n → (∀ u, u < n → P u = true → u = v) → cn P n = 1 ∧ la P n = v
  | 0, h, _ => absurd h (Nat.not_lt_zero _)
  | n + 1, h, hu => by
    unfold cn la
    by_cases e : P n = true
    · have e2 := hu n (by omega) e
      rw [if_pos e, if_pos e, cn_z n (fun u h1 => by
        by_cases e3 : P u = true
        · have := hu u (by omega) e3; omega
        · simpa using e3)]
      exact ⟨rfl, e2⟩
    · rw [if_neg e, if_neg e]
      have : v ≠ n := fun x => by subst x; exact e hp
      exact cn_u hp n (by omega) (fun u h1 => hu u (by omega))
def clr (s w : Nat) : Nat := bs (fun x => s.testBit x && !decide (x = w)) 8
def lsT (L : List Nat) : Nat := bs (fun x => decide (x ∈ L)) 8
def dif (s : Nat) (L : List Nat) : Nat := bs (fun x => s.testBit x && !decide (x ∈ L)) 8
theorem t8 {s w : Nat} (hs : s < 256) (h : s.testBit w = true) : w < 8 := by
  by_cases e : w < 8
  · exact e
  · rw [Nat.testBit_lt_two_pow (show s < 2 ^ w from Nat.lt_of_lt_of_le hs (Nat.pow_le_pow_right (n := 2) (i := 8) (by decide) (by omega)))] at h
    cases h
theorem tx {s u : Nat} (hs : s < 256) (hu : u < 256) (h : ∀ w, w < 8 → s.testBit w = u.testBit w) : s = u := by
  apply Nat.eq_of_testBit_eq
  intro w
  by_cases e : w < 8
  · exact h w e
  · have a : s.testBit w = false := by
      by_cases x : s.testBit w = true
      · exact absurd (t8 hs x) e
      · simpa using x
    have b : u.testBit w = false := by
      by_cases x : u.testBit w = true
      · exact absurd (t8 hu x) e
      · simpa using x
    rw [a, b]
theorem clr_t {s w x : Nat} : (clr s w).testBit x = true ↔ x < 8 ∧ s.testBit x = true ∧ x ≠ w := by
  unfold clr; rw [bs_tb]; simp
theorem lsT_t {L : List Nat} {x : Nat} : (lsT L).testBit x = true ↔ x < 8 ∧ x ∈ L := by
  unfold lsT; rw [bs_tb]; simp
theorem dif_t {s : Nat} {L : List Nat} {x : Nat} : (dif s L).testBit x = true ↔ x < 8 ∧ s.testBit x = true ∧ x ∉ L := by
  unfold dif; rw [bs_tb]; simp
theorem clr_lt (s w : Nat) : clr s w < 256 := bs_lt _ 8
theorem lsT_lt (L : List Nat) : lsT L < 256 := bs_lt _ 8
theorem dif_lt (s : Nat) (L : List Nat) : dif s L < 256 := bs_lt _ 8
theorem clr_dif {s w : Nat} {L : List Nat} : clr (dif s L) w = dif s (w :: L) := by
  apply tx (clr_lt _ _) (dif_lt _ _)
  intro x hx
  rw [Bool.eq_iff_iff, clr_t, dif_t, dif_t, List.mem_cons]
  constructor
  · rintro ⟨a, ⟨b, c, d⟩, e⟩; exact ⟨a, c, fun z => z.elim e d⟩
  · rintro ⟨a, b, c⟩; exact ⟨a, ⟨a, b, fun z => c (Or.inr z)⟩, fun z => c (Or.inl z)⟩
theorem clr_1 {s w : Nat} : clr s w = dif s [w] := by
  apply tx (clr_lt _ _) (dif_lt _ _)
  intro x hx
  rw [Bool.eq_iff_iff, clr_t, dif_t, List.mem_singleton]
def stS (sn w : Nat) : Nat := bs (fun x => sn.testBit x || decide (x = w)) 8
theorem stS_L {w : Nat} {L : List Nat} : stS (lsT L) w = lsT (w :: L) := by
  apply tx (bs_lt _ 8) (lsT_lt _)
  intro x hx
  rw [Bool.eq_iff_iff, lsT_t, List.mem_cons]
  rw [bs_tb]
  simp only [Bool.and_eq_true, Bool.or_eq_true, decide_eq_true_eq, lsT_t]
  constructor
  · rintro ⟨a, b | b⟩
    · exact ⟨a, Or.inr b.2⟩
    · exact ⟨a, Or.inl b⟩
  · rintro ⟨a, b | b⟩
    · exact ⟨a, Or.inr b⟩
    · exact ⟨a, Or.inl ⟨a, b⟩⟩
theorem pcN_b (P : Nat → Bool) : pcN (bs P 8) = (P 0).toNat + (P 1).toNat + (P 2).toNat + (P 3).toNat + (P 4).toNat + (P 5).toNat + (P 6).toNat + (P 7).toNat := by
  unfold pcN
  simp only [bs_tb, show decide (0 < 8) = true by decide, show decide (1 < 8) = true by decide, show decide (2 < 8) = true by decide, show decide (3 < 8) = true by decide, show decide (4 < 8) = true by decide, show decide (5 < 8) = true by decide, show decide (6 < 8) = true by decide, show decide (7 < 8) = true by decide, Bool.true_and]
theorem pcN_L : ∀ (L : List Nat), L.Nodup → (∀ x, x ∈ L → x < 8) → pcN (lsT L) = L.length
  | [], _, _ => by decide
  | a :: L, hn, hl => by
    have hn := List.nodup_cons.mp hn
    have ih := pcN_L L hn.2 (fun x hx => hl x (List.mem_cons_of_mem _ hx))
    have ha := hl a (List.mem_cons_self ..)
    unfold lsT at ih ⊢
    rw [pcN_b] at ih ⊢
    rw [List.length_cons, ← ih]
    have key : ∀ x, (decide (x ∈ a :: L)).toNat = (decide (x ∈ L)).toNat + (if x = a then 1 else 0) := by
      intro x
      by_cases e : x = a
      · subst e; simp [hn.1]
      · simp [e]
    rw [key 0, key 1, key 2, key 3, key 4, key 5, key 6, key 7]
    have : a = 0 ∨ a = 1 ∨ a = 2 ∨ a = 3 ∨ a = 4 ∨ a = 5 ∨ a = 6 ∨ a = 7 := by omega
    rcases this with rfl | rfl | rfl | rfl | rfl | rfl | rfl | rfl <;> simp <;> omega
theorem pcN_8 (s : Nat) : pcN s ≤ 8 := by
  unfold pcN
  have : ∀ b : Bool, b.toNat ≤ 1 := by decide
  have := this (s.testBit 0)
  have := Bool.toNat_le (s.testBit 0)
  have := Bool.toNat_le (s.testBit 1)
  have := Bool.toNat_le (s.testBit 2)
  have := Bool.toNat_le (s.testBit 3)
  have := Bool.toNat_le (s.testBit 4)
  have := Bool.toNat_le (s.testBit 5)
  have := Bool.toNat_le (s.testBit 6)
  have := Bool.toNat_le (s.testBit 7)
  omega
abbrev sub (u s : Nat) : Prop := ∀ w, u.testBit w = true → s.testBit w = true
theorem sub_n {u s w : Nat} (h : sub u s) : (u.testBit w).toNat ≤ (s.testBit w).toNat := by
  by_cases e : u.testBit w = true
  · rw [e, h w e]; exact Nat.le_refl _
  · rw [show u.testBit w = false by simpa using e]; exact Nat.zero_le _
theorem sub_pc {u s : Nat} (h : sub u s) (hu : u < 256) (hs : s < 256) : pcN u ≤ pcN s ∧ (pcN u = pcN s → u = s) := by
  unfold pcN
  have h0 := sub_n (w := 0) h
  have h1 := sub_n (w := 1) h
  have h2 := sub_n (w := 2) h
  have h3 := sub_n (w := 3) h
  have h4 := sub_n (w := 4) h
  have h5 := sub_n (w := 5) h
  have h6 := sub_n (w := 6) h
  have h7 := sub_n (w := 7) h
  refine ⟨by omega, fun e => ?_⟩
  have inj : ∀ a b : Bool, a.toNat = b.toNat → a = b := by decide
  apply tx hu hs
  intro w hw
  apply inj
  have : w = 0 ∨ w = 1 ∨ w = 2 ∨ w = 3 ∨ w = 4 ∨ w = 5 ∨ w = 6 ∨ w = 7 := by omega
  rcases this with rfl | rfl | rfl | rfl | rfl | rfl | rfl | rfl <;> omega
theorem sub_le {u s : Nat} (h : sub u s) : u ≤ s := by
  have : u &&& s = u := by
    apply Nat.eq_of_testBit_eq
    intro w
    rw [Nat.testBit_and]
    by_cases e : u.testBit w = true
    · rw [e, h w e]; rfl
    · rw [show u.testBit w = false by simpa using e]; rfl
  rw [← this]
  exact Nat.and_le_right
def gR (n : Nat) (b t : Nat → Nat) : Nat → Nat → Nat → Option Nat
  | 0, s, a => if s = 0 then some a else none
  | k + 1, s, a => if s = 0 then some a else if fq (fun w => s.testBit w && decide (b w = a)) n 0 < n then gR n b t k (clr s (fq (fun w => s.testBit w && decide (b w = a)) n 0)) (t (fq (fun w => s.testBit w && decide (b w = a)) n 0)) else none
def iR (n : Nat) (b t : Nat → Nat) (s f : Nat) : Nat → Nat → Nat → Nat → Option Nat
  | 0, _, _, _ => none
  | k + 1, w, sn, j => if sn.testBit w = true then none else if cn (fun v => s.testBit v && decide (b v = t w)) n = 1 then (if t w = b f then some (j + 1) else iR n b t s f k (la (fun v => s.testBit v && decide (b v = t w)) n) (stS sn w) (j + 1)) else none
def fW (n s : Nat) : Nat := fq (fun w => s.testBit w) n 0
def cQ (n : Nat) (b t : Nat → Nat) (s : Nat) : Prop := gR n b t 7 (clr s (fW n s)) (t (fW n s)) = some (b (fW n s))
def cP (n : Nat) (b t : Nat → Nat) (s : Nat) : Prop := iR n b t s (fW n s) 9 (fW n s) 0 0 = some (pcN s)
def clo (b t : Nat → Nat) (s : Nat) : Prop := ∀ w, s.testBit w = true → ∃ v, s.testBit v = true ∧ b v = t w
theorem tn {n s w : Nat} (hs : s < 2 ^ n) (h : s.testBit w = true) : w < n := by
  by_cases e : w < n
  · exact e
  · rw [Nat.testBit_lt_two_pow (show s < 2 ^ w from Nat.lt_of_lt_of_le hs (Nat.pow_le_pow_right (by decide) (by omega)))] at h
    cases h
theorem ex_t {s : Nat} (h : s ≠ 0) : ∃ w, s.testBit w = true := Nat.exists_testBit_of_ne_zero h
theorem fW_in {n s : Nat} (hs : s < 2 ^ n) (h : s ≠ 0) : fW n s < n ∧ s.testBit (fW n s) = true := by
  obtain ⟨w, hw⟩ := ex_t h
  exact fq_in (P := fun w => s.testBit w) (tn hs hw) hw
/-- a walk that closes leaves nobody without a next -/
theorem gR_c {n : Nat} {b t : Nat → Nat} {e : Nat} : ∀ k s a, s < 256 → gR n b t k s a = some e → (s = 0 ∧ a = e ∨ ∃ v, s.testBit v = true ∧ b v = a) ∧ ∀ w, s.testBit w = true → t w = e ∨ ∃ v, s.testBit v = true ∧ b v = t w
  | 0, s, a, hs, h => by
    unfold gR at h
    by_cases z : s = 0
    · rw [if_pos z] at h
      subst z
      exact ⟨Or.inl ⟨rfl, Option.some.inj h⟩, fun w hw => by rw [Nat.zero_testBit] at hw; cases hw⟩
    · rw [if_neg z] at h; cases h
  | k + 1, s, a, hs, h => by
    unfold gR at h
    by_cases z : s = 0
    · rw [if_pos z] at h
      subst z
      exact ⟨Or.inl ⟨rfl, Option.some.inj h⟩, fun w hw => by rw [Nat.zero_testBit] at hw; cases hw⟩
    · rw [if_neg z] at h
      by_cases l : fq (fun w => s.testBit w && decide (b w = a)) n 0 < n
      · rw [if_pos l] at h
        have q := (fq_sp (P := fun w => s.testBit w && decide (b w = a)) n 0).2.2.2 (by omega)
        generalize fq (fun w => s.testBit w && decide (b w = a)) n 0 = f at l h q
        simp only [Bool.and_eq_true, decide_eq_true_eq] at q
        obtain ⟨i1, i2⟩ := gR_c k _ _ (clr_lt _ _) h
        refine ⟨Or.inr ⟨f, q⟩, fun w hw => ?_⟩
        by_cases e2 : w = f
        · subst e2
          rcases i1 with ⟨-, x⟩ | ⟨v, x1, x2⟩
          · exact Or.inl x
          · exact Or.inr ⟨v, (clr_t.mp x1).2.1, x2⟩
        · rcases i2 w (clr_t.mpr ⟨t8 hs hw, hw, e2⟩) with x | ⟨v, x1, x2⟩
          · exact Or.inl x
          · exact Or.inr ⟨v, (clr_t.mp x1).2.1, x2⟩
      · rw [if_neg l] at h; cases h
theorem cQ_clo {n : Nat} {b t : Nat → Nat} {s : Nat} (hs : s < 256) (hn : s < 2 ^ n) (h0 : s ≠ 0) (h : cQ n b t s) : clo b t s := by
  obtain ⟨f1, f2⟩ := fW_in hn h0
  obtain ⟨i1, i2⟩ := gR_c 7 _ _ (clr_lt _ _) h
  intro w hw
  by_cases e : w = fW n s
  · subst e
    rcases i1 with ⟨-, x⟩ | ⟨v, x1, x2⟩
    · exact ⟨_, f2, x.symm⟩
    · exact ⟨v, (clr_t.mp x1).2.1, x2⟩
  · rcases i2 w (clr_t.mpr ⟨t8 hs hw, hw, e⟩) with x | ⟨v, x1, x2⟩
    · exact ⟨_, f2, x.symm⟩
    · exact ⟨v, (clr_t.mp x1).2.1, x2⟩
/-- the least that is closed -/
theorem clo_min {b t : Nat → Nat} : ∀ N s, s ≤ N → s ≠ 0 → clo b t s → ∃ u, u ≠ 0 ∧ sub u s ∧ clo b t u ∧ ∀ v, v ≠ 0 → sub v u → clo b t v → v = u
  | 0, s, h, h0, _ => absurd (Nat.le_zero.mp h) h0
  | N + 1, s, h, h0, hc => by
    by_cases e : ∃ v, v ≠ 0 ∧ sub v s ∧ clo b t v ∧ v ≠ s
    · obtain ⟨v, v1, v2, v3, v4⟩ := e
      have := sub_le v2
      obtain ⟨u, u1, u2, u3, u4⟩ := clo_min N v (by omega) v1 v3
      exact ⟨u, u1, fun w hw => v2 w (u2 w hw), u3, u4⟩
    · refine ⟨s, h0, fun w hw => hw, hc, fun v v1 v2 v3 => ?_⟩
      by_cases e2 : v = s
      · exact e2
      · exact absurd ⟨v, v1, v2, v3, e2⟩ e
def chn (b t : Nat → Nat) (f : Nat) : Nat → List Nat → Prop
  | w, [] => w = f
  | w, x :: L => b w = t x ∧ chn b t f x L
theorem chn_f {b t : Nat → Nat} {f : Nat} : ∀ {L w}, chn b t f w L → f ∈ w :: L
  | [], w, h => by rw [show w = f from h]; exact List.mem_cons_self ..
  | x :: L, w, h => List.mem_cons_of_mem _ (chn_f h.2)
theorem chn_s {b t : Nat → Nat} {f : Nat} : ∀ {L w}, chn b t f w L → ∀ x, x ∈ L → ∃ y, y ∈ w :: L ∧ b y = t x
  | [], w, h, x, hx => by cases hx
  | z :: L, w, h, x, hx => by
    rcases List.mem_cons.mp hx with e | e
    · subst e; exact ⟨w, List.mem_cons_self .., h.1⟩
    · obtain ⟨y, y1, y2⟩ := chn_s h.2 x e
      exact ⟨y, List.mem_cons_of_mem _ y1, y2⟩
theorem chn_p {b t : Nat → Nat} {f v : Nat} : ∀ {L w}, chn b t f w L → (w :: L).Nodup → v ∈ w :: L → ∃ A : List Nat, v ∈ A ∧ w ∈ A ∧ (∀ x, x ∈ A → x ∈ w :: L) ∧ (∀ x, x ∈ A → x = w ∨ ∃ y, y ∈ A ∧ b y = t x) ∧ (v = f ∨ f ∉ A)
  | [], w, h, _, hv => by
    have e : v = w := List.mem_singleton.mp hv
    subst e
    exact ⟨[v], hv, hv, fun x hx => hx, fun x hx => Or.inl (List.mem_singleton.mp hx), Or.inl h⟩
  | z :: L, w, h, hn, hv => by
    by_cases e : v = w
    · subst e
      refine ⟨[v], List.mem_singleton.mpr rfl, List.mem_singleton.mpr rfl, fun x hx => by rw [List.mem_singleton.mp hx]; exact List.mem_cons_self .., fun x hx => Or.inl (List.mem_singleton.mp hx), ?_⟩
      by_cases e2 : v = f
      · exact Or.inl e2
      · exact Or.inr (fun x => e2 (List.mem_singleton.mp x).symm)
    · have hv2 : v ∈ z :: L := (List.mem_cons.mp hv).resolve_left e
      have hn2 := List.nodup_cons.mp hn
      obtain ⟨A, a1, a2, a3, a4, a5⟩ := chn_p h.2 hn2.2 hv2
      refine ⟨w :: A, List.mem_cons_of_mem _ a1, List.mem_cons_self .., fun x hx => ?_, fun x hx => ?_, ?_⟩
      · rcases List.mem_cons.mp hx with e2 | e2
        · subst e2; exact List.mem_cons_self ..
        · exact List.mem_cons_of_mem _ (a3 x e2)
      · rcases List.mem_cons.mp hx with e2 | e2
        · exact Or.inl e2
        · rcases a4 x e2 with e3 | ⟨y, y1, y2⟩
          · subst e3; exact Or.inr ⟨w, List.mem_cons_self .., h.1⟩
          · exact Or.inr ⟨y, List.mem_cons_of_mem _ y1, y2⟩
      · rcases a5 with e2 | e2
        · exact Or.inl e2
        · refine Or.inr (fun x => ?_)
          rcases List.mem_cons.mp x with e3 | e3
          · exact hn2.1 (e3 ▸ chn_f h.2)
          · exact e2 e3
/-- the least closed set is a circle -/
theorem min_cP {n : Nat} {b t : Nat → Nat} {u : Nat} (hn : n ≤ 8) (hu : u < 2 ^ n) (h0 : u ≠ 0) (hc : clo b t u) (hm : ∀ v, v ≠ 0 → sub v u → clo b t v → v = u) : cP n b t u := by
  have h8 : u < 256 := Nat.lt_of_lt_of_le hu (Nat.pow_le_pow_right (n := 2) (i := n) (j := 8) (by decide) hn)
  have inj : ∀ a c, u.testBit a = true → u.testBit c = true → b a = b c → a = c := by
    intro a c ha hc2 e
    by_cases ne : a = c
    · exact ne
    · have x := hm (clr u c) (fun z => by
        have := clr_t.mpr ⟨t8 h8 ha, ha, ne⟩
        rw [z, Nat.zero_testBit] at this; cases this) (fun w hw => (clr_t.mp hw).2.1) (fun w hw => by
        obtain ⟨v, v1, v2⟩ := hc w (clr_t.mp hw).2.1
        by_cases e2 : v = c
        · exact ⟨a, clr_t.mpr ⟨t8 h8 ha, ha, ne⟩, by rw [e, ← e2, v2]⟩
        · exact ⟨v, clr_t.mpr ⟨t8 h8 v1, v1, e2⟩, v2⟩)
      rw [← x] at hc2
      exact absurd rfl (clr_t.mp hc2).2.2
  have lsT_eq : ∀ A : List Nat, A ≠ [] → (∀ x, x ∈ A → u.testBit x = true) → (∀ x, x ∈ A → ∃ y, y ∈ A ∧ b y = t x) → lsT A = u := by
    intro A hA a1 a2
    refine hm _ (fun z => ?_) (fun w hw => a1 w (lsT_t.mp hw).2) (fun w hw => ?_)
    · obtain ⟨x, l, rfl⟩ := List.exists_cons_of_ne_nil hA
      have := lsT_t.mpr ⟨t8 h8 (a1 x (List.mem_cons_self ..)), (List.mem_cons_self .. : x ∈ x :: l)⟩
      rw [z, Nat.zero_testBit] at this; cases this
    · obtain ⟨y, y1, y2⟩ := a2 w (lsT_t.mp hw).2
      exact ⟨y, lsT_t.mpr ⟨t8 h8 (a1 y y1), y1⟩, y2⟩
  have run : ∀ k w L, k + L.length = 9 → (w :: L).Nodup → (∀ x, x ∈ w :: L → u.testBit x = true) → chn b t (fW n u) w L → iR n b t u (fW n u) k w (lsT L) L.length = some (pcN u) := by
    intro k
    induction k with
    | zero =>
      intro w L hk nd hin ch
      have := pcN_L (w :: L) nd (fun x hx => t8 h8 (hin x hx))
      have := pcN_8 (lsT (w :: L))
      simp only [List.length_cons] at *
      omega
    | succ k ih =>
      intro w L hk nd hin ch
      have nd2 := List.nodup_cons.mp nd
      have hw := hin w (List.mem_cons_self ..)
      obtain ⟨v, v1, v2⟩ := hc w hw
      obtain ⟨c1, c2⟩ := cn_u (P := fun v => u.testBit v && decide (b v = t w)) (v := v) (by simp [v1, v2]) n (tn hu v1) (fun x hx hp => by
        simp only [Bool.and_eq_true, decide_eq_true_eq] at hp
        exact inj x v hp.1 v1 (by rw [hp.2, v2]))
      unfold iR
      rw [if_neg (fun z => nd2.1 (lsT_t.mp z).2), if_pos c1, c2]
      by_cases e : t w = b (fW n u)
      · rw [if_pos e]
        have x := lsT_eq (w :: L) (by simp) hin (fun x hx => by
          rcases List.mem_cons.mp hx with e2 | e2
          · exact ⟨_, chn_f ch, by rw [e2, e]⟩
          · exact chn_s ch x e2)
        rw [← x, pcN_L _ nd (fun x hx => t8 h8 (hin x hx))]
        rfl
      · rw [if_neg e, stS_L]
        have hv : v ∉ w :: L := by
          intro hv
          obtain ⟨A, a1, a2, a3, a4, a5⟩ := chn_p ch nd hv
          have x := lsT_eq A (fun z => by rw [z] at a1; cases a1) (fun x hx => hin x (a3 x hx)) (fun x hx => by
            rcases a4 x hx with e2 | e2
            · exact ⟨v, a1, by rw [v2, e2]⟩
            · exact e2)
          have f2 := (fW_in hu h0).2
          rw [← x] at f2
          have f3 := (lsT_t.mp f2).2
          rw [x] at f3
          rcases a5 with e2 | e2
          · exact e (by rw [← v2, e2])
          · exact e2 f3
        exact ih v (w :: L) (by simp only [List.length_cons]; omega) (List.nodup_cons.mpr ⟨hv, nd⟩) (fun x hx => by
          rcases List.mem_cons.mp hx with e2 | e2
          · rw [e2]; exact v1
          · exact hin x e2) ⟨v2, ch⟩
  exact run 9 (fW n u) [] rfl (List.nodup_cons.mpr ⟨by simp, List.nodup_nil⟩) (fun x hx => by rw [List.mem_singleton.mp hx]; exact (fW_in hu h0).2) rfl
/-- a circle closes -/
theorem cP_cQ {n : Nat} {b t : Nat → Nat} {s : Nat} (hn : n ≤ 8) (hs : s < 2 ^ n) (h0 : s ≠ 0) (h : cP n b t s) : cQ n b t s := by
  have h8 : s < 256 := Nat.lt_of_lt_of_le hs (Nat.pow_le_pow_right (n := 2) (i := n) (j := 8) (by decide) hn)
  have run : ∀ k w L k', iR n b t s (fW n s) k w (lsT L) L.length = some (pcN s) → L.Nodup → (∀ x, x ∈ w :: L → s.testBit x = true) → k' + L.length = 7 → gR n b t k' (dif s (w :: L)) (t w) = some (b (fW n s)) := by
    intro k
    induction k with
    | zero => intro w L k' h; cases h
    | succ k ih =>
      intro w L k' h nd hin hk
      unfold iR at h
      by_cases e1 : (lsT L).testBit w = true
      · rw [if_pos e1] at h; cases h
      · rw [if_neg e1] at h
        have hw : w ∉ L := fun z => e1 (lsT_t.mpr ⟨t8 h8 (hin w (List.mem_cons_self ..)), z⟩)
        have nd2 : (w :: L).Nodup := List.nodup_cons.mpr ⟨hw, nd⟩
        by_cases e2 : cn (fun v => s.testBit v && decide (b v = t w)) n = 1
        · rw [if_pos e2] at h
          obtain ⟨c1, c2, c3⟩ := cn_1 n e2
          generalize la (fun v => s.testBit v && decide (b v = t w)) n = v at c1 c2 c3 h
          simp only [Bool.and_eq_true, decide_eq_true_eq] at c2 c3
          by_cases e3 : t w = b (fW n s)
          · rw [if_pos e3] at h
            have hp := pcN_L (w :: L) nd2 (fun x hx => t8 h8 (hin x hx))
            have hl : pcN (lsT (w :: L)) = pcN s := by rw [hp]; exact Option.some.inj h
            have hq := (sub_pc (u := lsT (w :: L)) (s := s) (fun x hx => hin x (lsT_t.mp hx).2) (lsT_lt _) h8).2 hl
            have hz : dif s (w :: L) = 0 := by
              apply tx (dif_lt _ _) (by omega)
              intro x hx
              rw [Nat.zero_testBit]
              by_cases e4 : (dif s (w :: L)).testBit x = true
              · have y := dif_t.mp e4
                rw [← hq] at y
                exact absurd (lsT_t.mp y.2.1).2 (by rw [hq] at y; exact y.2.2)
              · simpa using e4
            rw [hz, ← e3]
            cases k' <;> rfl
          · rw [if_neg e3, stS_L] at h
            have hv : v ∉ w :: L := by
              intro hv
              cases k with
              | zero => cases h
              | succ k =>
                unfold iR at h
                rw [if_pos (lsT_t.mpr ⟨t8 h8 c2.1, hv⟩)] at h
                cases h
            have nd3 : (v :: w :: L).Nodup := List.nodup_cons.mpr ⟨hv, nd2⟩
            have hin2 : ∀ x, x ∈ v :: w :: L → s.testBit x = true := fun x hx => by
              rcases List.mem_cons.mp hx with e4 | e4
              · rw [e4]; exact c2.1
              · exact hin x e4
            have hp := pcN_L (v :: w :: L) nd3 (fun x hx => t8 h8 (hin2 x hx))
            have h9 := pcN_8 (lsT (v :: w :: L))
            simp only [List.length_cons] at hp
            obtain ⟨k2, rfl⟩ : ∃ k2, k' = k2 + 1 := ⟨k' - 1, by omega⟩
            have hd : (dif s (w :: L)).testBit v = true := dif_t.mpr ⟨t8 h8 c2.1, c2.1, hv⟩
            have fe : fq (fun x => (dif s (w :: L)).testBit x && decide (b x = t w)) n 0 = v := by
              apply fq_eq c1
              · simp [hd, c2.2]
              · intro j hj
                by_cases e4 : ((dif s (w :: L)).testBit j && decide (b j = t w)) = true
                · simp only [Bool.and_eq_true, decide_eq_true_eq] at e4
                  have := c3 j (by omega) ⟨(dif_t.mp e4.1).2.1, e4.2⟩
                  omega
                · simpa using e4
            unfold gR
            rw [if_neg (fun z => by rw [z, Nat.zero_testBit] at hd; cases hd), fe, if_pos c1, clr_dif]
            exact ih v (w :: L) k2 h nd2 hin2 (by simp only [List.length_cons]; omega)
        · rw [if_neg e2] at h; cases h
  unfold cQ
  rw [clr_1]
  exact run 9 (fW n s) [] 7 h List.nodup_nil (fun x hx => by rw [List.mem_singleton.mp hx]; exact (fW_in hs h0).2) rfl
/-- the least of the one is the least of the other -/
noncomputable def lsC (R : Nat → Prop) : Nat → Option Nat
  | 0 => none
  | k + 1 => @ite _ ((∀ v, lsC R k = some v → pcN (k + 1) < pcN v) ∧ R (k + 1)) (Classical.propDecidable _) (some (k + 1)) (lsC R k)
theorem lsC_le {R : Nat → Prop} : ∀ k u, 0 < u → u ≤ k → R u → ∃ v, lsC R k = some v ∧ pcN v ≤ pcN u
  | 0, u, h, h2, _ => absurd h (by omega)
  | k + 1, u, h, h2, hr => by
    unfold lsC
    by_cases e : (∀ v, lsC R k = some v → pcN (k + 1) < pcN v) ∧ R (k + 1)
    · rw [if_pos e]
      by_cases e2 : u = k + 1
      · subst e2; exact ⟨_, rfl, Nat.le_refl _⟩
      · obtain ⟨v, v1, v2⟩ := lsC_le k u h (by omega) hr
        have := e.1 v v1
        exact ⟨_, rfl, by omega⟩
    · rw [if_neg e]
      by_cases e2 : u = k + 1
      · subst e2
        by_cases e3 : ∀ v, lsC R k = some v → pcN (k + 1) < pcN v
        · exact absurd ⟨e3, hr⟩ e
        · have : ∃ v, lsC R k = some v ∧ ¬ pcN (k + 1) < pcN v := Classical.byContradiction (fun z => e3 (fun v hv => Classical.byContradiction (fun z2 => z ⟨v, hv, z2⟩)))
          obtain ⟨v, v1, v2⟩ := this
          exact ⟨v, v1, by omega⟩
      · exact lsC_le k u h (by omega) hr
theorem lsC_eq {R R' : Nat → Prop} : ∀ N, (∀ s, 0 < s → s ≤ N → R' s → R s) → (∀ s, 0 < s → s ≤ N → R s → ∃ u, u ≠ 0 ∧ R' u ∧ u ≤ s ∧ (u = s ∨ pcN u < pcN s)) → lsC R N = lsC R' N
  | 0, _, _ => rfl
  | N + 1, h1, h2 => by
    have ih := lsC_eq N (fun s a b => h1 s a (by omega)) (fun s a b => h2 s a (by omega))
    unfold lsC
    rw [ih]
    by_cases e : ∀ v, lsC R' N = some v → pcN (N + 1) < pcN v
    · have : R (N + 1) ↔ R' (N + 1) := by
        constructor
        · intro r
          obtain ⟨u, u1, u2, u3, u4⟩ := h2 (N + 1) (by omega) (Nat.le_refl _) r
          by_cases e2 : u = N + 1
          · rw [← e2]; exact u2
          · obtain ⟨v, v1, v2⟩ := lsC_le N u (by omega) (by omega) u2
            have := e v v1
            have := u4.resolve_left e2
            omega
        · exact h1 _ (by omega) (Nat.le_refl _)
      by_cases r : R (N + 1)
      · rw [if_pos ⟨e, r⟩, if_pos ⟨e, this.mp r⟩]
      · rw [if_neg (fun z => r z.2), if_neg (fun z => r (this.mpr z.2))]
    · rw [if_neg (fun z => e z.1), if_neg (fun z => e z.1)]
theorem circ_eq {n : Nat} {b t : Nat → Nat} {O : Nat → Prop} (hn : n ≤ 8) (hO : ∀ u s, sub u s → O s → O u) : lsC (fun s => O s ∧ cQ n b t s) (2 ^ n - 1) = lsC (fun s => O s ∧ cP n b t s) (2 ^ n - 1) := by
  have hp : 0 < 2 ^ n := Nat.two_pow_pos n
  have h256 : 2 ^ n ≤ 256 := Nat.pow_le_pow_right (n := 2) (i := n) (j := 8) (by decide) hn
  apply lsC_eq
  · rintro s s0 s1 ⟨r1, r2⟩
    exact ⟨r1, cP_cQ hn (by omega) (by omega) r2⟩
  · rintro s s0 s1 ⟨r1, r2⟩
    obtain ⟨u, u1, u2, u3, u4⟩ := clo_min s s (Nat.le_refl _) (by omega) (cQ_clo (by omega) (by omega) (by omega) r2)
    have ul := sub_le u2
    obtain ⟨p1, p2⟩ := sub_pc u2 (by omega) (by omega)
    refine ⟨u, u1, ⟨hO u s u2 r1, min_cP hn (by omega) u1 u3 u4⟩, ul, ?_⟩
    by_cases e : u = s
    · exact Or.inl e
    · refine Or.inr ?_
      have : pcN u ≠ pcN s := fun z => e (p2 z)
      omega
