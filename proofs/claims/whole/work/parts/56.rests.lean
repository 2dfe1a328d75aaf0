/-! ===== rests ===== -/
def lsW (d p : Int32) (own oth : Nat) : Int32 := if own = 1 then p else if oth = 1 then 0 else d
def rsB (d p : Int32) (k : Nat) : Bool := decide (¬ lsW d p (1 - k / 2) (k % 2) < lsW d p (k / 2) (k % 2) ∧ ¬ lsW d p (1 - k % 2) (k / 2) < lsW d p (k % 2) (k / 2))
theorem pc_loss {d p : Int32} {a b : Nat} {m : mi_M} (ha : a ≤ 1) (hb : b ≤ 1) : f_X11_loss d p (n32 a) (n32 b) m = some (lsW d p a b) := by
  unfold f_X11_loss f_X11_loss_J17 lsW
  have h1 : a = 0 ∨ a = 1 := by omega
  have h2 : b = 0 ∨ b = 1 := by omega
  rcases h1 with rfl | rfl <;> rcases h2 with rfl | rfl <;> rfl
theorem pm_loses {d p : Int32} {a b : Nat} {m : mi_M} (ha : a ≤ 1) (hb : b ≤ 1) : f_X12_losesBy (n32 a) (n32 b) d p m = some (lsW d p a b) := by
  unfold f_X12_losesBy f_X12_losesBy_J19 lsW
  have h1 : a = 0 ∨ a = 1 := by omega
  have h2 : b = 0 ∨ b = 1 := by omega
  rcases h1 with rfl | rfl <;> rcases h2 with rfl | rfl <;> rfl
theorem n32_1s {a : Nat} (h : a ≤ 1) : (1 : Int32) - n32 a = n32 (1 - a) := n32_sub (a := 1) h
theorem pc_isRest {d p : Int32} {k : Nat} {m : mi_M} (hk : k < 4) : f_X11_isRest d p (n32 k) m = some (if rsB d p k then 1 else 0) := by
  unfold f_X11_isRest f_X11_isRest_J55 f_X11_isRest_J56
  simp (disch := omega) only [pe_let, n32_dl, n32_ml, n32_sub, n32_1s, pc_loss, pe_bo]
  rw [show k - k / 2 * 2 = k % 2 by omega, pe_g (by decide), pe_g (by decide)]
  unfold rsB
  by_cases h1 : lsW d p (1 - k / 2) (k % 2) < lsW d p (k / 2) (k % 2)
  · rw [if_pos h1, decide_eq_false (fun x => x.1 h1)]; rfl
  · by_cases h2 : lsW d p (1 - k % 2) (k / 2) < lsW d p (k % 2) (k / 2)
    · rw [if_neg h1, if_pos h2, decide_eq_false (fun x => x.2 h2)]; rfl
    · rw [if_neg h1, if_neg h2, decide_eq_true ⟨h1, h2⟩]; rfl
def cR (d p : Int32) : Nat → Nat
  | 0 => 0
  | k + 1 => if rsB d p k then cR d p k + 1 else cR d p k
def fR (d p w : Int32) : Nat → Int32
  | 0 => -1
  | k + 1 => if rsB d p k = true ∧ n32 (cR d p k) = w then n32 k else fR d p w k
theorem cR_s {d p : Int32} {k : Nat} : cR d p (k + 1) = if rsB d p k then cR d p k + 1 else cR d p k := rfl
theorem fR_s {d p w : Int32} {k : Nat} : fR d p w (k + 1) = if rsB d p k = true ∧ n32 (cR d p k) = w then n32 k else fR d p w k := rfl
theorem cR_le {d p : Int32} : ∀ k, cR d p k ≤ k
  | 0 => Nat.le_refl _
  | k + 1 => by
    have := cR_le (d := d) (p := p) k
    rw [cR_s]
    split <;> omega
theorem cR_mo {d p : Int32} {k : Nat} : ∀ {n : Nat}, k ≤ n → cR d p k ≤ cR d p n
  | 0, h => by rw [show k = 0 by omega]; exact Nat.le_refl _
  | n + 1, h => by
    by_cases e : k = n + 1
    · rw [e]; exact Nat.le_refl _
    · have := cR_mo (d := d) (p := p) (show k ≤ n by omega)
      rw [cR_s]
      split <;> omega
theorem fR_stay {d p w : Int32} {k : Nat} (hk : k < 4) (hr : rsB d p k = true) (hw : n32 (cR d p k) = w) : ∀ n, k < n → n ≤ 4 → fR d p w n = n32 k
  | 0, h, _ => absurd h (by omega)
  | n + 1, h, hn => by
    rw [fR_s]
    by_cases e : k = n
    · subst e
      rw [if_pos ⟨hr, hw⟩]
    · rw [if_neg]
      · exact fR_stay hk hr hw n (by omega) (by omega)
      · rintro ⟨-, x⟩
        have h1 := cR_mo (d := d) (p := p) (show k + 1 ≤ n by omega)
        have l1 := cR_le (d := d) (p := p) n
        have l2 := cR_le (d := d) (p := p) k
        rw [cR_s, if_pos hr] at h1
        rw [← hw, n32_eq (by omega) (by omega)] at x
        omega
theorem rs_abs {d p w : Int32} {m : mi_M} : ∀ j k, j + k = 4 → fR d p w k = -1 → rs_go d p w m j (n32 (cR d p k)) (n32 k) = some (if w = -1 then some (n32 (cR d p 4)) else if fR d p w 4 = -1 then none else some (fR d p w 4))
  | 0, k, h, hf => by
    have : k = 4 := by omega
    subst this
    unfold rs_go
    rw [if_pos hf]
  | j + 1, k, h, hf => by
    have l2 := cR_le (d := d) (p := p) k
    unfold rs_go
    rw [pc_isRest (by omega)]
    show (if (if rsB d p k then (1 : Int32) else 0) = 0 then _ else _) = _
    by_cases hr : rsB d p k = true
    · rw [if_pos hr, if_neg (by decide)]
      by_cases hw : n32 (cR d p k) = w
      · rw [if_pos hw, fR_stay (by omega) hr hw 4 (by omega) (by omega)]
        have hn : ¬ w = -1 := by
          rw [← hw]
          exact (n32_eqN (by omega)).mp
        rw [if_neg hn, if_neg (n32_eqN (by omega)).mp]
      · rw [if_neg hw, n32_al, n32_al]
        have := rs_abs (d := d) (p := p) (w := w) (m := m) j (k + 1) (by omega) (by rw [fR_s, if_neg (fun x => hw x.2)]; exact hf)
        rw [cR_s, if_pos hr] at this
        exact this
    · rw [if_neg hr, if_pos rfl, n32_al]
      have := rs_abs (d := d) (p := p) (w := w) (m := m) j (k + 1) (by omega) (by rw [fR_s, if_neg (fun x => hr x.1)]; exact hf)
      rw [cR_s, if_neg hr] at this
      exact this
theorem fR_c {d p w : Int32} : ∀ k, k ≤ 4 → fR d p w k = -1 ∨ ∃ j, j < k ∧ fR d p w k = n32 j ∧ n32 (cR d p j) = w
  | 0, _ => Or.inl rfl
  | k + 1, h => by
    rw [fR_s]
    by_cases e : rsB d p k = true ∧ n32 (cR d p k) = w
    · rw [if_pos e]; exact Or.inr ⟨k, by omega, rfl, e.2⟩
    · rw [if_neg e]
      rcases fR_c (d := d) (p := p) (w := w) k (by omega) with x | ⟨j, x1, x2⟩
      · exact Or.inl x
      · exact Or.inr ⟨j, by omega, x2⟩
theorem pm_rests1 {d p w : Int32} {m : mi_M} : wo (f_X12_rests_J30 d p w m 1) (fun r => (w < 0 → r = (n32 (cR d p 4), mi_wI m 12 0 0 0)) ∧ (¬ w < 0 → fR d p w 4 = -1 → r = (0, mi_wI m 12 0 0 1)) ∧ (¬ w < 0 → ¬ fR d p w 4 = -1 → r = (fR d p w 4, mi_wI m 12 0 0 0))) := by
  unfold f_X12_rests_J30
  rw [pw_bo]
  refine pl_for (fun k s => s = (n32 (cR d p k), fR d p w k, n32 k)) 4 (by omega) rfl ?_
  rintro k s hk rfl
  unfold f_X12_rests_B41
  simp (disch := omega) only [pw_if, pw_some, pw_let, pw_bo, n32_Lle, lr_r]
  refine ⟨fun hz => ?_, fun hz => ⟨fun x => absurd x (by decide), fun _ => ?_⟩⟩
  · have : k = 4 := by omega
    subst this
    unfold f_X12_rests_K41 f_X12_rests_J173 f_X12_rests_J177 f_X12_rests_J178 f_X12_rests_J203
    simp only [pw_if, pw_let, pw_some, rI_eq]
    have fc := fR_c (d := d) (p := p) (w := w) 4 (by omega)
    refine ⟨fun x => absurd x (by decide), fun _ => ⟨fun x => ⟨fun _ => ⟨fun y => absurd x (i32_nlt.mpr y), fun _ => ⟨fun _ => (by trivial), fun z => absurd x z, fun z => absurd x z⟩⟩, fun y => absurd (by decide) y⟩, fun x => ⟨fun y => ⟨fun z => absurd z (by decide), fun _ => ⟨fun z => absurd z x, fun _ _ => (by trivial), fun _ z => ?_⟩⟩, fun y => ⟨fun _ => ⟨fun _ => ⟨fun z => absurd z x, fun _ z => ?_, fun _ _ => (by trivial)⟩, fun z => absurd (i32_nlt.mp x) z⟩, fun z => absurd (by decide) z⟩⟩⟩⟩
    · rcases fc with q | ⟨j, q1, q2, -⟩
      · exact absurd q z
      · rw [q2] at y
        exact absurd y (n32_nn (by omega)).mp
    · rw [z] at y
      exact absurd (by decide) y
  · have hk : k < 4 := by omega
    simp (disch := omega) only [n32_dl, n32_ml, n32_sub, n32_1s, pm_loses, pw_some]
    rw [show k - k / 2 * 2 = k % 2 by omega]
    have j115 : ∀ (u : Bool), u = rsB d p k → wo (f_X12_rests_J115 w (n32 (cR d p k)) (fR d p w k) (n32 k) (if u then 1 else 0)) (lr (fun s' => k < 4 ∧ s' = (n32 (cR d p (k + 1)), fR d p w (k + 1), n32 (k + 1))) (fun e => wo (f_X12_rests_K41 w m 1 e) (fun r => (w < 0 → r = (n32 (cR d p 4), mi_wI m 12 0 0 0)) ∧ (¬ w < 0 → fR d p w 4 = -1 → r = (0, mi_wI m 12 0 0 1)) ∧ (¬ w < 0 → ¬ fR d p w 4 = -1 → r = (fR d p w 4, mi_wI m 12 0 0 0))))) := by
      intro u hu
      unfold f_X12_rests_J115 f_X12_rests_J133 f_X12_rests_J135 f_X12_rests_J149
      simp only [pw_if, pw_let, pw_some, lr_l, n32_al]
      rw [cR_s, fR_s, ← hu]
      cases u with
      | true =>
        refine ⟨fun x => absurd x (by decide), fun _ => ⟨fun x => ⟨fun z => absurd z (by decide), fun _ => ⟨hk, ?_⟩⟩, fun x => ⟨fun z => absurd z (by decide), fun _ => ⟨hk, ?_⟩⟩⟩⟩
        · simp only [if_true, true_and, if_pos x]
        · simp only [if_true, true_and, if_neg x]
      | false =>
        refine ⟨fun _ => ⟨fun _ => ⟨hk, ?_⟩, fun x => absurd rfl x⟩, fun x => absurd rfl x⟩
        simp only [Nat.add_zero, Bool.false_eq_true, if_false, false_and]
    unfold f_X12_rests_J114
    refine ⟨fun x => j115 false ?_, fun x => ⟨fun z => j115 false ?_, fun z => j115 true ?_⟩⟩
    · unfold rsB; rw [decide_eq_false (fun q => q.1 x)]
    · unfold rsB; rw [decide_eq_false (fun q => q.2 z)]
    · unfold rsB; rw [decide_eq_true ⟨x, z⟩]
theorem pm_rests0 {d p w : Int32} {m : mi_M} : f_X12_rests_J29 d p w m = some (0, mi_wI m 12 0 0 1) := by
  unfold f_X12_rests_J29 f_X12_rests_J30
  apply pw_eq
  rw [pw_bo]
  refine pl_for (fun k s => k = 0 ∧ s = (0, -1, 0)) 4 (by omega) ⟨rfl, rfl⟩ ?_
  rintro k s hk ⟨-, rfl⟩
  unfold f_X12_rests_B41
  simp only [pw_if, pw_some, lr_r]
  refine ⟨fun x => absurd x (by decide), fun _ => ⟨fun _ => ?_, fun x => absurd (by trivial) x⟩⟩
  unfold f_X12_rests_K41 f_X12_rests_J177 f_X12_rests_J178 f_X12_rests_J203
  simp only [pw_if, pw_let, pw_some, rI_eq]
  exact ⟨fun _ => ⟨fun x => absurd x (by decide), fun _ => by trivial⟩, fun x => absurd (by trivial) x⟩
theorem po_rests : ob_rests Rel := by
  rintro a0 a1 a2 mem ⟨T, cd, c, y, hR⟩
  have rel : ∀ v, Rel (mi_wI mem 12 0 0 v) := fun v => ⟨T, cd, c, y, hR.sm kp_thr⟩
  have thr : ∀ v, f_X12_thrown (mi_wI mem 12 0 0 v) = some v := fun v => by unfold f_X12_thrown; rw [rI_eq]
  by_cases g1 : (0 : Int32) ≤ a0 ∧ a0 ≤ 9
  · by_cases g2 : (0 : Int32) ≤ a1 ∧ a1 ≤ 9
    · have ef : rs_f a0 a1 a2 mem = some (if a2 = -1 then some (n32 (cR a0 a1 4)) else if fR a0 a1 a2 4 = -1 then none else some (fR a0 a1 a2 4)) := by
        unfold rs_f
        rw [pc_within, wi_y g1, pc_within, wi_y g2]
        exact rs_abs 4 0 rfl rfl
      by_cases g3 : a2 < -1
      · refine ⟨none, 0, mi_wI mem 12 0 0 1, ?_, ?_, thr 1, fun x hx => (by cases hx), rel 1⟩
        · rw [ef, if_neg (by rintro rfl; exact absurd g3 (by decide))]
          rcases fR_c (d := a0) (p := a1) (w := a2) 4 (by omega) with x | ⟨j, x1, x2, x3⟩
          · rw [if_pos x]
          · have := cR_le (d := a0) (p := a1) j
            rw [← x3] at g3
            exact absurd g3 (nn_lt (by omega) (by decide))
        · unfold f_X12_rests
          rw [pm_within, wi_y g1, pe_bo, if_neg (by decide), pm_within, wi_y g2, pe_bo, if_neg (by decide), if_pos g3, pm_rests0]
      · have em : f_X12_rests a0 a1 a2 mem = f_X12_rests_J30 a0 a1 a2 mem 1 := by
          unfold f_X12_rests
          rw [pm_within, wi_y g1, pe_bo, if_neg (by decide), pm_within, wi_y g2, pe_bo, if_neg (by decide), if_neg g3]
        obtain ⟨r, er, r1, r2, r3⟩ := pm_rests1 (d := a0) (p := a1) (w := a2) (m := mem)
        by_cases hn : a2 < 0
        · have h1 : a2 = -1 := by
            rw [i32_lt] at hn g3
            apply Int32.toInt_inj.mp
            rw [show (0 : Int32).toInt = 0 by decide] at hn
            rw [show (-1 : Int32).toInt = -1 by decide] at g3 ⊢
            omega
          have := r1 hn
          subst this
          refine ⟨some (n32 (cR a0 a1 4)), n32 (cR a0 a1 4), mi_wI mem 12 0 0 0, ?_, ?_, thr 0, fun x hx => (Option.some.inj hx).symm, rel 0⟩
          · rw [ef, if_pos h1]
          · rw [em, er]
        · have h1 : ¬ a2 = -1 := by rintro rfl; exact hn (by decide)
          by_cases hf : fR a0 a1 a2 4 = -1
          · have := r2 hn hf
            subst this
            refine ⟨none, 0, mi_wI mem 12 0 0 1, ?_, ?_, thr 1, fun x hx => (by cases hx), rel 1⟩
            · rw [ef, if_neg h1, if_pos hf]
            · rw [em, er]
          · have := r3 hn hf
            subst this
            refine ⟨some (fR a0 a1 a2 4), fR a0 a1 a2 4, mi_wI mem 12 0 0 0, ?_, ?_, thr 0, fun x hx => (Option.some.inj hx).symm, rel 0⟩
            · rw [ef, if_neg h1, if_neg hf]
            · rw [em, er]
    · refine ⟨none, 0, mi_wI mem 12 0 0 1, ?_, ?_, thr 1, fun x hx => (by cases hx), rel 1⟩
      · unfold rs_f
        rw [pc_within, wi_y g1, pc_within, wi_n g2]
        rfl
      · unfold f_X12_rests
        rw [pm_within, wi_y g1, pe_bo, if_neg (by decide), pm_within, wi_n g2, pe_bo, if_pos rfl, pm_rests0]
  · refine ⟨none, 0, mi_wI mem 12 0 0 1, ?_, ?_, thr 1, fun x hx => (by cases hx), rel 1⟩
    · unfold rs_f
      rw [pc_within, wi_n g1]
      rfl
    · unfold f_X12_rests
      rw [pm_within, wi_n g1, pe_bo, if_pos rfl, pm_rests0]
