/-! ===== the reference's state: what it says, what is done to it ===== -/
theorem pm_by {m : mi_M} {T : Nat → Nat} {w : Nat} (h : mTw m T) (hw : w < 8) : f_X12_wrongOf (n32 w) 0 m = some (n32 (byA T w)) := by
  unfold f_X12_wrongOf
  simp (disch := omega) only [n32_lm, n32_la, n32_al, n32_in, n32_cl]
  rw [pe_g (by omega), h _ (by omega) (by omega)]
  rfl
theorem pm_to {m : mi_M} {T : Nat → Nat} {w : Nat} (h : mTw m T) (hw : w < 8) : f_X12_wrongOf (n32 w) 1 m = some (n32 (toA T w)) := by
  unfold f_X12_wrongOf
  simp (disch := omega) only [n32_lm, n32_la, n32_al, n32_in, n32_cl]
  rw [pe_g (by omega), h _ (by omega) (by omega), show 57 + 3 * w + 1 = 58 + 3 * w by omega]
  rfl
theorem pm_sz {m : mi_M} {T : Nat → Nat} {w : Nat} (h : mTw m T) (hw : w < 8) : f_X12_wrongOf (n32 w) 2 m = some (n32 (szA T w)) := by
  unfold f_X12_wrongOf
  simp (disch := omega) only [n32_lm, n32_la, n32_al, n32_in, n32_cl]
  rw [pe_g (by omega), h _ (by omega) (by omega), show 57 + 3 * w + 2 = 59 + 3 * w by omega]
  rfl
theorem pm_kindOf {m : mi_M} {T : Nat → Nat} {p : Nat} (h : mTw m T) (hp : p < 6) : f_X12_kindOf (n32 p) m = some (n32 (kdA T p)) := by
  unfold f_X12_kindOf
  simp (disch := omega) only [n32_lm, n32_la, n32_in, n32_cl]
  rw [pe_g (by omega), h _ (by omega) (by omega)]
  rfl
theorem pm_barOf {m : mi_M} {T : Nat → Nat} {w : Nat} (h : mTw m T) (hT : tOK T) (hw : w < T 2) : f_X12_barOf (n32 w) m = some (n32 (barA T w)) := by
  have h8 := hT.1.2.1
  have h60 := hT.1.1
  obtain ⟨q1, q2, q3, q4, q5⟩ := hT.2.2.1 w hw
  have hk := (hT.2.1 _ q2).1
  unfold f_X12_barOf f_X12_barOf_J25
  rw [pe_g (P := vp_in (4 : Int32) 200) ((n32_in (k := 4) (by omega)).mpr (by omega)), pm_to h (by omega), pe_bo, pm_kindOf h (by omega), pe_bo, show (4 : Int32).toNatClampNeg = 4 from rfl, h 4 (by omega) (by omega)]
  simp (disch := omega) only [n32_eqL, n32_al]
  unfold barA
  split <;> rfl
theorem pm_isWrong {m : mi_M} {T : Nat → Nat} {w : Nat} (h : mTw m T) (hT : tOK T) (hw : w < T 2) : f_X12_isWrong (n32 w) m = some 1 := by
  have h8 := hT.1.2.1
  unfold f_X12_isWrong f_X12_isWrong_J16 f_X12_isWrong_J17
  rw [if_neg ((n32_nn (by omega)).mp), pm_wrongs h, pe_bo, if_neg (by rw [n32_le (by omega) (by omega)]; omega), pe_g (by decide)]
theorem pm_isWrong_n {m : mi_M} {T : Nat → Nat} {x : Int32} (h : mTw m T) (hT : tOK T) (hx : ∀ w, w < T 2 → x ≠ n32 w) : f_X12_isWrong x m = some 0 := by
  have h8 := hT.1.2.1
  unfold f_X12_isWrong f_X12_isWrong_J16 f_X12_isWrong_J17
  rw [pm_wrongs h, pe_bo, pe_g (by decide), pe_g (by decide)]
  by_cases e : x < 0
  · rw [if_pos e]
  · rw [if_neg e, if_pos]
    obtain ⟨k, hk, rfl⟩ := n32_of (i32_nlt.mp e)
    rw [n32_le (by omega) hk]
    by_cases e2 : T 2 ≤ k
    · exact e2
    · exact absurd rfl (hx k (by omega))
theorem pm_isPerson {m : mi_M} {T : Nat → Nat} {w : Nat} (h : mTw m T) (hT : tOK T) (hw : w < T 0) : f_X12_isPerson (n32 w) m = some 1 := by
  have h8 := hT.1.1
  unfold f_X12_isPerson f_X12_isPerson_J16 f_X12_isPerson_J17
  rw [if_neg ((n32_nn (by omega)).mp), pm_people h, pe_bo, if_neg (by rw [n32_le (by omega) (by omega)]; omega), pe_g (by decide)]
theorem pm_isPerson_n {m : mi_M} {T : Nat → Nat} {x : Int32} (h : mTw m T) (hT : tOK T) (hx : ∀ w, w < T 0 → x ≠ n32 w) : f_X12_isPerson x m = some 0 := by
  have h8 := hT.1.1
  unfold f_X12_isPerson f_X12_isPerson_J16 f_X12_isPerson_J17
  rw [pm_people h, pe_bo, pe_g (by decide), pe_g (by decide)]
  by_cases e : x < 0
  · rw [if_pos e]
  · rw [if_neg e, if_pos]
    obtain ⟨k, hk, rfl⟩ := n32_of (i32_nlt.mp e)
    rw [n32_le (by omega) hk]
    by_cases e2 : T 0 ≤ k
    · exact e2
    · exact absurd rfl (hx k (by omega))
theorem pm_isOpen {m : mi_M} {T : Nat → Nat} {S : Nat → Int32} {b w : Nat} (h : mTw m T) (hT : tOK T) (hS : mSt m b S) (hb : b ≤ 1400) (hw : w < T 2) : f_X12_isOpen (n32 b) (n32 w) m = some (if S (22 + w) = 0 then 1 else 0) := by
  have h8 := hT.1.2.1
  unfold f_X12_isOpen f_X12_isOpen_J26 f_X12_isOpen_J27
  rw [pm_isWrong h hT hw, pe_bo, if_neg (by decide)]
  simp (disch := omega) only [n32_al, n32_add, n32_in, n32_cl]
  rw [pe_g (by omega), show b + 22 + w = b + (22 + w) by omega, hS _ (by omega), pe_g (by decide), pe_g (by decide)]
  split <;> rfl
theorem pm_isOpen_n {m : mi_M} {T : Nat → Nat} {b x : Int32} (h : mTw m T) (hT : tOK T) (hx : ∀ w, w < T 2 → x ≠ n32 w) : f_X12_isOpen b x m = some 0 := by
  unfold f_X12_isOpen f_X12_isOpen_J26 f_X12_isOpen_J27
  rw [pm_isWrong_n h hT hx, pe_bo, if_pos rfl, pe_g (by decide)]
theorem pm_isRipe {m : mi_M} {T : Nat → Nat} {S : Nat → Int32} {b w : Nat} (h : mTw m T) (hT : tOK T) (hS : mSt m b S) (hb : b ≤ 1400) (hw : w < T 2) : f_X12_isRipe (n32 b) (n32 w) m = some (if S (22 + w) = 0 ∧ S (14 + w) ≤ n32 (barA T w) then 1 else 0) := by
  have h8 := hT.1.2.1
  unfold f_X12_isRipe f_X12_isRipe_J32 f_X12_isRipe_J33
  rw [pm_isOpen h hT hS hb hw, pe_bo]
  simp (disch := omega) only [n32_al, n32_add, n32_in, n32_cl]
  rw [pe_g (show b + 14 + w < 1449 by omega), pm_barOf h hT hw, pe_bo, show b + 14 + w = b + (14 + w) by omega, hS _ (by omega), pe_g (by decide), pe_g (by decide)]
  by_cases a : S (22 + w) = 0
  · by_cases c : S (14 + w) ≤ n32 (barA T w)
    · rw [if_pos a, if_neg (by decide), if_neg (i32_nlt.mpr c), if_pos ⟨a, c⟩]
    · rw [if_pos a, if_neg (by decide), if_pos (i32_nle.mp c), if_neg (fun x => c x.2)]
  · rw [if_neg a, if_pos rfl, if_neg (fun x => a x.1)]
theorem pm_maySay {m : mi_M} {T : Nat → Nat} {S : Nat → Int32} {b w : Nat} (h : mTw m T) (hT : tOK T) (hS : mSt m b S) (hb : b ≤ 1400) (hw : w < T 2) : f_X12_maySay (n32 b) (n32 w) m = some (if S (22 + w) = 0 ∧ S (30 + w) = 0 then 1 else 0) := by
  have h8 := hT.1.2.1
  unfold f_X12_maySay f_X12_maySay_J27 f_X12_maySay_J28
  rw [pm_isOpen h hT hS hb hw, pe_bo]
  simp (disch := omega) only [n32_al, n32_add, n32_in, n32_cl]
  rw [pe_g (show b + 30 + w < 1449 by omega), show b + 30 + w = b + (30 + w) by omega, hS _ (by omega), pe_g (by decide), pe_g (by decide)]
  by_cases a : S (22 + w) = 0
  · by_cases c : S (30 + w) = 0
    · rw [if_pos a, if_neg (by decide), if_pos c, if_pos ⟨a, c⟩]
    · rw [if_pos a, if_neg (by decide), if_neg c, if_neg (fun x => c x.2)]
  · rw [if_neg a, if_pos rfl, if_neg (fun x => a x.1)]
theorem pm_maySay_n {m : mi_M} {T : Nat → Nat} {b x : Int32} (h : mTw m T) (hT : tOK T) (hx : ∀ w, w < T 2 → x ≠ n32 w) : f_X12_maySay b x m = some 0 := by
  unfold f_X12_maySay f_X12_maySay_J27 f_X12_maySay_J28
  rw [pm_isOpen_n h hT hx, pe_bo, if_pos rfl, pe_g (by decide)]
theorem pm_mayGive {m : mi_M} {T : Nat → Nat} {S : Nat → Int32} {b w : Nat} {g : Int32} (h : mTw m T) (hT : tOK T) (hS : mSt m b S) (hb : b ≤ 1400) (hw : w < T 2) : f_X12_mayGive (n32 b) (n32 w) g m = some (if S (22 + w) = 0 ∧ g ≤ S (8 + byA T w) then 1 else 0) := by
  have h8 := hT.1.2.1
  have h60 := hT.1.1
  obtain ⟨q1, q2, q3, q4, q5⟩ := hT.2.2.1 w hw
  unfold f_X12_mayGive f_X12_mayGive_J33 f_X12_mayGive_J34
  rw [pm_isOpen h hT hS hb hw, pe_bo, pm_by h (by omega), pe_bo]
  simp (disch := omega) only [n32_al, n32_add, n32_in, n32_cl]
  rw [pe_g (show b + 8 + byA T w < 1449 by omega), show b + 8 + byA T w = b + (8 + byA T w) by omega, hS _ (by omega), pe_g (by decide), pe_g (by decide)]
  by_cases a : S (22 + w) = 0
  · by_cases c : g ≤ S (8 + byA T w)
    · rw [if_pos a, if_neg (by decide), if_neg (i32_nlt.mpr c), if_pos ⟨a, c⟩]
    · rw [if_pos a, if_neg (by decide), if_pos (i32_nle.mp c), if_neg (fun x => c x.2)]
  · rw [if_neg a, if_pos rfl, if_neg (fun x => a x.1)]
abbrev pmF (k i : Nat) : Prop := (k = 62 ∨ k = 63) ∧ i = 0
theorem evl_1 {e : Int32 × Int32 × Int32} {s : Int32} (h : ¬ s < -3) : evl e [s] 0 (fun _ => 0) = fct e s := by
  unfold evl
  rw [if_neg h]
  unfold evl
  rfl
theorem pm_law {m : mi_M} {T : Nat → Nat} {cd : Nat → List Int32} {l w : Nat} {sore night wi : Int32} (h : mT m T cd) (hl : l < 3) (hw : w < T 2) (hwi : cd l = dfA l → wi = lwA T cd l w sore night) : wo (f_X12_lawOf (n32 l) (n32 w) sore night wi m) (fun r => r.1 = lwA T cd l w sore night ∧ kp (fun k i _ => pmF k i) m r.2) := by
  have hT := h.1.2.1
  have h8 := hT.1.2.1
  unfold f_X12_lawOf f_X12_lawOf_J57
  rw [pm_sz h.1.1 (by omega)]
  simp (disch := omega) only [pw_bo, pw_some, pw_g, pw_let, pw_if, pw_b, n32_lin, n32_lcl, n32_la, n32_in, n32_cl, rI_ne]
  refine ⟨by omega, by omega, by omega, by omega, ?_⟩
  have hkp : kp (fun k i _ => pmF k i) m (mi_wI (mi_wI (mi_wI m 62 0 0 (n32 (szA T w))) 62 0 1 sore) 62 0 2 night) := ((kp.rf.wI ⟨Or.inl rfl, rfl⟩).wI ⟨Or.inl rfl, rfl⟩).wI ⟨Or.inl rfl, rfl⟩
  rcases h.2 l hl with ⟨e1, e2⟩ | ⟨q, e1, e2⟩
  · rw [e1]
    refine ⟨fun x => absurd x (by decide), fun _ => ⟨hwi e2, hkp⟩⟩
  · rw [e1]
    refine ⟨fun _ => ⟨by omega, ?_⟩, fun x => absurd (n32_ge0 (by have := e2.1; omega)) x⟩
    have hm : mlaw (mi_wI (mi_wI (mi_wI m 62 0 0 (n32 (szA T w))) 62 0 1 sore) 62 0 2 night) q (cd l) := by
      refine ⟨e2.1, fun k hk => ?_, ?_⟩
      · rw [hkp.1 57 0 _ (by omega), hkp.1 58 0 _ (by omega)]; exact e2.2.1 k hk
      · rw [hkp.1 57 0 _ (by omega)]; exact e2.2.2
    refine pw_mono (pm_worth (a := n32 (szA T w)) (b := sore) (d := night) hm (h.1.2.2 l hl) ?_ ?_ ?_) ?_
    · rw [rI_ne (by omega), rI_ne (by omega), rI_eq]
    · rw [rI_ne (by omega), rI_eq]
    · rw [rI_eq]
    · rintro r ⟨a1, a2⟩
      exact ⟨a1, hkp.tr (a2.mo (fun k i p a => by omega))⟩
theorem lwA_d0 {T : Nat → Nat} {cd : Nat → List Int32} {w : Nat} {sore night : Int32} (h : cd 0 = dfA 0) : (2 : Int32) = lwA T cd 0 w sore night := by
  unfold lwA
  rw [h, show dfA 0 = [2] from rfl, evl_1 (by decide)]
  rfl
theorem lwA_d1 {T : Nat → Nat} {cd : Nat → List Int32} {w : Nat} {sore night : Int32} (h : cd 1 = dfA 1) : (1 : Int32) = lwA T cd 1 w sore night := by
  unfold lwA
  rw [h, show dfA 1 = [1] from rfl, evl_1 (by decide)]
  rfl
theorem lwA_d2 {T : Nat → Nat} {cd : Nat → List Int32} {w : Nat} {sore night : Int32} (h : cd 2 = dfA 2) : n32 (szA T w) = lwA T cd 2 w sore night := by
  unfold lwA
  rw [h, show dfA 2 = [-1] from rfl, evl_1 (by decide)]
  rfl
theorem mT.fr {m m' : mi_M} {T : Nat → Nat} {cd : Nat → List Int32} (h : mT m T cd) (hk : kp (fun k i _ => pmE k i) m m') : mT m' T cd := h.mv hk (fun k i p a b d => by omega)
theorem pm_burnOf {m : mi_M} {T : Nat → Nat} {cd : Nat → List Int32} {w : Nat} {sore night : Int32} (h : mT m T cd) (hw : w < T 2) : wo (f_X12_burnOf (n32 w) sore night m) (fun r => r.1 = burnA T cd w sore night ∧ kp (fun k i _ => pmF k i) m r.2) := by
  have hT := h.1.2.1
  have h8 := hT.1.2.1
  have h60 := hT.1.1
  obtain ⟨q1, q2, q3, q4, q5⟩ := hT.2.2.1 w hw
  have hk := (hT.2.1 _ q2).1
  unfold f_X12_burnOf
  rw [pm_sz h.1.1 (by omega), pe_bo, pw_b]
  refine pw_mono (pm_law (l := 2) h (by omega) hw lwA_d2) ?_
  rintro ⟨v, m1⟩ ⟨a1, a2⟩
  simp only at a1 a2
  subst a1
  have h1 : mTw m1 T := h.1.1.mv a2 (fun p _ x => by omega)
  have fin : ∀ u, u = clA 0 30 (lwA T cd 2 w sore night) → wo (f_X12_burnOf_J39 (n32 w) m1 u) (fun r => r.1 = burnA T cd w sore night ∧ kp (fun k i _ => pmF k i) m r.2) := by
    intro u hu
    unfold f_X12_burnOf_J39 f_X12_burnOf_J64
    rw [pm_to h1 (by omega), pe_bo, pm_kindOf h1 (by omega), pe_bo]
    simp (disch := omega) only [n32_eqL, pw_if, pw_some]
    unfold burnA
    rw [hu]
    exact ⟨fun e => ⟨by rw [if_pos e], a2⟩, fun e => ⟨by rw [if_neg e], a2⟩⟩
  simp only [pw_if]
  refine ⟨fun e => ⟨fun e2 => fin _ ?_, fun e2 => fin _ ?_⟩, fun e => fin _ ?_⟩
  · unfold clA; rw [if_neg (i32_nlt.mpr e), if_neg (i32_nlt.mpr e2)]
  · unfold clA; rw [if_neg (i32_nlt.mpr e), if_pos (i32_nle.mp e2)]
  · unfold clA; rw [if_pos (i32_nle.mp e)]
/-- the cells of the reference's state b -/
abbrev pmS (b k i p : Nat) : Prop := k = 64 ∧ i = 0 ∧ b ≤ p ∧ p < b + 38
theorem mSt.fr {m m' : mi_M} {b : Nat} {S : Nat → Int32} (h : mSt m b S) (hk : kp (fun k i _ => pmE k i) m m') : mSt m' b S := h.mv hk (fun p a b d => by omega)
theorem mSt.wr {m : mi_M} {b q : Nat} {S : Nat → Int32} {v : Int32} (h : mSt m b S) : mSt (mi_wI m 64 0 (b + q) v) b (fu S q v) := by
  intro x hx
  rw [rI]
  unfold fu
  by_cases e : x = q
  · subst e; simp
  · rw [if_neg (by omega), if_neg e]; exact h x hx
theorem pm_says {m : mi_M} {T : Nat → Nat} {cd : Nat → List Int32} {S : Nat → Int32} {b w : Nat} (h : mT m T cd) (hS : mSt m b S) (hb : b ≤ 1400) (hw : w < T 2) : wo (f_X12_says (n32 b) (n32 w) m) (fun r => r.1 = aSay T cd S w (14 + w) ∧ mSt r.2 b (aSay T cd S w) ∧ kp (fun k i p => pmE k i ∨ pmS b k i p) m r.2) := by
  have hT := h.1.2.1
  have h8 := hT.1.2.1
  unfold f_X12_says
  simp (disch := omega) only [pw_g, pw_let, pw_b, pw_bo, pw_some, n32_al, n32_add, n32_in, n32_cl]
  rw [show b + 14 + w = b + (14 + w) by omega, show b + 30 + w = b + (30 + w) by omega, hS _ (by omega), hS 0 (by omega)]
  refine ⟨by omega, by omega, pw_mono (pm_law (l := 0) h (by omega) hw lwA_d0) ?_⟩
  rintro ⟨v, m1⟩ ⟨a1, a2⟩
  simp only at a1 a2
  subst a1
  have a3 : kp (fun k i _ => pmE k i) m m1 := a2.mo (fun k i p a => by omega)
  have hS1 := hS.fr a3
  simp only [pm_atMost, pw_some, hS1 (14 + w) (show 14 + w < 38 by omega)]
  refine ⟨by omega, by omega, by omega, by omega, ?_, ?_, ?_⟩
  · rw [rI_ne (by omega), rI_eq]
    unfold aSay
    rw [fu_ne (by omega), fu_eq]
    rfl
  · exact mSt.wr (mSt.wr hS1)
  · exact ((a3.mo (fun k i p a => Or.inl a)).wI (Or.inr ⟨rfl, rfl, by omega, by omega⟩)).wI (Or.inr ⟨rfl, rfl, by omega, by omega⟩)
theorem pm_gives {m : mi_M} {T : Nat → Nat} {cd : Nat → List Int32} {S : Nat → Int32} {b w : Nat} {g : Int32} (h : mT m T cd) (hS : mSt m b S) (hb : b ≤ 1400) (hw : w < T 2) : wo (f_X12_gives (n32 b) (n32 w) g m) (fun r => r.1 = aGive T S w g (14 + w) ∧ mSt r.2 b (aGive T S w g) ∧ kp (fun k i p => pmE k i ∨ pmS b k i p) m r.2) := by
  have hT := h.1.2.1
  have h8 := hT.1.2.1
  have h60 := hT.1.1
  obtain ⟨q1, q2, q3, q4, q5⟩ := hT.2.2.1 w hw
  unfold f_X12_gives
  rw [pm_by h.1.1 (by omega), pe_bo]
  simp (disch := omega) only [pw_g, pw_let, pw_b, pw_bo, pw_some, n32_al, n32_add, n32_in, n32_cl]
  refine ⟨by omega, by omega, ?_⟩
  have h1 : mTw (mi_wI m 64 0 (b + 8 + byA T w) (m.1 64 0 (b + 8 + byA T w) - g)) T := fun q hq h2 => by rw [rI_ne (by omega)]; exact h.1.1 q hq h2
  rw [pm_to h1 (by omega), pw_some]
  simp (disch := omega) only [n32_al, n32_add, n32_in, n32_cl, pm_atMost, pw_some, rI_ne]
  rw [show b + 14 + w = b + (14 + w) by omega, show b + 8 + byA T w = b + (8 + byA T w) by omega, show b + 8 + toA T w = b + (8 + toA T w) by omega, hS _ (by omega), hS _ (by omega), hS _ (by omega)]
  refine ⟨by omega, by omega, by omega, by omega, by omega, ?_, ?_, ?_⟩
  · rw [rI_eq]
    unfold aGive
    rw [fu_eq]
  · exact mSt.wr (mSt.wr (mSt.wr hS))
  · exact ((kp.rf.wI (Or.inr ⟨rfl, rfl, by omega, by omega⟩)).wI (Or.inr ⟨rfl, rfl, by omega, by omega⟩)).wI (Or.inr ⟨rfl, rfl, by omega, by omega⟩)
theorem pm_asks {m : mi_M} {T : Nat → Nat} {cd : Nat → List Int32} {S : Nat → Int32} {b w : Nat} (h : mT m T cd) (hS : mSt m b S) (hb : b ≤ 1400) (hw : w < T 2) (h0 : S (22 + w) = 0) : wo (f_X12_asks (n32 b) (n32 w) m) (fun r => r.1 = (if S (14 + w) ≤ n32 (barA T w) then 1 else 0) ∧ mSt r.2 b (aAsk T cd S w (m.1 12 0 24)) ∧ kp (fun k i p => pmE k i ∨ pmS b k i p) m r.2) := by
  have hT := h.1.2.1
  have h8 := hT.1.2.1
  have h60 := hT.1.1
  obtain ⟨q1, q2, q3, q4, q5⟩ := hT.2.2.1 w hw
  have hk := (hT.2.1 _ q2).1
  unfold f_X12_asks
  rw [pm_to h.1.1 (by omega), pe_bo, pm_isRipe h.1.1 hT hS hb hw, pm_kindOf h.1.1 (by omega)]
  simp (disch := omega) only [pw_g, pw_let, pw_b, pw_bo, pw_some, pw_if, n32_al, n32_add, n32_in, n32_cl]
  refine ⟨by omega, ?_⟩
  rw [show b + 14 + w = b + (14 + w) by omega, show b + 22 + w = b + (22 + w) by omega, show b + 2 + toA T w = b + (2 + toA T w) by omega, hS _ (by omega)]
  by_cases hr : S (14 + w) ≤ n32 (barA T w)
  · rw [if_pos (show S (22 + w) = 0 ∧ S (14 + w) ≤ n32 (barA T w) from ⟨h0, hr⟩)]
    refine ⟨fun x => absurd x (by decide), fun _ => ⟨by omega, by omega, by omega, ?_⟩⟩
    have k1 : kp (fun k i p => pmS b k i p) m (mi_wI m 64 0 (b + (22 + w)) 1) := kp.rf.wI ⟨rfl, rfl, by omega, by omega⟩
    have h1 : mT (mi_wI m 64 0 (b + (22 + w)) 1) T cd := h.mv k1 (fun k i p a b d => by omega)
    have s1 : mSt (mi_wI m 64 0 (b + (22 + w)) 1) b (fu S (22 + w) 1) := hS.wr
    have e0 := s1 0 (by omega)
    rw [fu_ne (by omega)] at e0
    have e1 := s1 (2 + toA T w) (by omega)
    rw [fu_ne (by omega)] at e1
    rw [show b + 0 = b + 0 from rfl, e0, e1]
    refine pw_mono (pm_burnOf h1 hw) ?_
    rintro ⟨v, m1⟩ ⟨a1, a2⟩
    simp only at a1 a2
    subst a1
    have a3 : kp (fun k i _ => pmE k i) (mi_wI m 64 0 (b + (22 + w)) 1) m1 := a2.mo (fun k i p a => by omega)
    have r24 : m1.1 12 0 24 = m.1 12 0 24 := by rw [a2.1 12 0 24 (by omega), rI_ne (by omega)]
    simp only [pm_atMost, pw_some, r24]
    refine ⟨by omega, by decide, by rw [if_pos hr], ?_, ?_⟩
    · unfold aAsk
      rw [if_pos hr]
      exact (s1.fr a3).wr
    · exact ((k1.mo (fun k i p a => Or.inr a)).tr (a3.mo (fun k i p a => Or.inl a))).wI (Or.inr ⟨rfl, rfl, by omega, by omega⟩)
  · rw [if_neg (show ¬ (S (22 + w) = 0 ∧ S (14 + w) ≤ n32 (barA T w)) from fun x => hr x.2)]
    have fin : ∀ u : Int32, u = (if kdA T (toA T w) = 1 then 2 else 1) → wo (f_X12_asks_J55 (n32 b) (n32 w) m (S (14 + w)) u) (fun r => r.1 = (if S (14 + w) ≤ n32 (barA T w) then 1 else 0) ∧ mSt r.2 b (aAsk T cd S w (m.1 12 0 24)) ∧ kp (fun k i p => pmE k i ∨ pmS b k i p) m r.2) := by
      intro u hu
      unfold f_X12_asks_J55
      simp (disch := omega) only [pw_g, pw_let, pw_b, pw_bo, pw_some, pm_atMost, n32_al, n32_add, n32_in, n32_cl]
      rw [show b + 14 + w = b + (14 + w) by omega]
      refine ⟨by omega, by decide, by rw [if_neg hr], ?_, kp.rf.wI (Or.inr ⟨rfl, rfl, by omega, by omega⟩)⟩
      unfold aAsk
      rw [if_neg hr, hu]
      exact hS.wr
    refine ⟨fun _ => ⟨fun e => fin _ ?_, fun e => fin _ ?_⟩, fun x => absurd (by trivial) x⟩
    · rw [n32_eqL (by omega) (by omega)] at e
      rw [if_pos e]
    · rw [n32_eqL (by omega) (by omega)] at e
      rw [if_neg e]
theorem pm_lampsOf {m : mi_M} {T : Nat → Nat} {S : Nat → Int32} {b : Nat} (h : mTw m T) (hT : tOK T) (hS : mSt m b S) (hs : sOK T S) (hb : b ≤ 1400) : f_X12_lampsOf (n32 b) m = some (n32 (lsA S 0)) := by
  have h60 := hT.1.1
  unfold f_X12_lampsOf
  apply pw_eq
  rw [pw_bo]
  refine pl_for (fun k s => s = (n32 (bs (fun p => decide (n32 0 < S (2 + p))) k), n32 k)) (T 0) (by omega) rfl ?_
  rintro k s hk rfl
  unfold f_X12_lampsOf_B4 f_X12_lampsOf_J33
  rw [pm_people h]
  simp (disch := omega) only [pw_if, pw_some, pw_g, pw_let, pw_bo, n32_le, lr_r, lr_l, n32_add, n32_in, n32_cl, n32_al]
  refine ⟨fun hx => ?_, fun hx => ⟨by omega, fun hy => ⟨by omega, ?_⟩, fun hy => ⟨by omega, ?_⟩⟩⟩
  · have : k = T 0 := by omega
    subst this
    unfold f_X12_lampsOf_K4
    rw [pw_some]
    unfold lsA
    rw [bs_ext h60 (fun w h1 h2 => ?_)]
    rw [(hs.2.1 w h2 h1).1]
    decide
  · rw [show b + 2 + k = b + (2 + k) by omega, hS _ (by omega)] at hy
    rw [bs_no (decide_eq_false (i32_nlt.mpr hy)), Int32.or_zero]
  · rw [show b + 2 + k = b + (2 + k) by omega, hS _ (by omega)] at hy
    rw [bs_or (by omega) (decide_eq_true (i32_nle.mp hy))]
theorem pm_harmBy {m : mi_M} {T : Nat → Nat} {b : Nat} (h : mTw m T) (hT : tOK T) (hb : b < 64) : wo (f_X12_harmBy (n32 b) m) (fun r => r.1 = n32 (hmN T b) ∧ kp (fun k i _ => pmE k i) m r.2) := by
  have h60 := hT.1.1
  have h4 := hT.1.2.2.1
  unfold f_X12_harmBy
  rw [pw_bo]
  refine pw_mono (pm_lays hT.2.2.2.2 h60 hb h) ?_
  rintro m1 ⟨a1, a2, -⟩
  have h1 : mTw m1 T := h.mv a1 (fun p _ x => by omega)
  rw [pw_bo]
  refine pl_for (fun k s => s = (n32 (sumN (fun k => dh (cst T b (T (81 + 2 * k)) (T (82 + 2 * k)))) k), n32 k)) (T 3) (by omega) rfl ?_
  rintro k s hk rfl
  unfold f_X12_harmBy_B9 f_X12_harmBy_J68
  rw [pm_walks h1]
  simp (disch := omega) only [pw_if, pw_some, pw_g, pw_let, pw_bo, n32_le, lr_r, lr_l, n32_lm, n32_la, n32_in, n32_cl, n32_al]
  refine ⟨fun hx => ?_, fun hx => ⟨by omega, by omega, ?_⟩⟩
  · have : k = T 3 := by omega
    subst this
    unfold f_X12_harmBy_K9
    rw [pw_some]
    exact ⟨rfl, a1.mo (fun k i p a => by omega)⟩
  · have hk : k < T 3 := by omega
    obtain ⟨b1, b2⟩ := hT.2.2.2.1 k hk
    rw [show 81 + 2 * k + 1 = 82 + 2 * k by omega, h1 _ (by omega) (by omega), h1 _ (by omega) (by omega)]
    simp (disch := omega) only [n32_lm, n32_add, n32_in, n32_cl]
    have hd := (a2 (6 * T (81 + 2 * k) + T (82 + 2 * k)) (by omega)).1
    rw [show (6 * T (81 + 2 * k) + T (82 + 2 * k)) / 6 = T (81 + 2 * k) by omega, show (6 * T (81 + 2 * k) + T (82 + 2 * k)) % 6 = T (82 + 2 * k) by omega] at hd
    have hl := cst_le hT.2.2.2.2 b (T (81 + 2 * k)) (T (82 + 2 * k))
    have hdl := dO_lt hl
    rw [hd, show (1000000 : Int32) = n32 1000000 from rfl, n32_lt (by omega) (by omega)]
    refine ⟨by omega, fun e => ⟨hk, ?_⟩, fun e => ⟨hk, ?_⟩⟩
    · rw [n32_add]
      show (n32 (_ + _), _) = (n32 (_ + dh _), _)
      unfold dh
      rw [if_pos (by omega)]
      unfold dO
      rw [if_pos (by omega)]
    · show (n32 (_ + _), _) = (n32 (_ + dh _), _)
      unfold dh
      rw [if_neg (by omega)]
