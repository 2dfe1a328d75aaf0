def plT (L : List Nat) : Nat → Nat
  | 0 => skA L 0
  | n + 1 => skA L (nxT L (plT L n))
def mS (k : Nat) : Nat := if k = 1 then 4 else k - 1
def tokM (m : mi_M) (L : List Nat) (n p : Nat) : Prop := m.1 52 0 n = n32 (mS (kdT L p)) ∧ m.1 53 0 n = n32 p ∧ (kdT L p = 2 → m.2.1 54 0 n = n64 (wN 37 96 L p (nxT L p - p))) ∧ (kdT L p = 3 → m.2.1 54 0 n = n64 (wN 10 48 L p (nxT L p - p))) ∧ (kdT L p = 4 → m.2.1 54 0 n = n64 (gT L p))
theorem tokM.mv {m m' : mi_M} {L : List Nat} {n p : Nat} {P : Nat → Nat → Nat → Prop} (h : tokM m L n p) (hk : kp P m m') (h1 : ¬ P 52 0 n) (h2 : ¬ P 53 0 n) (h3 : ¬ P 154 0 n) : tokM m' L n p := by
  unfold tokM at *
  rw [hk.1 52 0 n h1, hk.1 53 0 n h2, hk.2.1 54 0 n h3]
  exact h
theorem skA_y {L : List Nat} {k : Nat} (hk : k < L.length) (hb : blk (gT L k) = true) : skA L k = skA L (k + 1) := by
  unfold skA
  rw [show L.length - k = (L.length - (k + 1)) + 1 by omega]
  show (if (!blk (gT L k)) = true then k else _) = _
  rw [hb, if_neg (by decide)]
theorem skA_n {L : List Nat} {k : Nat} (hb : k < L.length → blk (gT L k) = false) : skA L k = k := by
  unfold skA
  exact fq_at (Nat.le_refl _) (by omega) (fun j a b => absurd b (by omega)) (fun x => by simp only [hb (by omega), Bool.not_false])
theorem nxT_b {L : List Nat} {p : Nat} (hp : p < L.length) : p < nxT L p ∧ nxT L p ≤ L.length := by
  have sp : ∀ P : Nat → Bool, P (gT L p) = true → p < spA P L p ∧ spA P L p ≤ L.length := by
    intro P hP
    unfold spA
    obtain ⟨a1, a2, a3, a4⟩ := fq_sp (P := fun i => !P (gT L i)) (L.length - p) p
    refine ⟨?_, by omega⟩
    by_cases e : fq (fun i => !P (gT L i)) (L.length - p) p = p
    · have := a4 (by omega)
      rw [e] at this
      simp only [hP] at this
      cases this
    · omega
  unfold nxT
  rw [if_pos hp]
  by_cases e1 : ltr (gT L p) = true
  · rw [if_pos e1]; exact sp ltr e1
  · rw [if_neg e1]
    by_cases e2 : dgt (gT L p) = true
    · rw [if_pos e2]; exact sp dgt e2
    · rw [if_neg e2]; omega
abbrev kC (k i p : Nat) : Prop := i = 0 ∧ (k = 52 ∨ k = 53 ∨ k = 154)
theorem pm_token {m : mi_M} {L : List Nat} {n p : Nat} (h : ∀ i, i < L.length → m.1 51 0 i = n32 (gT L i)) (hz : m.1 12 0 3 = n32 L.length) (hL : okL L) (hp : p < L.length) (hb : blk (gT L p) = false) (hn : n ≤ 1000) (Q : Int32 × Int32 × mi_M → Prop) (R : Int32 × mi_M → Prop) (hQ : ∀ m', tokM m' L n p → kp (fun k i q => kC k i q ∧ q = n) m m' → Q (n32 (n + 1), n32 (nxT L p), m')) : wo (f_X12_cutAll_B17 (n32 n, n32 p, m)) (lr Q R) := by
  have h1 := hL.1
  have g := gT_lt hL p
  have hb2 : ¬ (gT L p = 10 ∨ gT L p = 32) := of_decide_eq_false hb
  unfold f_X12_cutAll_B17
  dsimp only
  rw [hz, if_neg (by rw [n32_le (by omega) (by omega)]; omega), pw_g, n32_in (by omega), n32_cl (by omega), pw_let, h p hp]
  refine ⟨by omega, ?_⟩
  rw [if_neg (by rw [n32_eqL (by omega) (by decide)]; exact fun z => hb2 (Or.inl z)), if_neg (by rw [n32_eqL (by omega) (by decide)]; exact fun z => hb2 (Or.inr z)), pw_g, n32_in (by omega), n32_cl (by omega), pw_let]
  refine ⟨by omega, ?_⟩
  have kw : kp (fun k i q => kC k i q ∧ q = n) m (mi_wI m 53 0 n (n32 p)) := kp.rf.wI ⟨⟨rfl, by omega⟩, rfl⟩
  have w53 : (mi_wI m 53 0 n (n32 p)).1 53 0 n = n32 p := rI_eq
  generalize mi_wI m 53 0 n (n32 p) = m1 at kw w53
  have t1 : ∀ i, i < L.length → m1.1 51 0 i = n32 (gT L i) := fun i hi => by rw [kw.1 51 0 i (by omega)]; exact h i hi
  have z1 : m1.1 12 0 3 = n32 L.length := by rw [kw.1 12 0 3 (by omega)]; exact hz
  have last : ∀ (u : Int32) (v : Int64), u = n32 (mS (kdT L p)) → (kdT L p = 2 → v = n64 (wN 37 96 L p (nxT L p - p))) → (kdT L p = 3 → v = n64 (wN 10 48 L p (nxT L p - p))) → (kdT L p = 4 → v = n64 (gT L p)) → wo (f_X12_cutAll_J265 (n32 n) (n32 (nxT L p)) v (mi_wI m1 52 0 n u)) (lr Q R) := by
    rintro u v rfl v1 v2 v3
    unfold f_X12_cutAll_J265
    simp (disch := omega) only [pw_g, pw_let, pw_some, lr_l, n32_in, n32_cl, n32_al]
    refine ⟨by omega, hQ _ ⟨?_, ?_, fun x => ?_, fun x => ?_, fun x => ?_⟩ ((kw.wI ⟨⟨rfl, by omega⟩, rfl⟩).wL ⟨⟨rfl, by omega⟩, rfl⟩)⟩
    · rw [rLI, rI_eq]
    · rw [rLI, rI_ne (by omega)]; exact w53
    · rw [rL, if_pos ⟨rfl, rfl, rfl⟩]; exact v1 x
    · rw [rL, if_pos ⟨rfl, rfl, rfl⟩]; exact v2 x
    · rw [rL, if_pos ⟨rfl, rfl, rfl⟩]; exact v3 x
  have nb := nxT_b hp
  rw [pm_isLetter (by omega), pw_bo, pw_some]
  cases hl : ltr (gT L p) with
  | true =>
    have en : nxT L p = spA ltr L p := by unfold nxT; rw [if_pos hp, if_pos hl]
    have ek : kdT L p = if spA ltr L p - p ≤ 8 then 2 else 1 := by unfold kdT; rw [if_pos hp, if_pos hl]
    rw [if_neg (show ¬ (if true = true then (1 : Int32) else 0) = 0 by decide), pw_bo]
    refine pw_mono (pm_word t1 z1 hL (by omega)) ?_
    rintro ⟨e1, e2⟩ ⟨a1, a2⟩
    simp only at a1 a2
    subst a1
    unfold f_X12_cutAll_K70 f_X12_cutAll_J148
    dsimp only
    rw [← en] at a2 ek ⊢
    rw [n32_sub (by omega)]
    simp (disch := omega) only [pw_if, n32_leL, pw_g, pw_let, n32_in, n32_cl]
    refine ⟨fun x => ⟨by omega, last 1 e2 ?_ (fun _ => a2 x) (fun y => ?_) (fun y => ?_)⟩, fun x => ⟨by omega, last 4 e2 ?_ (fun y => ?_) (fun y => ?_) (fun y => ?_)⟩⟩
    · rw [ek, if_pos x]; rfl
    · rw [ek, if_pos x] at y; omega
    · rw [ek, if_pos x] at y; omega
    · rw [ek, if_neg x]; rfl
    · rw [ek, if_neg x] at y; omega
    · rw [ek, if_neg x] at y; omega
    · rw [ek, if_neg x] at y; omega
  | false =>
    rw [if_pos (show (if false = true then (1 : Int32) else 0) = 0 by decide), pm_isDigit (by omega), pw_bo, pw_some]
    cases hd : dgt (gT L p) with
    | true =>
      have en : nxT L p = spA dgt L p := by unfold nxT; rw [if_pos hp, if_neg (by rw [hl]; decide), if_pos hd]
      have ek : kdT L p = if spA dgt L p - p ≤ 4 then 3 else 1 := by unfold kdT; rw [if_pos hp, if_neg (by rw [hl]; decide), if_pos hd]
      rw [if_neg (show ¬ (if true = true then (1 : Int32) else 0) = 0 by decide), pw_bo]
      refine pw_mono (pm_numb t1 z1 hL (by omega)) ?_
      rintro ⟨e1, e2⟩ ⟨a1, a2⟩
      simp only at a1 a2
      subst a1
      unfold f_X12_cutAll_K159 f_X12_cutAll_J236
      dsimp only
      rw [← en] at a2 ek ⊢
      rw [n32_sub (by omega)]
      simp (disch := omega) only [pw_if, n32_leL, pw_g, pw_let, n32_in, n32_cl]
      refine ⟨fun x => ⟨by omega, last 2 e2 ?_ (fun y => ?_) (fun _ => a2 x) (fun y => ?_)⟩, fun x => ⟨by omega, last 4 e2 ?_ (fun y => ?_) (fun y => ?_) (fun y => ?_)⟩⟩
      · rw [ek, if_pos x]; rfl
      · rw [ek, if_pos x] at y; omega
      · rw [ek, if_pos x] at y; omega
      · rw [ek, if_neg x]; rfl
      · rw [ek, if_neg x] at y; omega
      · rw [ek, if_neg x] at y; omega
      · rw [ek, if_neg x] at y; omega
    | false =>
      have en : nxT L p = p + 1 := by unfold nxT; rw [if_pos hp, if_neg (by rw [hl]; decide), if_neg (by rw [hd]; decide)]
      have ek : kdT L p = if sgn (gT L p) then 4 else 1 := by unfold kdT; rw [if_pos hp, if_neg (by rw [hl]; decide), if_neg (by rw [hd]; decide)]
      rw [if_pos (show (if false = true then (1 : Int32) else 0) = 0 by decide), pw_let, pm_isSignOf (by omega), pw_bo, pw_some, n32_64 (by omega)]
      unfold f_X12_cutAll_J261
      rw [n32_al, ← en]
      cases q : sgn (gT L p) with
      | true =>
        rw [if_neg (show ¬ (if true = true then (1 : Int32) else 0) = 0 by decide), pw_g, n32_in (by omega), n32_cl (by omega), pw_let]
        rw [q] at ek
        exact ⟨by omega, last 3 _ (by rw [ek]; rfl) (fun y => absurd y (by rw [ek]; decide)) (fun y => absurd y (by rw [ek]; decide)) (fun _ => rfl)⟩
      | false =>
        rw [if_pos (show (if false = true then (1 : Int32) else 0) = 0 by decide), pw_g, n32_in (by omega), n32_cl (by omega), pw_let]
        rw [q] at ek
        exact ⟨by omega, last 4 _ (by rw [ek]; rfl) (fun y => absurd y (by rw [ek]; decide)) (fun y => absurd y (by rw [ek]; decide)) (fun y => absurd y (by rw [ek]; decide))⟩
