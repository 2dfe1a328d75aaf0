/-! ===== among: the developers' words of a list ===== -/
def am (W : Int64) : List Int32 → Int32 → Int64 → Int32
  | [], w, o => if o = W then w else -1
  | c :: r, w, o => if c = 32 then (if o = W then w else am W r (w + 1) 0) else am W r w (o * 32 + c.toInt64 - 96)
def bts (n : Nat) : List Int32 := mi_byt.getD n []
theorem bts_ok : ∀ n, n < 12 → mi_sn n = (bts n).length ∧ (bts n).length < 100 ∧ ∀ i, i < (bts n).length → ((((mi_sb n i) &&& (255 : Int32))).toUInt32 % 65536).toInt32 = mi_sb n i := by decide +kernel
theorem bts_at {n i : Nat} (h : i < (bts n).length) : mi_sb n i = (bts n)[i] := by
  unfold mi_sb
  show (bts n).getD i 0 = _
  rw [List.getD_eq_getElem?_getD, List.getElem?_eq_getElem h]
  rfl
theorem pc_len {n : Nat} {m : mi_M} (hn : n < 12) : f_J0_length_8abf5 n m = some (n32 (bts n).length) := by
  unfold f_J0_length_8abf5 f_J0_coder_7d493 f_J0_coder_7d493_J14
  rw [if_neg (by decide), pe_g (show narrow FieldType.byte (Value.int 0) = Value.int 0 from rfl), pe_bo, (bts_ok n hn).1]
  have : ∀ k, k < 100 → (nI k) >>> ((0 : Int32) &&& 31) = n32 k := by decide +kernel
  rw [this _ (bts_ok n hn).2.1]
theorem bts_nr : ∀ n, n < 12 → ∀ i, i < (bts n).length → narrow FieldType.char (Value.int (mi_sb n i)) = Value.int (mi_sb n i) := by decide +kernel
theorem pc_charAt {n i : Nat} {m : mi_M} (hn : n < 12) (hi : i < (bts n).length) : f_J0_charAt_5068e n (n32 i) m = some (bts n)[i] := by
  obtain ⟨b1, b2, b3⟩ := bts_ok n hn
  have e1 : f_J0_isLatin1_aae02 n m = some 1 := by
    unfold f_J0_isLatin1_aae02 f_J0_isLatin1_aae02_J18
    rw [if_neg (by decide), if_pos rfl, pe_g (by decide)]
  have c1 : ¬ n32 i < 0 ∧ n32 i < nI (mi_sn n) := ⟨(n32_nn (by omega)).mp, by rw [b1]; exact (n32_lt (by omega) (by omega)).mpr hi⟩
  have c2 : vp_in (n32 i) (mi_sn n) := by rw [b1]; exact (n32_in (by omega)).mpr hi
  unfold f_J0_charAt_5068e
  rw [e1, pe_bo, if_neg (by decide)]
  unfold f_J1_charAt_3b067
  rw [n32_cl (by omega), b3 i hi, pe_g c1, pe_g c2, pe_g (bts_nr n hn i hi), pe_bo, pe_g (bts_nr n hn i hi), bts_at hi]
theorem am_c {W : Int64} {c : Int32} {r : List Int32} {w : Int32} {o : Int64} : am W (c :: r) w o = if c = 32 then (if o = W then w else am W r (w + 1) 0) else am W r w (o * 32 + c.toInt64 - 96) := rfl
theorem pc_among1 {n : Nat} {m : mi_M} (hn : n < 12) (hk : m.1 6 0 1 = 2) : f_X6_among n m = some (am (m.2.1 6 0 4) (bts n) 0 0) := by
  obtain ⟨b1, b2, b3⟩ := bts_ok n hn
  apply pw_eq
  unfold f_X6_among
  rw [if_pos hk, pw_bo]
  refine pl_for (fun k z => z.2.2 = n32 k ∧ am (m.2.1 6 0 4) ((bts n).drop k) z.1 z.2.1 = am (m.2.1 6 0 4) (bts n) 0 0) (bts n).length (by omega) ⟨rfl, rfl⟩ ?_
  rintro k ⟨w, o, l⟩ hk ⟨a1, a2⟩
  simp only at a1 a2
  subst a1
  unfold f_X6_among_B17
  dsimp only
  rw [pc_len hn, pe_bo, pw_if, n32_le (by omega) (by omega)]
  refine ⟨fun hx => ?_, fun hx => ?_⟩
  · rw [pw_some, lr_r]
    rw [List.drop_eq_nil_of_le hx] at a2
    rw [← a2]
    show wo (if lg_cmp o (m.2.1 6 0 4) = 0 then some w else some (-1)) (fun b => b = if o = m.2.1 6 0 4 then w else -1)
    rw [pw_if, lg_cmp0]
    exact ⟨fun h => pw_some.mpr (if_pos h).symm, fun h => pw_some.mpr (if_neg h).symm⟩
  · have hk2 : k < (bts n).length := by omega
    rw [List.drop_eq_getElem_cons hk2, am_c] at a2
    rw [pc_charAt hn hk2, pe_bo, pw_if]
    refine ⟨fun h32 => ?_, fun h32 => ?_⟩
    · rw [if_pos h32] at a2
      rw [pw_if, lg_cmp0]
      refine ⟨fun h => ?_, fun h => ?_⟩
      · rw [if_pos h] at a2
        rw [pw_some, lr_r, ← a2]
        exact pw_some.mpr rfl
      · rw [if_neg h] at a2
        unfold f_X6_among_J74
        rw [pw_some, lr_l]
        exact ⟨hk2, n32_al _ _, a2⟩
    · rw [if_neg h32] at a2
      rw [pe_bo, pw_let]
      unfold f_X6_among_J74
      rw [pw_some, lr_l]
      exact ⟨hk2, n32_al _ _, a2⟩
def ams : List Int32 → Int64 → List Int64
  | [], o => [o]
  | c :: r, o => if c = 32 then o :: ams r 0 else ams r (o * 32 + c.toInt64 - 96)
def look (W : Int64) : List Int64 → Int32 → Int32
  | [], _ => -1
  | c :: r, w => if c = W then w else look W r (w + 1)
theorem am_look {W : Int64} : ∀ (l : List Int32) (w : Int32) (o : Int64), am W l w o = look W (ams l o) w
  | [], w, o => rfl
  | c :: r, w, o => by
    show (if c = 32 then (if o = W then w else am W r (w + 1) 0) else am W r w (o * 32 + c.toInt64 - 96)) = look W (if c = 32 then o :: ams r 0 else ams r (o * 32 + c.toInt64 - 96)) w
    by_cases h : c = 32
    · rw [if_pos h, if_pos h, am_look r]; rfl
    · rw [if_neg h, if_neg h, am_look r]
/-- the letters of the words that the language has -/
def wl (w : Nat) : List Nat := ([[112, 101, 114, 115, 111, 110], [99, 111, 105, 110, 115], [108, 97, 110, 101], [119, 114, 111, 110, 103], [116, 111], [115, 105, 122, 101], [119, 97, 108, 107], [98, 97, 114], [119, 105, 110, 100], [119, 111, 114, 100, 115], [104, 101, 97, 108, 115], [98, 117, 114, 110, 115], [115, 97, 121], [103, 105, 118, 101], [97, 115, 107], [110, 105, 103, 104, 116], [112, 108, 97, 105, 110], [115, 117, 108, 107, 121], [115, 97, 105, 110, 116], [112, 114, 105, 101, 115, 116], [110, 111, 116], [97, 110, 100], [111, 114], [108, 97, 114, 103, 101], [115, 111, 114, 101], [110, 105, 103, 104, 116, 115]] : List (List Nat)).getD w []
def wls (n : Nat) : List Nat := ([[], [0, 2, 3, 6, 7, 8, 9, 10, 11], [12, 13, 14, 15], [16, 17, 18, 19], [1, 4, 5], [20, 21, 22], [1], [4], [5], [20], [23, 24, 25], [21, 22]] : List (List Nat)).getD n []
theorem tab37 : ∀ w, w < 26 → tabW.getD w 0 = n64 (wN 37 96 (wl w) 0 (wl w).length) := by decide +kernel
theorem wls_ok : ∀ n, n < 12 → 1 ≤ n → ams (bts n) 0 = (wls n).map (fun w => n64 (wN 32 96 (wl w) 0 (wl w).length)) := by decide +kernel
theorem wls_lt : ∀ n, n < 12 → ∀ w, w ∈ wls n → w < 26 := by decide +kernel
theorem wl_ok : ∀ w, w < 26 → (wl w).length ≤ 8 ∧ ∀ i, i < (wl w).length → ltr (gT (wl w) (0 + i)) = true := by decide +kernel
theorem wl_inj : ∀ w, w < 26 → ∀ w', w' < 26 → wN 37 96 (wl w) 0 (wl w).length = wN 37 96 (wl w') 0 (wl w').length → w = w' := by decide +kernel
theorem wN_cg {b z : Nat} {L L' : List Nat} {p p' : Nat} : ∀ {n : Nat}, (∀ i, i < n → gT L (p + i) = gT L' (p' + i)) → wN b z L p n = wN b z L' p' n
  | 0, _ => rfl
  | n + 1, h => by rw [wN_s, wN_s, wN_cg (fun i hi => h i (by omega)), h n (by omega)]
theorem wN_bb {b b' : Nat} (hb : 27 ≤ b) (hb' : 27 ≤ b') {L L' : List Nat} {p p' n n' : Nat} (h : wd L p n) (h' : wd L' p' n') : wN b 96 L p n = wN b 96 L' p' n' ↔ wN b' 96 L p n = wN b' 96 L' p' n' := by
  constructor
  · intro e
    obtain ⟨rfl, e2⟩ := wN_inj hb h h' e
    exact wN_cg e2
  · intro e
    obtain ⟨rfl, e2⟩ := wN_inj hb' h h' e
    exact wN_cg e2
theorem wN_lt {b : Nat} (hb : 27 ≤ b) {L : List Nat} {p : Nat} : ∀ {n : Nat}, wd L p n → wN b 96 L p n < b ^ n
  | 0, _ => by simp [wN]
  | n + 1, h => by
    have q : 97 ≤ gT L (p + n) ∧ gT L (p + n) ≤ 122 := of_decide_eq_true (h n (by omega))
    have ih := wN_lt hb (fun i hi => h i (by omega) : wd L p n)
    rw [wN_s, Nat.pow_succ]
    have : wN b 96 L p n * b + b ≤ b ^ n * b := by
      have := Nat.mul_le_mul_right b (show wN b 96 L p n + 1 ≤ b ^ n from ih)
      rw [Nat.add_mul, Nat.one_mul] at this
      exact this
    omega
theorem wN_l8 {b : Nat} (hb : 27 ≤ b) (hb2 : b ≤ 37) {L : List Nat} {p n : Nat} (h : wd L p n) (hn : n ≤ 8) : wN b 96 L p n < 9223372036854775808 := by
  have h1 := wN_lt hb h
  have h2 : b ^ n ≤ b ^ 8 := Nat.pow_le_pow_right (by omega) hn
  have h3 : b ^ 8 ≤ 37 ^ 8 := Nat.pow_le_pow_left hb2 8
  have h4 : 37 ^ 8 < 9223372036854775808 := by decide
  omega
theorem n64_eq {a b : Nat} (ha : a < 9223372036854775808) (hb : b < 9223372036854775808) : n64 a = n64 b ↔ a = b := by
  refine ⟨fun h => ?_, fun h => by rw [h]⟩
  have := congrArg Int64.toInt h
  rw [n64_int ha, n64_int hb] at this
  omega
theorem wd_tok {L : List Nat} {p : Nat} (h : kdT L p = 2) : wd L p (nxT L p - p) ∧ nxT L p - p ≤ 8 := by
  unfold kdT at h
  by_cases hp : p < L.length
  · rw [if_pos hp] at h
    by_cases hl : ltr (gT L p) = true
    · rw [if_pos hl] at h
      have en : nxT L p = spA ltr L p := by unfold nxT; rw [if_pos hp, if_pos hl]
      rw [en]
      obtain ⟨a1, a2, a3, a4⟩ := fq_sp (P := fun i => !ltr (gT L i)) (L.length - p) p
      by_cases h8 : spA ltr L p - p ≤ 8
      · refine ⟨fun i hi => ?_, h8⟩
        have := a3 (p + i) (by omega) (by unfold spA at hi; omega)
        simpa using this
      · rw [if_neg h8] at h
        omega
    · rw [if_neg hl] at h
      split at h
      · split at h <;> omega
      · split at h <;> omega
  · rw [if_neg hp] at h
    omega
def iw (L : List Nat) (p w : Nat) : Bool := decide (kdT L p = 2 ∧ wN 37 96 L p (nxT L p - p) = wN 37 96 (wl w) 0 (wl w).length)
/-- which word of the language stands there; 26: none -/
def wxT (L : List Nat) (p : Nat) : Nat := fq (fun w => iw L p w) 26 0
theorem wx_le (L : List Nat) (p : Nat) : wxT L p ≤ 26 := by
  have := (fq_sp (P := fun w => iw L p w) 26 0).2.1
  unfold wxT
  omega
theorem wx_iff {L : List Nat} {p w : Nat} (hw : w < 26) : iw L p w = true ↔ w = wxT L p := by
  obtain ⟨a1, a2, a3, a4⟩ := fq_sp (P := fun w => iw L p w) 26 0
  have e : wxT L p = fq (fun w => iw L p w) 26 0 := rfl
  rw [← e] at a1 a2 a3 a4
  constructor
  · intro h
    have l1 : ¬ w < wxT L p := fun x => by
      have := a3 w (by omega) x
      rw [h] at this
      cases this
    have q := a4 (by omega)
    have h1 := of_decide_eq_true h
    have q1 := of_decide_eq_true q
    exact wl_inj w hw _ (by omega) (h1.2.symm.trans q1.2)
  · rintro rfl
    exact a4 (by omega)
theorem wx_k {L : List Nat} {p : Nat} (h : wxT L p < 26) : kdT L p = 2 := by
  have := (wx_iff (L := L) (p := p) h).mpr rfl
  exact (of_decide_eq_true this).1
def ixW (x : Nat) : List Nat → Nat → Int32
  | [], _ => -1
  | w :: r, k => if w = x then n32 k else ixW x r (k + 1)
theorem ix_c {x w k : Nat} {r : List Nat} : ixW x (w :: r) k = if w = x then n32 k else ixW x r (k + 1) := rfl
theorem ix_26 : ∀ (l : List Nat) (k : Nat), (∀ w, w ∈ l → w < 26) → ixW 26 l k = -1
  | [], _, _ => rfl
  | w :: r, k, h => by
    have := h w List.mem_cons_self
    rw [ix_c, if_neg (by omega), ix_26 r (k + 1) (fun w hw => h w (List.mem_cons_of_mem _ hw))]
theorem look_ix {L : List Nat} {p : Nat} (hk : kdT L p = 2) : ∀ (l : List Nat) (k : Nat), (∀ w, w ∈ l → w < 26) → look (n64 (wN 32 96 L p (nxT L p - p))) (l.map (fun w => n64 (wN 32 96 (wl w) 0 (wl w).length))) (n32 k) = ixW (wxT L p) l k
  | [], _, _ => rfl
  | w :: r, k, h => by
    have hw := h w List.mem_cons_self
    have ih := look_ix hk r (k + 1) (fun w hw => h w (List.mem_cons_of_mem _ hw))
    obtain ⟨d1, d2⟩ := wd_tok hk
    obtain ⟨o1, o2⟩ := wl_ok w hw
    have e1 : n64 (wN 32 96 (wl w) 0 (wl w).length) = n64 (wN 32 96 L p (nxT L p - p)) ↔ w = wxT L p := by
      rw [n64_eq (wN_l8 (by omega) (by omega) o2 o1) (wN_l8 (by omega) (by omega) d1 d2), wN_bb (b' := 37) (by omega) (by omega) o2 d1, ← wx_iff hw]
      exact ⟨fun x => decide_eq_true ⟨hk, x.symm⟩, fun x => (of_decide_eq_true x).2.symm⟩
    show (if n64 (wN 32 96 (wl w) 0 (wl w).length) = n64 (wN 32 96 L p (nxT L p - p)) then n32 k else look (n64 (wN 32 96 L p (nxT L p - p))) (r.map (fun w => n64 (wN 32 96 (wl w) 0 (wl w).length))) (n32 k + 1)) = _
    rw [ix_c, n32_al]
    by_cases z : w = wxT L p
    · rw [if_pos (e1.mpr z), if_pos z]
    · rw [if_neg (fun y => z (e1.mp y)), if_neg z]
      exact ih
theorem pc_among {m : mi_M} {L : List Nat} {p n : Nat} (h : tokC m L p) (hn : n < 12) (h1 : 1 ≤ n) : f_X6_among n m = some (ixW (wxT L p) (wls n) 0) := by
  obtain ⟨t1, t2, t3, t4, t5, t6⟩ := h
  by_cases hk : kdT L p = 2
  · have e2 : m.1 6 0 1 = 2 := by rw [t3, hk]; rfl
    rw [pc_among1 hn e2, am_look, wls_ok n hn h1, t6 hk]
    exact congrArg some (look_ix hk (wls n) 0 (wls_lt n hn))
  · have hx : wxT L p = 26 := by
      have := wx_le L p
      by_cases z : wxT L p < 26
      · exact absurd (wx_k z) hk
      · omega
    have kb : kdT L p < 5 := by
      unfold kdT
      repeat' split
      all_goals omega
    unfold f_X6_among
    rw [t3, if_neg (by rw [n32_eqL (by omega) (by decide)]; exact hk), hx, ix_26 _ _ (wls_lt n hn)]
