/-! ===== the law's cases and its loop: what is owed of each call is ob_<call> of a relation on the memory ===== -/
def ob_feed (Rel : mi_M → Prop) : Prop := ∀ (a0 : Int64) (a1 : Int64) (a2 : Int64) (mem : mi_M), Rel mem → ∃ (r : Int32) (m1 : mi_M) (m2 : mi_M), f_X11_feed a0 a1 a2 mem = some (r, m1) ∧ f_X12_feed a0 a1 a2 m1 = some (r, m2) ∧ Rel m2
def ob_town (Rel : mi_M → Prop) : Prop := ∀ (mem : mi_M), Rel mem → ∃ (r : Int32) (m1 : mi_M) (m2 : mi_M), f_X11_town  mem = some (r, m1) ∧ f_X12_town  m1 = some (r, m2) ∧ Rel m2
def ob_year (Rel : mi_M → Prop) : Prop := ∀ (mem : mi_M), Rel mem → ∃ (r : Int32) (m1 : mi_M) (m2 : mi_M), f_X11_year  mem = some (r, m1) ∧ f_X12_year  m1 = some (r, m2) ∧ Rel m2
def ob_person (Rel : mi_M → Prop) : Prop := ∀ (a0 : Int32) (a1 : Int32) (mem : mi_M), Rel mem → ∃ (r : Int32) (m2 : mi_M), f_X11_person a0 a1 mem = some r ∧ f_X12_person a0 a1 mem = some (r, m2) ∧ Rel m2
def ob_wrong (Rel : mi_M → Prop) : Prop := ∀ (a0 : Int32) (a1 : Int32) (mem : mi_M), Rel mem → ∃ (r : Int32) (m2 : mi_M), f_X11_wrong a0 a1 mem = some r ∧ f_X12_wrong_ a0 a1 mem = some (r, m2) ∧ Rel m2
def ob_lamps (Rel : mi_M → Prop) : Prop := ∀ (mem : mi_M), Rel mem → ∃ (r : Int32) (m2 : mi_M), f_X11_lamps  mem = some r ∧ f_X12_lamps  mem = some (r, m2) ∧ Rel m2
def ob_dark (Rel : mi_M → Prop) : Prop := ∀ (a0 : Int32) (a1 : Int32) (a2 : Int32) (mem : mi_M), Rel mem → ∃ (r : Int32) (m1 : mi_M) (m2 : mi_M), f_X11_dark a0 a1 a2 mem = some (r, m1) ∧ f_X12_dark a0 a1 a2 m1 = some (r, m2) ∧ Rel m2
def ob_harm (Rel : mi_M → Prop) : Prop := ∀ (mem : mi_M), Rel mem → ∃ (r : Int32) (m1 : mi_M) (m2 : mi_M), f_X11_harm  mem = some (r, m1) ∧ f_X12_harm  m1 = some (r, m2) ∧ Rel m2
def ob_say (Rel : mi_M → Prop) : Prop := ∀ (a0 : Int32) (mem : mi_M), Rel mem → ∃ (r : Int32) (m1 : mi_M) (m2 : mi_M), f_X11_say a0 mem = some (r, m1) ∧ f_X12_say a0 m1 = some (r, m2) ∧ Rel m2
def ob_give (Rel : mi_M → Prop) : Prop := ∀ (a0 : Int32) (a1 : Int32) (mem : mi_M), Rel mem → ∃ (r : Int32) (m1 : mi_M) (m2 : mi_M), f_X11_give a0 a1 mem = some (r, m1) ∧ f_X12_give a0 a1 m1 = some (r, m2) ∧ Rel m2
def ob_ask (Rel : mi_M → Prop) : Prop := ∀ (a0 : Int32) (mem : mi_M), Rel mem → ∃ (r : Int32) (m1 : mi_M) (m2 : mi_M), f_X11_ask a0 mem = some (r, m1) ∧ f_X12_ask a0 m1 = some (r, m2) ∧ Rel m2
def ob_night (Rel : mi_M → Prop) : Prop := ∀ (mem : mi_M), Rel mem → ∃ (r : Int32) (m1 : mi_M) (m2 : mi_M), f_X11_night  mem = some (r, m1) ∧ f_X12_night  m1 = some (r, m2) ∧ Rel m2
def ob_undo (Rel : mi_M → Prop) : Prop := ∀ (mem : mi_M), Rel mem → ∃ (r : Int32) (m1 : mi_M) (m2 : mi_M), f_X11_undo  mem = some (r, m1) ∧ f_X12_undo  m1 = some (r, m2) ∧ Rel m2
def ob_judged (Rel : mi_M → Prop) : Prop := ∀ (a0 : Int32) (mem : mi_M), Rel mem → ∃ (r : Int32) (m1 : mi_M) (m2 : mi_M), f_X11_judged a0 mem = some (r, m1) ∧ f_X12_judged a0 m1 = some (r, m2) ∧ Rel m2
def ob_pay (Rel : mi_M → Prop) : Prop := ∀ (a0 : Int32) (a1 : Int32) (a2 : Int32) (mem : mi_M), Rel mem → ∃ (r : Int32) (m1 : mi_M) (m2 : mi_M), f_X11_pay a0 a1 a2 mem = some (r, m1) ∧ f_X12_pay a0 a1 a2 m1 = some (r, m2) ∧ Rel m2
def ob_when (Rel : mi_M → Prop) : Prop := ∀ (a0 : Int32) (a1 : Int32) (mem : mi_M), Rel mem → ∃ (r : Int32) (m1 : mi_M) (m2 : mi_M), f_X11_when a0 a1 mem = some (r, m1) ∧ f_X12_when a0 a1 m1 = some (r, m2) ∧ Rel m2
def ob_grudges (Rel : mi_M → Prop) : Prop := ∀ (a0 : Int32) (a1 : Int32) (mem : mi_M), Rel mem → (a1 = 0 ∨ a1 = 1) → ∃ (r : Int32) (m2 : mi_M), f_X11_grudges a0 a1 mem = some r ∧ f_X12_grudges a0 a1 mem = some (r, m2) ∧ Rel m2
def ob_ripe (Rel : mi_M → Prop) : Prop := ∀ (a0 : Int32) (mem : mi_M), Rel mem → ∃ (r : Int32) (m1 : mi_M) (m2 : mi_M), f_X11_ripe a0 mem = some (r, m1) ∧ f_X12_ripe a0 m1 = some (r, m2) ∧ Rel m2
def ob_price (Rel : mi_M → Prop) : Prop := ∀ (a0 : Int32) (a1 : Int32) (mem : mi_M), Rel mem → ∃ (r : Int32) (m1 : mi_M) (m2 : mi_M), f_X11_price a0 a1 mem = some (r, m1) ∧ f_X12_price a0 a1 m1 = some (r, m2) ∧ Rel m2
def ob_stays (Rel : mi_M → Prop) : Prop := ∀ (a0 : Int32) (a1 : Int32) (mem : mi_M), Rel mem → ∃ (r : Int32) (m1 : mi_M) (m2 : mi_M), f_X11_stays a0 a1 mem = some (r, m1) ∧ f_X12_stays a0 a1 m1 = some (r, m2) ∧ Rel m2
def ob_middle (Rel : mi_M → Prop) : Prop := ∀ (mem : mi_M), Rel mem → ∃ (r : Int32) (m1 : mi_M) (m2 : mi_M), f_X11_middle  mem = some (r, m1) ∧ f_X12_middle  m1 = some (r, m2) ∧ Rel m2
def ob_round (Rel : mi_M → Prop) : Prop := ∀ (a0 : Int32) (a1 : Int32) (a2 : Int32) (mem : mi_M), Rel mem → ∃ (r : Int32) (m1 : mi_M) (m2 : mi_M), f_X11_round a0 a1 a2 mem = some (r, m1) ∧ f_X12_round a0 a1 a2 m1 = some (r, m2) ∧ Rel m2
def ob_circle (Rel : mi_M → Prop) : Prop := ∀ (mem : mi_M), Rel mem → ∃ (r : Int32) (m2 : mi_M), f_X11_circle  mem = some r ∧ f_X12_circle  mem = some (r, m2) ∧ Rel m2
def ob_need (Rel : mi_M → Prop) : Prop := ∀ (mem : mi_M), Rel mem → ∃ (r : Int32) (m1 : mi_M) (m2 : mi_M), f_X11_need  mem = some (r, m1) ∧ f_X12_need  m1 = some (r, m2) ∧ Rel m2
def ob_wind (Rel : mi_M → Prop) : Prop := ∀ (a0 : Int32) (a1 : Int32) (mem : mi_M), Rel mem → ∃ (r : Int32) (m1 : mi_M) (m2 : mi_M), f_X11_wind a0 a1 mem = some (r, m1) ∧ f_X12_wind a0 a1 m1 = some (r, m2) ∧ Rel m2
def ob_see (Rel : mi_M → Prop) : Prop := ∀ (a0 : Int32) (a1 : Int32) (a2 : Int32) (mem : mi_M), Rel mem → (a2 = 0 ∨ a2 = 1) → ∃ (r : Int32) (m1 : mi_M) (m2 : mi_M), f_X11_see a0 a1 a2 mem = some (r, m1) ∧ f_X12_see a0 a1 a2 m1 = some (r, m2) ∧ Rel m2
def ob_sets (Rel : mi_M → Prop) : Prop := ∀ (a0 : Int32) (mem : mi_M), Rel mem → ∃ (r : Int32) (m1 : mi_M) (m2 : mi_M), f_X11_sets a0 mem = some (r, m1) ∧ f_X12_sets a0 m1 = some (r, m2) ∧ Rel m2
def ob_look (Rel : mi_M → Prop) : Prop := ∀ (mem : mi_M), Rel mem → ∃ (r : Int32) (m1 : mi_M) (m2 : mi_M), f_X11_look  mem = some (r, m1) ∧ f_X12_look  m1 = some (r, m2) ∧ Rel m2
def ob_law (Rel : mi_M → Prop) : Prop := ∀ (a0 : Int32) (a1 : Int32) (mem : mi_M), Rel mem → ∃ (r : Int32) (m1 : mi_M) (m2 : mi_M), f_X11_law a0 a1 mem = some (r, m1) ∧ f_X12_law a0 a1 m1 = some (r, m2) ∧ Rel m2
def ob_years (Rel : mi_M → Prop) : Prop := ∀ (a0 : Int32) (a1 : Int32) (a2 : Int32) (mem : mi_M), Rel mem → ∃ (r : Int32) (m1 : mi_M) (m2 : mi_M), f_X11_years a0 a1 a2 mem = some (r, m1) ∧ f_X12_years a0 a1 a2 m1 = some (r, m2) ∧ Rel m2
def ob_mark (Rel : mi_M → Prop) : Prop := ∀ (a0 : Int32) (a1 : Int32) (mem : mi_M), Rel mem → (a1 = 0 ∨ a1 = 1) → ∃ (r : Int32) (m1 : mi_M) (m2 : mi_M), f_X11_mark a0 a1 mem = some (r, m1) ∧ f_X12_mark a0 a1 m1 = some (r, m2) ∧ Rel m2
def ob_count (Rel : mi_M → Prop) : Prop := ∀ (a0 : Int32) (mem : mi_M), Rel mem → ∃ (r : Int32) (m2 : mi_M), f_X11_count a0 mem = some r ∧ f_X12_count a0 mem = some (r, m2) ∧ Rel m2
theorem lq_lt {L i : Nat} (hL : L ≤ 3584) (hi : i ≤ 4000) : (nI L - 7 < nI i) ↔ L < i + 7 := by
  have e : nI L - 7 = nI L + nI 0 - 7 := by rw [nI_0]; simp
  have h1 : (nI L - 7).toInt = (L : Int) - 7 := by
    rw [Int32.toInt_sub, nI_toInt (by omega), show (7 : Int32).toInt = 7 from rfl]
    have : ((L : Int) - 7).bmod (2 ^ 32) = (L : Int) - 7 := by
      apply Int.bmod_eq_of_le <;> omega
    exact this
  rw [Int32.lt_iff_toInt_lt, h1, nI_toInt (by omega)]
  omega
theorem lq_i7 (i : Nat) : nI i + Int32.ofInt 7 = nI (i + 7) := by
  rw [← nI_add]; rfl
theorem lq_iN (i k : Nat) : nI i + nI k = nI (i + k) := nI_add i k
def lq_ls (i : Nat) : List (Nat × mi_V) := [(4, vi (nI i)), (3, vr 311 0), (2, vr 12 0), (1, vr 11 0), (0, vr 310 0)]
section LW
variable {G : mi_G} {N0 b L nc ns : Nat} {xs : Nat → Int32} {Ex : Launch → State → Prop} {mem : mi_M} {g : Int64} {Rel : mi_M → Prop}
theorem lc_0 {i : Nat} (hi : i + 7 ≤ L) (hL : L ≤ 3584) (hc1 : nc ≤ 601024) (hs1 : ns ≤ 7293034) (hob : ob_feed Rel) (hR : Rel mem) (kk : ∀ m2, Rel m2 → mi_L G N0 b L xs Ex 1358 (lq_ls i) [] m2 g nc ns) : mi_L G N0 b L xs Ex 188 (lq_ls i) [] mem g nc ns := by
  obtain ⟨r, m1, m2, e1, e2, hR2⟩ := hob (((xs (i + 1)).toInt64 <<< (((32 : Int32).toInt64) &&& 63)) ||| ((xs (i + 2)).toInt64 &&& 4294967295)) (((xs (i + 3)).toInt64 <<< (((32 : Int32).toInt64) &&& 63)) ||| ((xs (i + 4)).toInt64 &&& 4294967295)) (((xs (i + 5)).toInt64 <<< (((32 : Int32).toInt64) &&& 63)) ||| ((xs (i + 6)).toInt64 &&& 4294967295)) mem hR
  have E1 := e1
  have E2 := e2
  refine l_aload_n dL_law_188 rfl ?_
  refine l_aload_n dL_law_189 rfl ?_
  refine l_iload dL_law_190 rfl ?_
  refine l_iconst dL_law_192 rfl ?_
  refine l_iadd dL_law_193 ?_
  refine l_sld (t := i + 1) dL_law_194 (lq_iN i 1) (by omega) (by omega) ?_
  refine l_i2l dL_law_195 rfl ?_
  refine l_bipush dL_law_196 rfl ?_
  refine l_lshl dL_law_198 rfl ?_
  refine l_aload_n dL_law_199 rfl ?_
  refine l_iload dL_law_200 rfl ?_
  refine l_iconst dL_law_202 rfl ?_
  refine l_iadd dL_law_203 ?_
  refine l_sld (t := i + 2) dL_law_204 (lq_iN i 2) (by omega) (by omega) ?_
  refine l_i2l dL_law_205 rfl ?_
  refine l_ldc2 dL_law_206 kL_19 ?_
  refine l_land dL_law_209 ?_
  refine l_lor dL_law_210 ?_
  refine l_aload_n dL_law_211 rfl ?_
  refine l_iload dL_law_212 rfl ?_
  refine l_iconst dL_law_214 rfl ?_
  refine l_iadd dL_law_215 ?_
  refine l_sld (t := i + 3) dL_law_216 (lq_iN i 3) (by omega) (by omega) ?_
  refine l_i2l dL_law_217 rfl ?_
  refine l_bipush dL_law_218 rfl ?_
  refine l_lshl dL_law_220 rfl ?_
  refine l_aload_n dL_law_221 rfl ?_
  refine l_iload dL_law_222 rfl ?_
  refine l_iconst dL_law_224 rfl ?_
  refine l_iadd dL_law_225 ?_
  refine l_sld (t := i + 4) dL_law_226 (lq_iN i 4) (by omega) (by omega) ?_
  refine l_i2l dL_law_227 rfl ?_
  refine l_ldc2 dL_law_228 kL_19 ?_
  refine l_land dL_law_231 ?_
  refine l_lor dL_law_232 ?_
  refine l_aload_n dL_law_233 rfl ?_
  refine l_iload dL_law_234 rfl ?_
  refine l_iconst dL_law_236 rfl ?_
  refine l_iadd dL_law_237 ?_
  refine l_sld (t := i + 5) dL_law_238 (lq_iN i 5) (by omega) (by omega) ?_
  refine l_i2l dL_law_239 rfl ?_
  refine l_bipush dL_law_240 rfl ?_
  refine l_lshl dL_law_242 rfl ?_
  refine l_aload_n dL_law_243 rfl ?_
  refine l_iload dL_law_244 rfl ?_
  refine l_bipush dL_law_246 rfl ?_
  refine l_iadd dL_law_248 ?_
  refine l_sld (t := i + 6) dL_law_249 (lq_iN i 6) (by omega) (by omega) ?_
  refine l_i2l dL_law_250 rfl ?_
  refine l_ldc2 dL_law_251 kL_19 ?_
  refine l_land dL_law_254 ?_
  refine l_lor dL_law_255 ?_
  refine l_Vi3 dL_law_256 lL_21 (by decide) (by decide) rfl hc1 hs1 (w_X11_feed _ _ _ _ _ e1) ?_
  rintro _ _ ⟨rfl, rfl⟩
  refine l_aload_n dL_law_259 rfl ?_
  refine l_aload_n dL_law_260 rfl ?_
  refine l_iload dL_law_261 rfl ?_
  refine l_iconst dL_law_263 rfl ?_
  refine l_iadd dL_law_264 ?_
  refine l_sld (t := i + 1) dL_law_265 (lq_iN i 1) (by omega) (by omega) ?_
  refine l_i2l dL_law_266 rfl ?_
  refine l_bipush dL_law_267 rfl ?_
  refine l_lshl dL_law_269 rfl ?_
  refine l_aload_n dL_law_270 rfl ?_
  refine l_iload dL_law_271 rfl ?_
  refine l_iconst dL_law_273 rfl ?_
  refine l_iadd dL_law_274 ?_
  refine l_sld (t := i + 2) dL_law_275 (lq_iN i 2) (by omega) (by omega) ?_
  refine l_i2l dL_law_276 rfl ?_
  refine l_ldc2 dL_law_277 kL_19 ?_
  refine l_land dL_law_280 ?_
  refine l_lor dL_law_281 ?_
  refine l_aload_n dL_law_282 rfl ?_
  refine l_iload dL_law_283 rfl ?_
  refine l_iconst dL_law_285 rfl ?_
  refine l_iadd dL_law_286 ?_
  refine l_sld (t := i + 3) dL_law_287 (lq_iN i 3) (by omega) (by omega) ?_
  refine l_i2l dL_law_288 rfl ?_
  refine l_bipush dL_law_289 rfl ?_
  refine l_lshl dL_law_291 rfl ?_
  refine l_aload_n dL_law_292 rfl ?_
  refine l_iload dL_law_293 rfl ?_
  refine l_iconst dL_law_295 rfl ?_
  refine l_iadd dL_law_296 ?_
  refine l_sld (t := i + 4) dL_law_297 (lq_iN i 4) (by omega) (by omega) ?_
  refine l_i2l dL_law_298 rfl ?_
  refine l_ldc2 dL_law_299 kL_19 ?_
  refine l_land dL_law_302 ?_
  refine l_lor dL_law_303 ?_
  refine l_aload_n dL_law_304 rfl ?_
  refine l_iload dL_law_305 rfl ?_
  refine l_iconst dL_law_307 rfl ?_
  refine l_iadd dL_law_308 ?_
  refine l_sld (t := i + 5) dL_law_309 (lq_iN i 5) (by omega) (by omega) ?_
  refine l_i2l dL_law_310 rfl ?_
  refine l_bipush dL_law_311 rfl ?_
  refine l_lshl dL_law_313 rfl ?_
  refine l_aload_n dL_law_314 rfl ?_
  refine l_iload dL_law_315 rfl ?_
  refine l_bipush dL_law_317 rfl ?_
  refine l_iadd dL_law_319 ?_
  refine l_sld (t := i + 6) dL_law_320 (lq_iN i 6) (by omega) (by omega) ?_
  refine l_i2l dL_law_321 rfl ?_
  refine l_ldc2 dL_law_322 kL_19 ?_
  refine l_land dL_law_325 ?_
  refine l_lor dL_law_326 ?_
  refine l_Vi3 dL_law_327 lL_25 (by decide) (by decide) rfl hc1 hs1 (w_X12_feed _ _ _ _ _ e2) ?_
  rintro _ _ ⟨rfl, rfl⟩
  exact l_icmp_eq dL_law_330 (tgt := 1358) rfl (fun _ => kk _ hR2) (fun h => absurd rfl h)
theorem lc_1 {i : Nat} (hi : i + 7 ≤ L) (hL : L ≤ 3584) (hc1 : nc ≤ 601024) (hs1 : ns ≤ 7293034) (hob : ob_town Rel) (hR : Rel mem) (kk : ∀ m2, Rel m2 → mi_L G N0 b L xs Ex 1358 (lq_ls i) [] m2 g nc ns) : mi_L G N0 b L xs Ex 335 (lq_ls i) [] mem g nc ns := by
  obtain ⟨r, m1, m2, e1, e2, hR2⟩ := hob  mem hR
  have E1 := e1
  have E2 := e2
  refine l_aload_n dL_law_335 rfl ?_
  refine l_Vi0 dL_law_336 lL_26 (by decide) (by decide) rfl hc1 hs1 (w_X11_town  _ _ e1) ?_
  rintro _ _ ⟨rfl, rfl⟩
  refine l_aload_n dL_law_339 rfl ?_
  refine l_Vi0 dL_law_340 lL_30 (by decide) (by decide) rfl hc1 hs1 (w_X12_town  _ _ e2) ?_
  rintro _ _ ⟨rfl, rfl⟩
  exact l_icmp_eq dL_law_343 (tgt := 1358) rfl (fun _ => kk _ hR2) (fun h => absurd rfl h)
theorem lc_2 {i : Nat} (hi : i + 7 ≤ L) (hL : L ≤ 3584) (hc1 : nc ≤ 601024) (hs1 : ns ≤ 7293034) (hob : ob_year Rel) (hR : Rel mem) (kk : ∀ m2, Rel m2 → mi_L G N0 b L xs Ex 1358 (lq_ls i) [] m2 g nc ns) : mi_L G N0 b L xs Ex 348 (lq_ls i) [] mem g nc ns := by
  obtain ⟨r, m1, m2, e1, e2, hR2⟩ := hob  mem hR
  have E1 := e1
  have E2 := e2
  refine l_aload_n dL_law_348 rfl ?_
  refine l_Vi0 dL_law_349 lL_31 (by decide) (by decide) rfl hc1 hs1 (w_X11_year  _ _ e1) ?_
  rintro _ _ ⟨rfl, rfl⟩
  refine l_aload_n dL_law_352 rfl ?_
  refine l_Vi0 dL_law_353 lL_34 (by decide) (by decide) rfl hc1 hs1 (w_X12_year  _ _ e2) ?_
  rintro _ _ ⟨rfl, rfl⟩
  exact l_icmp_eq dL_law_356 (tgt := 1358) rfl (fun _ => kk _ hR2) (fun h => absurd rfl h)
theorem lc_3 {i : Nat} (hi : i + 7 ≤ L) (hL : L ≤ 3584) (hc1 : nc ≤ 601024) (hs1 : ns ≤ 7293034) (hob : ob_person Rel) (hR : Rel mem) (kk : ∀ m2, Rel m2 → mi_L G N0 b L xs Ex 1358 (lq_ls i) [] m2 g nc ns) : mi_L G N0 b L xs Ex 361 (lq_ls i) [] mem g nc ns := by
  obtain ⟨r, m2, e1, e2, hR2⟩ := hob (xs (i + 1)) (xs (i + 2)) mem hR
  have E1 := e1
  have E2 := e2
  refine l_aload_n dL_law_361 rfl ?_
  refine l_aload_n dL_law_362 rfl ?_
  refine l_iload dL_law_363 rfl ?_
  refine l_iconst dL_law_365 rfl ?_
  refine l_iadd dL_law_366 ?_
  refine l_sld (t := i + 1) dL_law_367 (lq_iN i 1) (by omega) (by omega) ?_
  refine l_aload_n dL_law_368 rfl ?_
  refine l_iload dL_law_369 rfl ?_
  refine l_iconst dL_law_371 rfl ?_
  refine l_iadd dL_law_372 ?_
  refine l_sld (t := i + 2) dL_law_373 (lq_iN i 2) (by omega) (by omega) ?_
  refine l_Vi2 dL_law_374 lL_35 (by decide) (by decide) rfl hc1 hs1 (w_X11_person _ _ _ _ e1) ?_
  rintro _ _ ⟨rfl, rfl⟩
  refine l_aload_n dL_law_377 rfl ?_
  refine l_aload_n dL_law_378 rfl ?_
  refine l_iload dL_law_379 rfl ?_
  refine l_iconst dL_law_381 rfl ?_
  refine l_iadd dL_law_382 ?_
  refine l_sld (t := i + 1) dL_law_383 (lq_iN i 1) (by omega) (by omega) ?_
  refine l_aload_n dL_law_384 rfl ?_
  refine l_iload dL_law_385 rfl ?_
  refine l_iconst dL_law_387 rfl ?_
  refine l_iadd dL_law_388 ?_
  refine l_sld (t := i + 2) dL_law_389 (lq_iN i 2) (by omega) (by omega) ?_
  refine l_Vi2 dL_law_390 lL_39 (by decide) (by decide) rfl hc1 hs1 (w_X12_person _ _ _ _ e2) ?_
  rintro _ _ ⟨rfl, rfl⟩
  exact l_icmp_eq dL_law_393 (tgt := 1358) rfl (fun _ => kk _ hR2) (fun h => absurd rfl h)
theorem lc_4 {i : Nat} (hi : i + 7 ≤ L) (hL : L ≤ 3584) (hc1 : nc ≤ 601024) (hs1 : ns ≤ 7293034) (hob : ob_wrong Rel) (hR : Rel mem) (kk : ∀ m2, Rel m2 → mi_L G N0 b L xs Ex 1358 (lq_ls i) [] m2 g nc ns) : mi_L G N0 b L xs Ex 398 (lq_ls i) [] mem g nc ns := by
  obtain ⟨r, m2, e1, e2, hR2⟩ := hob (xs (i + 1)) (xs (i + 2)) mem hR
  have E1 := e1
  have E2 := e2
  refine l_aload_n dL_law_398 rfl ?_
  refine l_aload_n dL_law_399 rfl ?_
  refine l_iload dL_law_400 rfl ?_
  refine l_iconst dL_law_402 rfl ?_
  refine l_iadd dL_law_403 ?_
  refine l_sld (t := i + 1) dL_law_404 (lq_iN i 1) (by omega) (by omega) ?_
  refine l_aload_n dL_law_405 rfl ?_
  refine l_iload dL_law_406 rfl ?_
  refine l_iconst dL_law_408 rfl ?_
  refine l_iadd dL_law_409 ?_
  refine l_sld (t := i + 2) dL_law_410 (lq_iN i 2) (by omega) (by omega) ?_
  refine l_Vi2 dL_law_411 lL_40 (by decide) (by decide) rfl hc1 hs1 (w_X11_wrong _ _ _ _ e1) ?_
  rintro _ _ ⟨rfl, rfl⟩
  refine l_aload_n dL_law_414 rfl ?_
  refine l_aload_n dL_law_415 rfl ?_
  refine l_iload dL_law_416 rfl ?_
  refine l_iconst dL_law_418 rfl ?_
  refine l_iadd dL_law_419 ?_
  refine l_sld (t := i + 1) dL_law_420 (lq_iN i 1) (by omega) (by omega) ?_
  refine l_aload_n dL_law_421 rfl ?_
  refine l_iload dL_law_422 rfl ?_
  refine l_iconst dL_law_424 rfl ?_
  refine l_iadd dL_law_425 ?_
  refine l_sld (t := i + 2) dL_law_426 (lq_iN i 2) (by omega) (by omega) ?_
  refine l_Vi2 dL_law_427 lL_43 (by decide) (by decide) rfl hc1 hs1 (w_X12_wrong_ _ _ _ _ e2) ?_
  rintro _ _ ⟨rfl, rfl⟩
  exact l_icmp_eq dL_law_430 (tgt := 1358) rfl (fun _ => kk _ hR2) (fun h => absurd rfl h)
theorem lc_5 {i : Nat} (hi : i + 7 ≤ L) (hL : L ≤ 3584) (hc1 : nc ≤ 601024) (hs1 : ns ≤ 7293034) (hob : ob_lamps Rel) (hR : Rel mem) (kk : ∀ m2, Rel m2 → mi_L G N0 b L xs Ex 1358 (lq_ls i) [] m2 g nc ns) : mi_L G N0 b L xs Ex 435 (lq_ls i) [] mem g nc ns := by
  obtain ⟨r, m2, e1, e2, hR2⟩ := hob  mem hR
  have E1 := e1
  have E2 := e2
  refine l_aload_n dL_law_435 rfl ?_
  refine l_Vi0 dL_law_436 lL_44 (by decide) (by decide) rfl hc1 hs1 (w_X11_lamps  _ _ e1) ?_
  rintro _ _ ⟨rfl, rfl⟩
  refine l_aload_n dL_law_439 rfl ?_
  refine l_Vi0 dL_law_440 lL_47 (by decide) (by decide) rfl hc1 hs1 (w_X12_lamps  _ _ e2) ?_
  rintro _ _ ⟨rfl, rfl⟩
  exact l_icmp_eq dL_law_443 (tgt := 1358) rfl (fun _ => kk _ hR2) (fun h => absurd rfl h)
theorem lc_6 {i : Nat} (hi : i + 7 ≤ L) (hL : L ≤ 3584) (hc1 : nc ≤ 601024) (hs1 : ns ≤ 7293034) (hob : ob_dark Rel) (hR : Rel mem) (kk : ∀ m2, Rel m2 → mi_L G N0 b L xs Ex 1358 (lq_ls i) [] m2 g nc ns) : mi_L G N0 b L xs Ex 448 (lq_ls i) [] mem g nc ns := by
  obtain ⟨r, m1, m2, e1, e2, hR2⟩ := hob (xs (i + 1)) (xs (i + 2)) (xs (i + 3)) mem hR
  have E1 := e1
  have E2 := e2
  refine l_aload_n dL_law_448 rfl ?_
  refine l_aload_n dL_law_449 rfl ?_
  refine l_iload dL_law_450 rfl ?_
  refine l_iconst dL_law_452 rfl ?_
  refine l_iadd dL_law_453 ?_
  refine l_sld (t := i + 1) dL_law_454 (lq_iN i 1) (by omega) (by omega) ?_
  refine l_aload_n dL_law_455 rfl ?_
  refine l_iload dL_law_456 rfl ?_
  refine l_iconst dL_law_458 rfl ?_
  refine l_iadd dL_law_459 ?_
  refine l_sld (t := i + 2) dL_law_460 (lq_iN i 2) (by omega) (by omega) ?_
  refine l_aload_n dL_law_461 rfl ?_
  refine l_iload dL_law_462 rfl ?_
  refine l_iconst dL_law_464 rfl ?_
  refine l_iadd dL_law_465 ?_
  refine l_sld (t := i + 3) dL_law_466 (lq_iN i 3) (by omega) (by omega) ?_
  refine l_Vi3 dL_law_467 lL_48 (by decide) (by decide) rfl hc1 hs1 (w_X11_dark _ _ _ _ _ e1) ?_
  rintro _ _ ⟨rfl, rfl⟩
  refine l_aload_n dL_law_470 rfl ?_
  refine l_aload_n dL_law_471 rfl ?_
  refine l_iload dL_law_472 rfl ?_
  refine l_iconst dL_law_474 rfl ?_
  refine l_iadd dL_law_475 ?_
  refine l_sld (t := i + 1) dL_law_476 (lq_iN i 1) (by omega) (by omega) ?_
  refine l_aload_n dL_law_477 rfl ?_
  refine l_iload dL_law_478 rfl ?_
  refine l_iconst dL_law_480 rfl ?_
  refine l_iadd dL_law_481 ?_
  refine l_sld (t := i + 2) dL_law_482 (lq_iN i 2) (by omega) (by omega) ?_
  refine l_aload_n dL_law_483 rfl ?_
  refine l_iload dL_law_484 rfl ?_
  refine l_iconst dL_law_486 rfl ?_
  refine l_iadd dL_law_487 ?_
  refine l_sld (t := i + 3) dL_law_488 (lq_iN i 3) (by omega) (by omega) ?_
  refine l_Vi3 dL_law_489 lL_51 (by decide) (by decide) rfl hc1 hs1 (w_X12_dark _ _ _ _ _ e2) ?_
  rintro _ _ ⟨rfl, rfl⟩
  exact l_icmp_eq dL_law_492 (tgt := 1358) rfl (fun _ => kk _ hR2) (fun h => absurd rfl h)
theorem lc_7 {i : Nat} (hi : i + 7 ≤ L) (hL : L ≤ 3584) (hc1 : nc ≤ 601024) (hs1 : ns ≤ 7293034) (hob : ob_harm Rel) (hR : Rel mem) (kk : ∀ m2, Rel m2 → mi_L G N0 b L xs Ex 1358 (lq_ls i) [] m2 g nc ns) : mi_L G N0 b L xs Ex 497 (lq_ls i) [] mem g nc ns := by
  obtain ⟨r, m1, m2, e1, e2, hR2⟩ := hob  mem hR
  have E1 := e1
  have E2 := e2
  refine l_aload_n dL_law_497 rfl ?_
  refine l_Vi0 dL_law_498 lL_52 (by decide) (by decide) rfl hc1 hs1 (w_X11_harm  _ _ e1) ?_
  rintro _ _ ⟨rfl, rfl⟩
  refine l_aload_n dL_law_501 rfl ?_
  refine l_Vi0 dL_law_502 lL_55 (by decide) (by decide) rfl hc1 hs1 (w_X12_harm  _ _ e2) ?_
  rintro _ _ ⟨rfl, rfl⟩
  exact l_icmp_eq dL_law_505 (tgt := 1358) rfl (fun _ => kk _ hR2) (fun h => absurd rfl h)
theorem lc_8 {i : Nat} (hi : i + 7 ≤ L) (hL : L ≤ 3584) (hc1 : nc ≤ 601024) (hs1 : ns ≤ 7293034) (hob : ob_say Rel) (hR : Rel mem) (kk : ∀ m2, Rel m2 → mi_L G N0 b L xs Ex 1358 (lq_ls i) [] m2 g nc ns) : mi_L G N0 b L xs Ex 510 (lq_ls i) [] mem g nc ns := by
  obtain ⟨r, m1, m2, e1, e2, hR2⟩ := hob (xs (i + 1)) mem hR
  have E1 := e1
  have E2 := e2
  refine l_aload_n dL_law_510 rfl ?_
  refine l_aload_n dL_law_511 rfl ?_
  refine l_iload dL_law_512 rfl ?_
  refine l_iconst dL_law_514 rfl ?_
  refine l_iadd dL_law_515 ?_
  refine l_sld (t := i + 1) dL_law_516 (lq_iN i 1) (by omega) (by omega) ?_
  refine l_Vi1 dL_law_517 lL_56 (by decide) (by decide) rfl hc1 hs1 (w_X11_say _ _ _ e1) ?_
  rintro _ _ ⟨rfl, rfl⟩
  refine l_aload_n dL_law_520 rfl ?_
  refine l_aload_n dL_law_521 rfl ?_
  refine l_iload dL_law_522 rfl ?_
  refine l_iconst dL_law_524 rfl ?_
  refine l_iadd dL_law_525 ?_
  refine l_sld (t := i + 1) dL_law_526 (lq_iN i 1) (by omega) (by omega) ?_
  refine l_Vi1 dL_law_527 lL_60 (by decide) (by decide) rfl hc1 hs1 (w_X12_say _ _ _ e2) ?_
  rintro _ _ ⟨rfl, rfl⟩
  exact l_icmp_eq dL_law_530 (tgt := 1358) rfl (fun _ => kk _ hR2) (fun h => absurd rfl h)
theorem lc_9 {i : Nat} (hi : i + 7 ≤ L) (hL : L ≤ 3584) (hc1 : nc ≤ 601024) (hs1 : ns ≤ 7293034) (hob : ob_give Rel) (hR : Rel mem) (kk : ∀ m2, Rel m2 → mi_L G N0 b L xs Ex 1358 (lq_ls i) [] m2 g nc ns) : mi_L G N0 b L xs Ex 535 (lq_ls i) [] mem g nc ns := by
  obtain ⟨r, m1, m2, e1, e2, hR2⟩ := hob (xs (i + 1)) (xs (i + 2)) mem hR
  have E1 := e1
  have E2 := e2
  refine l_aload_n dL_law_535 rfl ?_
  refine l_aload_n dL_law_536 rfl ?_
  refine l_iload dL_law_537 rfl ?_
  refine l_iconst dL_law_539 rfl ?_
  refine l_iadd dL_law_540 ?_
  refine l_sld (t := i + 1) dL_law_541 (lq_iN i 1) (by omega) (by omega) ?_
  refine l_aload_n dL_law_542 rfl ?_
  refine l_iload dL_law_543 rfl ?_
  refine l_iconst dL_law_545 rfl ?_
  refine l_iadd dL_law_546 ?_
  refine l_sld (t := i + 2) dL_law_547 (lq_iN i 2) (by omega) (by omega) ?_
  refine l_Vi2 dL_law_548 lL_61 (by decide) (by decide) rfl hc1 hs1 (w_X11_give _ _ _ _ e1) ?_
  rintro _ _ ⟨rfl, rfl⟩
  refine l_aload_n dL_law_551 rfl ?_
  refine l_aload_n dL_law_552 rfl ?_
  refine l_iload dL_law_553 rfl ?_
  refine l_iconst dL_law_555 rfl ?_
  refine l_iadd dL_law_556 ?_
  refine l_sld (t := i + 1) dL_law_557 (lq_iN i 1) (by omega) (by omega) ?_
  refine l_aload_n dL_law_558 rfl ?_
  refine l_iload dL_law_559 rfl ?_
  refine l_iconst dL_law_561 rfl ?_
  refine l_iadd dL_law_562 ?_
  refine l_sld (t := i + 2) dL_law_563 (lq_iN i 2) (by omega) (by omega) ?_
  refine l_Vi2 dL_law_564 lL_64 (by decide) (by decide) rfl hc1 hs1 (w_X12_give _ _ _ _ e2) ?_
  rintro _ _ ⟨rfl, rfl⟩
  exact l_icmp_eq dL_law_567 (tgt := 1358) rfl (fun _ => kk _ hR2) (fun h => absurd rfl h)
theorem lc_10 {i : Nat} (hi : i + 7 ≤ L) (hL : L ≤ 3584) (hc1 : nc ≤ 601024) (hs1 : ns ≤ 7293034) (hob : ob_ask Rel) (hR : Rel mem) (kk : ∀ m2, Rel m2 → mi_L G N0 b L xs Ex 1358 (lq_ls i) [] m2 g nc ns) : mi_L G N0 b L xs Ex 572 (lq_ls i) [] mem g nc ns := by
  obtain ⟨r, m1, m2, e1, e2, hR2⟩ := hob (xs (i + 1)) mem hR
  have E1 := e1
  have E2 := e2
  refine l_aload_n dL_law_572 rfl ?_
  refine l_aload_n dL_law_573 rfl ?_
  refine l_iload dL_law_574 rfl ?_
  refine l_iconst dL_law_576 rfl ?_
  refine l_iadd dL_law_577 ?_
  refine l_sld (t := i + 1) dL_law_578 (lq_iN i 1) (by omega) (by omega) ?_
  refine l_Vi1 dL_law_579 lL_65 (by decide) (by decide) rfl hc1 hs1 (w_X11_ask _ _ _ e1) ?_
  rintro _ _ ⟨rfl, rfl⟩
  refine l_aload_n dL_law_582 rfl ?_
  refine l_aload_n dL_law_583 rfl ?_
  refine l_iload dL_law_584 rfl ?_
  refine l_iconst dL_law_586 rfl ?_
  refine l_iadd dL_law_587 ?_
  refine l_sld (t := i + 1) dL_law_588 (lq_iN i 1) (by omega) (by omega) ?_
  refine l_Vi1 dL_law_589 lL_68 (by decide) (by decide) rfl hc1 hs1 (w_X12_ask _ _ _ e2) ?_
  rintro _ _ ⟨rfl, rfl⟩
  exact l_icmp_eq dL_law_592 (tgt := 1358) rfl (fun _ => kk _ hR2) (fun h => absurd rfl h)
theorem lc_11 {i : Nat} (hi : i + 7 ≤ L) (hL : L ≤ 3584) (hc1 : nc ≤ 601024) (hs1 : ns ≤ 7293034) (hob : ob_night Rel) (hR : Rel mem) (kk : ∀ m2, Rel m2 → mi_L G N0 b L xs Ex 1358 (lq_ls i) [] m2 g nc ns) : mi_L G N0 b L xs Ex 597 (lq_ls i) [] mem g nc ns := by
  obtain ⟨r, m1, m2, e1, e2, hR2⟩ := hob  mem hR
  have E1 := e1
  have E2 := e2
  refine l_aload_n dL_law_597 rfl ?_
  refine l_Vi0 dL_law_598 lL_69 (by decide) (by decide) rfl hc1 hs1 (w_X11_night  _ _ e1) ?_
  rintro _ _ ⟨rfl, rfl⟩
  refine l_aload_n dL_law_601 rfl ?_
  refine l_Vi0 dL_law_602 lL_72 (by decide) (by decide) rfl hc1 hs1 (w_X12_night  _ _ e2) ?_
  rintro _ _ ⟨rfl, rfl⟩
  exact l_icmp_eq dL_law_605 (tgt := 1358) rfl (fun _ => kk _ hR2) (fun h => absurd rfl h)
theorem lc_12 {i : Nat} (hi : i + 7 ≤ L) (hL : L ≤ 3584) (hc1 : nc ≤ 601024) (hs1 : ns ≤ 7293034) (hob : ob_undo Rel) (hR : Rel mem) (kk : ∀ m2, Rel m2 → mi_L G N0 b L xs Ex 1358 (lq_ls i) [] m2 g nc ns) : mi_L G N0 b L xs Ex 610 (lq_ls i) [] mem g nc ns := by
  obtain ⟨r, m1, m2, e1, e2, hR2⟩ := hob  mem hR
  have E1 := e1
  have E2 := e2
  refine l_aload_n dL_law_610 rfl ?_
  refine l_Vi0 dL_law_611 lL_73 (by decide) (by decide) rfl hc1 hs1 (w_X11_undo  _ _ e1) ?_
  rintro _ _ ⟨rfl, rfl⟩
  refine l_aload_n dL_law_614 rfl ?_
  refine l_Vi0 dL_law_615 lL_77 (by decide) (by decide) rfl hc1 hs1 (w_X12_undo  _ _ e2) ?_
  rintro _ _ ⟨rfl, rfl⟩
  exact l_icmp_eq dL_law_618 (tgt := 1358) rfl (fun _ => kk _ hR2) (fun h => absurd rfl h)
theorem lc_13 {i : Nat} (hi : i + 7 ≤ L) (hL : L ≤ 3584) (hc1 : nc ≤ 601024) (hs1 : ns ≤ 7293034) (hob : ob_judged Rel) (hR : Rel mem) (kk : ∀ m2, Rel m2 → mi_L G N0 b L xs Ex 1358 (lq_ls i) [] m2 g nc ns) : mi_L G N0 b L xs Ex 623 (lq_ls i) [] mem g nc ns := by
  obtain ⟨r, m1, m2, e1, e2, hR2⟩ := hob (xs (i + 1)) mem hR
  have E1 := e1
  have E2 := e2
  refine l_aload_n dL_law_623 rfl ?_
  refine l_aload_n dL_law_624 rfl ?_
  refine l_iload dL_law_625 rfl ?_
  refine l_iconst dL_law_627 rfl ?_
  refine l_iadd dL_law_628 ?_
  refine l_sld (t := i + 1) dL_law_629 (lq_iN i 1) (by omega) (by omega) ?_
  refine l_Vi1 dL_law_630 lL_78 (by decide) (by decide) rfl hc1 hs1 (w_X11_judged _ _ _ e1) ?_
  rintro _ _ ⟨rfl, rfl⟩
  refine l_aload_n dL_law_633 rfl ?_
  refine l_aload_n dL_law_634 rfl ?_
  refine l_iload dL_law_635 rfl ?_
  refine l_iconst dL_law_637 rfl ?_
  refine l_iadd dL_law_638 ?_
  refine l_sld (t := i + 1) dL_law_639 (lq_iN i 1) (by omega) (by omega) ?_
  refine l_Vi1 dL_law_640 lL_81 (by decide) (by decide) rfl hc1 hs1 (w_X12_judged _ _ _ e2) ?_
  rintro _ _ ⟨rfl, rfl⟩
  exact l_icmp_eq dL_law_643 (tgt := 1358) rfl (fun _ => kk _ hR2) (fun h => absurd rfl h)
theorem lc_14 {i : Nat} (hi : i + 7 ≤ L) (hL : L ≤ 3584) (hc1 : nc ≤ 601024) (hs1 : ns ≤ 7293034) (hob : ob_pay Rel) (hR : Rel mem) (kk : ∀ m2, Rel m2 → mi_L G N0 b L xs Ex 1358 (lq_ls i) [] m2 g nc ns) : mi_L G N0 b L xs Ex 648 (lq_ls i) [] mem g nc ns := by
  obtain ⟨r, m1, m2, e1, e2, hR2⟩ := hob (xs (i + 1)) (xs (i + 2)) (xs (i + 3)) mem hR
  have E1 := e1
  have E2 := e2
  refine l_aload_n dL_law_648 rfl ?_
  refine l_aload_n dL_law_649 rfl ?_
  refine l_iload dL_law_650 rfl ?_
  refine l_iconst dL_law_652 rfl ?_
  refine l_iadd dL_law_653 ?_
  refine l_sld (t := i + 1) dL_law_654 (lq_iN i 1) (by omega) (by omega) ?_
  refine l_aload_n dL_law_655 rfl ?_
  refine l_iload dL_law_656 rfl ?_
  refine l_iconst dL_law_658 rfl ?_
  refine l_iadd dL_law_659 ?_
  refine l_sld (t := i + 2) dL_law_660 (lq_iN i 2) (by omega) (by omega) ?_
  refine l_aload_n dL_law_661 rfl ?_
  refine l_iload dL_law_662 rfl ?_
  refine l_iconst dL_law_664 rfl ?_
  refine l_iadd dL_law_665 ?_
  refine l_sld (t := i + 3) dL_law_666 (lq_iN i 3) (by omega) (by omega) ?_
  refine l_Vi3 dL_law_667 lL_82 (by decide) (by decide) rfl hc1 hs1 (w_X11_pay _ _ _ _ _ e1) ?_
  rintro _ _ ⟨rfl, rfl⟩
  refine l_aload_n dL_law_670 rfl ?_
  refine l_aload_n dL_law_671 rfl ?_
  refine l_iload dL_law_672 rfl ?_
  refine l_iconst dL_law_674 rfl ?_
  refine l_iadd dL_law_675 ?_
  refine l_sld (t := i + 1) dL_law_676 (lq_iN i 1) (by omega) (by omega) ?_
  refine l_aload_n dL_law_677 rfl ?_
  refine l_iload dL_law_678 rfl ?_
  refine l_iconst dL_law_680 rfl ?_
  refine l_iadd dL_law_681 ?_
  refine l_sld (t := i + 2) dL_law_682 (lq_iN i 2) (by omega) (by omega) ?_
  refine l_aload_n dL_law_683 rfl ?_
  refine l_iload dL_law_684 rfl ?_
  refine l_iconst dL_law_686 rfl ?_
  refine l_iadd dL_law_687 ?_
  refine l_sld (t := i + 3) dL_law_688 (lq_iN i 3) (by omega) (by omega) ?_
  refine l_Vi3 dL_law_689 lL_85 (by decide) (by decide) rfl hc1 hs1 (w_X12_pay _ _ _ _ _ e2) ?_
  rintro _ _ ⟨rfl, rfl⟩
  exact l_icmp_eq dL_law_692 (tgt := 1358) rfl (fun _ => kk _ hR2) (fun h => absurd rfl h)
theorem lc_15 {i : Nat} (hi : i + 7 ≤ L) (hL : L ≤ 3584) (hc1 : nc ≤ 601024) (hs1 : ns ≤ 7293034) (hob : ob_when Rel) (hR : Rel mem) (kk : ∀ m2, Rel m2 → mi_L G N0 b L xs Ex 1358 (lq_ls i) [] m2 g nc ns) : mi_L G N0 b L xs Ex 697 (lq_ls i) [] mem g nc ns := by
  obtain ⟨r, m1, m2, e1, e2, hR2⟩ := hob (xs (i + 1)) (xs (i + 2)) mem hR
  have E1 := e1
  have E2 := e2
  refine l_aload_n dL_law_697 rfl ?_
  refine l_aload_n dL_law_698 rfl ?_
  refine l_iload dL_law_699 rfl ?_
  refine l_iconst dL_law_701 rfl ?_
  refine l_iadd dL_law_702 ?_
  refine l_sld (t := i + 1) dL_law_703 (lq_iN i 1) (by omega) (by omega) ?_
  refine l_aload_n dL_law_704 rfl ?_
  refine l_iload dL_law_705 rfl ?_
  refine l_iconst dL_law_707 rfl ?_
  refine l_iadd dL_law_708 ?_
  refine l_sld (t := i + 2) dL_law_709 (lq_iN i 2) (by omega) (by omega) ?_
  refine l_Vi2 dL_law_710 lL_86 (by decide) (by decide) rfl hc1 hs1 (w_X11_when _ _ _ _ e1) ?_
  rintro _ _ ⟨rfl, rfl⟩
  refine l_aload_n dL_law_713 rfl ?_
  refine l_aload_n dL_law_714 rfl ?_
  refine l_iload dL_law_715 rfl ?_
  refine l_iconst dL_law_717 rfl ?_
  refine l_iadd dL_law_718 ?_
  refine l_sld (t := i + 1) dL_law_719 (lq_iN i 1) (by omega) (by omega) ?_
  refine l_aload_n dL_law_720 rfl ?_
  refine l_iload dL_law_721 rfl ?_
  refine l_iconst dL_law_723 rfl ?_
  refine l_iadd dL_law_724 ?_
  refine l_sld (t := i + 2) dL_law_725 (lq_iN i 2) (by omega) (by omega) ?_
  refine l_Vi2 dL_law_726 lL_89 (by decide) (by decide) rfl hc1 hs1 (w_X12_when _ _ _ _ e2) ?_
  rintro _ _ ⟨rfl, rfl⟩
  exact l_icmp_eq dL_law_729 (tgt := 1358) rfl (fun _ => kk _ hR2) (fun h => absurd rfl h)
theorem lc_16 {i : Nat} (hi : i + 7 ≤ L) (hL : L ≤ 3584) (hc1 : nc ≤ 601024) (hs1 : ns ≤ 7293034) (hob : ob_grudges Rel) (hR : Rel mem) (kk : ∀ m2, Rel m2 → mi_L G N0 b L xs Ex 1358 (lq_ls i) [] m2 g nc ns) : mi_L G N0 b L xs Ex 734 (lq_ls i) [] mem g nc ns := by
  by_cases hz : xs (i + 2) = 0
  · skip
    obtain ⟨r, m2, e1, e2, hR2⟩ := hob (xs (i + 1)) 0 mem hR (by decide)
    have E1 := e1
    have E2 := e2
    refine l_aload_n dL_law_734 rfl ?_
    refine l_aload_n dL_law_735 rfl ?_
    refine l_iload dL_law_736 rfl ?_
    refine l_iconst dL_law_738 rfl ?_
    refine l_iadd dL_law_739 ?_
    refine l_sld (t := i + 1) dL_law_740 (lq_iN i 1) (by omega) (by omega) ?_
    refine l_aload_n dL_law_741 rfl ?_
    refine l_iload dL_law_742 rfl ?_
    refine l_iconst dL_law_744 rfl ?_
    refine l_iadd dL_law_745 ?_
    refine l_sld (t := i + 2) dL_law_746 (lq_iN i 2) (by omega) (by omega) ?_
    refine l_if_eq dL_law_747 (tgt := 754) rfl (fun _ => ?_) (fun h => absurd hz h)
    refine l_iconst dL_law_754 rfl ?_
    refine l_Vi2 dL_law_755 lL_90 (by decide) (by decide) rfl hc1 hs1 (w_X11_grudges _ _ _ _ e1) ?_
    rintro _ _ ⟨rfl, rfl⟩
    refine l_aload_n dL_law_758 rfl ?_
    refine l_aload_n dL_law_759 rfl ?_
    refine l_iload dL_law_760 rfl ?_
    refine l_iconst dL_law_762 rfl ?_
    refine l_iadd dL_law_763 ?_
    refine l_sld (t := i + 1) dL_law_764 (lq_iN i 1) (by omega) (by omega) ?_
    refine l_aload_n dL_law_765 rfl ?_
    refine l_iload dL_law_766 rfl ?_
    refine l_iconst dL_law_768 rfl ?_
    refine l_iadd dL_law_769 ?_
    refine l_sld (t := i + 2) dL_law_770 (lq_iN i 2) (by omega) (by omega) ?_
    refine l_if_eq dL_law_771 (tgt := 778) rfl (fun _ => ?_) (fun h => absurd hz h)
    refine l_iconst dL_law_778 rfl ?_
    refine l_Vi2 dL_law_779 lL_94 (by decide) (by decide) rfl hc1 hs1 (w_X12_grudges _ _ _ _ e2) ?_
    rintro _ _ ⟨rfl, rfl⟩
    exact l_icmp_eq dL_law_782 (tgt := 1358) rfl (fun _ => kk _ hR2) (fun h => absurd rfl h)
  · skip
    obtain ⟨r, m2, e1, e2, hR2⟩ := hob (xs (i + 1)) 1 mem hR (by decide)
    have E1 := e1
    have E2 := e2
    refine l_aload_n dL_law_734 rfl ?_
    refine l_aload_n dL_law_735 rfl ?_
    refine l_iload dL_law_736 rfl ?_
    refine l_iconst dL_law_738 rfl ?_
    refine l_iadd dL_law_739 ?_
    refine l_sld (t := i + 1) dL_law_740 (lq_iN i 1) (by omega) (by omega) ?_
    refine l_aload_n dL_law_741 rfl ?_
    refine l_iload dL_law_742 rfl ?_
    refine l_iconst dL_law_744 rfl ?_
    refine l_iadd dL_law_745 ?_
    refine l_sld (t := i + 2) dL_law_746 (lq_iN i 2) (by omega) (by omega) ?_
    refine l_if_eq dL_law_747 (tgt := 754) rfl (fun h => absurd h hz) (fun _ => ?_)
    refine l_iconst dL_law_750 rfl ?_
    refine l_goto dL_law_751 (tgt := 755) rfl ?_
    refine l_Vi2 dL_law_755 lL_90 (by decide) (by decide) rfl hc1 hs1 (w_X11_grudges _ _ _ _ e1) ?_
    rintro _ _ ⟨rfl, rfl⟩
    refine l_aload_n dL_law_758 rfl ?_
    refine l_aload_n dL_law_759 rfl ?_
    refine l_iload dL_law_760 rfl ?_
    refine l_iconst dL_law_762 rfl ?_
    refine l_iadd dL_law_763 ?_
    refine l_sld (t := i + 1) dL_law_764 (lq_iN i 1) (by omega) (by omega) ?_
    refine l_aload_n dL_law_765 rfl ?_
    refine l_iload dL_law_766 rfl ?_
    refine l_iconst dL_law_768 rfl ?_
    refine l_iadd dL_law_769 ?_
    refine l_sld (t := i + 2) dL_law_770 (lq_iN i 2) (by omega) (by omega) ?_
    refine l_if_eq dL_law_771 (tgt := 778) rfl (fun h => absurd h hz) (fun _ => ?_)
    refine l_iconst dL_law_774 rfl ?_
    refine l_goto dL_law_775 (tgt := 779) rfl ?_
    refine l_Vi2 dL_law_779 lL_94 (by decide) (by decide) rfl hc1 hs1 (w_X12_grudges _ _ _ _ e2) ?_
    rintro _ _ ⟨rfl, rfl⟩
    exact l_icmp_eq dL_law_782 (tgt := 1358) rfl (fun _ => kk _ hR2) (fun h => absurd rfl h)
theorem lc_17 {i : Nat} (hi : i + 7 ≤ L) (hL : L ≤ 3584) (hc1 : nc ≤ 601024) (hs1 : ns ≤ 7293034) (hob : ob_ripe Rel) (hR : Rel mem) (kk : ∀ m2, Rel m2 → mi_L G N0 b L xs Ex 1358 (lq_ls i) [] m2 g nc ns) : mi_L G N0 b L xs Ex 787 (lq_ls i) [] mem g nc ns := by
  obtain ⟨r, m1, m2, e1, e2, hR2⟩ := hob (xs (i + 1)) mem hR
  have E1 := e1
  have E2 := e2
  refine l_aload_n dL_law_787 rfl ?_
  refine l_aload_n dL_law_788 rfl ?_
  refine l_iload dL_law_789 rfl ?_
  refine l_iconst dL_law_791 rfl ?_
  refine l_iadd dL_law_792 ?_
  refine l_sld (t := i + 1) dL_law_793 (lq_iN i 1) (by omega) (by omega) ?_
  refine l_Vi1 dL_law_794 lL_95 (by decide) (by decide) rfl hc1 hs1 (w_X11_ripe _ _ _ e1) ?_
  rintro _ _ ⟨rfl, rfl⟩
  refine l_aload_n dL_law_797 rfl ?_
  refine l_aload_n dL_law_798 rfl ?_
  refine l_iload dL_law_799 rfl ?_
  refine l_iconst dL_law_801 rfl ?_
  refine l_iadd dL_law_802 ?_
  refine l_sld (t := i + 1) dL_law_803 (lq_iN i 1) (by omega) (by omega) ?_
  refine l_Vi1 dL_law_804 lL_98 (by decide) (by decide) rfl hc1 hs1 (w_X12_ripe _ _ _ e2) ?_
  rintro _ _ ⟨rfl, rfl⟩
  exact l_icmp_eq dL_law_807 (tgt := 1358) rfl (fun _ => kk _ hR2) (fun h => absurd rfl h)
theorem lc_18 {i : Nat} (hi : i + 7 ≤ L) (hL : L ≤ 3584) (hc1 : nc ≤ 601024) (hs1 : ns ≤ 7293034) (hob : ob_price Rel) (hR : Rel mem) (kk : ∀ m2, Rel m2 → mi_L G N0 b L xs Ex 1358 (lq_ls i) [] m2 g nc ns) : mi_L G N0 b L xs Ex 812 (lq_ls i) [] mem g nc ns := by
  obtain ⟨r, m1, m2, e1, e2, hR2⟩ := hob (xs (i + 1)) (xs (i + 2)) mem hR
  have E1 := e1
  have E2 := e2
  refine l_aload_n dL_law_812 rfl ?_
  refine l_aload_n dL_law_813 rfl ?_
  refine l_iload dL_law_814 rfl ?_
  refine l_iconst dL_law_816 rfl ?_
  refine l_iadd dL_law_817 ?_
  refine l_sld (t := i + 1) dL_law_818 (lq_iN i 1) (by omega) (by omega) ?_
  refine l_aload_n dL_law_819 rfl ?_
  refine l_iload dL_law_820 rfl ?_
  refine l_iconst dL_law_822 rfl ?_
  refine l_iadd dL_law_823 ?_
  refine l_sld (t := i + 2) dL_law_824 (lq_iN i 2) (by omega) (by omega) ?_
  refine l_Vi2 dL_law_825 lL_99 (by decide) (by decide) rfl hc1 hs1 (w_X11_price _ _ _ _ e1) ?_
  rintro _ _ ⟨rfl, rfl⟩
  refine l_aload_n dL_law_828 rfl ?_
  refine l_aload_n dL_law_829 rfl ?_
  refine l_iload dL_law_830 rfl ?_
  refine l_iconst dL_law_832 rfl ?_
  refine l_iadd dL_law_833 ?_
  refine l_sld (t := i + 1) dL_law_834 (lq_iN i 1) (by omega) (by omega) ?_
  refine l_aload_n dL_law_835 rfl ?_
  refine l_iload dL_law_836 rfl ?_
  refine l_iconst dL_law_838 rfl ?_
  refine l_iadd dL_law_839 ?_
  refine l_sld (t := i + 2) dL_law_840 (lq_iN i 2) (by omega) (by omega) ?_
  refine l_Vi2 dL_law_841 lL_102 (by decide) (by decide) rfl hc1 hs1 (w_X12_price _ _ _ _ e2) ?_
  rintro _ _ ⟨rfl, rfl⟩
  exact l_icmp_eq dL_law_844 (tgt := 1358) rfl (fun _ => kk _ hR2) (fun h => absurd rfl h)
theorem lc_19 {i : Nat} (hi : i + 7 ≤ L) (hL : L ≤ 3584) (hc1 : nc ≤ 601024) (hs1 : ns ≤ 7293034) (hob : ob_stays Rel) (hR : Rel mem) (kk : ∀ m2, Rel m2 → mi_L G N0 b L xs Ex 1358 (lq_ls i) [] m2 g nc ns) : mi_L G N0 b L xs Ex 849 (lq_ls i) [] mem g nc ns := by
  obtain ⟨r, m1, m2, e1, e2, hR2⟩ := hob (xs (i + 1)) (xs (i + 2)) mem hR
  have E1 := e1
  have E2 := e2
  refine l_aload_n dL_law_849 rfl ?_
  refine l_aload_n dL_law_850 rfl ?_
  refine l_iload dL_law_851 rfl ?_
  refine l_iconst dL_law_853 rfl ?_
  refine l_iadd dL_law_854 ?_
  refine l_sld (t := i + 1) dL_law_855 (lq_iN i 1) (by omega) (by omega) ?_
  refine l_aload_n dL_law_856 rfl ?_
  refine l_iload dL_law_857 rfl ?_
  refine l_iconst dL_law_859 rfl ?_
  refine l_iadd dL_law_860 ?_
  refine l_sld (t := i + 2) dL_law_861 (lq_iN i 2) (by omega) (by omega) ?_
  refine l_Vi2 dL_law_862 lL_103 (by decide) (by decide) rfl hc1 hs1 (w_X11_stays _ _ _ _ e1) ?_
  rintro _ _ ⟨rfl, rfl⟩
  refine l_aload_n dL_law_865 rfl ?_
  refine l_aload_n dL_law_866 rfl ?_
  refine l_iload dL_law_867 rfl ?_
  refine l_iconst dL_law_869 rfl ?_
  refine l_iadd dL_law_870 ?_
  refine l_sld (t := i + 1) dL_law_871 (lq_iN i 1) (by omega) (by omega) ?_
  refine l_aload_n dL_law_872 rfl ?_
  refine l_iload dL_law_873 rfl ?_
  refine l_iconst dL_law_875 rfl ?_
  refine l_iadd dL_law_876 ?_
  refine l_sld (t := i + 2) dL_law_877 (lq_iN i 2) (by omega) (by omega) ?_
  refine l_Vi2 dL_law_878 lL_106 (by decide) (by decide) rfl hc1 hs1 (w_X12_stays _ _ _ _ e2) ?_
  rintro _ _ ⟨rfl, rfl⟩
  exact l_icmp_eq dL_law_881 (tgt := 1358) rfl (fun _ => kk _ hR2) (fun h => absurd rfl h)
theorem lc_20 {i : Nat} (hi : i + 7 ≤ L) (hL : L ≤ 3584) (hc1 : nc ≤ 601024) (hs1 : ns ≤ 7293034) (hob : ob_middle Rel) (hR : Rel mem) (kk : ∀ m2, Rel m2 → mi_L G N0 b L xs Ex 1358 (lq_ls i) [] m2 g nc ns) : mi_L G N0 b L xs Ex 886 (lq_ls i) [] mem g nc ns := by
  obtain ⟨r, m1, m2, e1, e2, hR2⟩ := hob  mem hR
  have E1 := e1
  have E2 := e2
  refine l_aload_n dL_law_886 rfl ?_
  refine l_Vi0 dL_law_887 lL_107 (by decide) (by decide) rfl hc1 hs1 (w_X11_middle  _ _ e1) ?_
  rintro _ _ ⟨rfl, rfl⟩
  refine l_aload_n dL_law_890 rfl ?_
  refine l_Vi0 dL_law_891 lL_110 (by decide) (by decide) rfl hc1 hs1 (w_X12_middle  _ _ e2) ?_
  rintro _ _ ⟨rfl, rfl⟩
  exact l_icmp_eq dL_law_894 (tgt := 1358) rfl (fun _ => kk _ hR2) (fun h => absurd rfl h)
theorem lc_21 {i : Nat} (hi : i + 7 ≤ L) (hL : L ≤ 3584) (hc1 : nc ≤ 601024) (hs1 : ns ≤ 7293034) (hob : ob_round Rel) (hR : Rel mem) (kk : ∀ m2, Rel m2 → mi_L G N0 b L xs Ex 1358 (lq_ls i) [] m2 g nc ns) : mi_L G N0 b L xs Ex 899 (lq_ls i) [] mem g nc ns := by
  obtain ⟨r, m1, m2, e1, e2, hR2⟩ := hob (xs (i + 1)) (xs (i + 2)) (xs (i + 3)) mem hR
  have E1 := e1
  have E2 := e2
  refine l_aload_n dL_law_899 rfl ?_
  refine l_aload_n dL_law_900 rfl ?_
  refine l_iload dL_law_901 rfl ?_
  refine l_iconst dL_law_903 rfl ?_
  refine l_iadd dL_law_904 ?_
  refine l_sld (t := i + 1) dL_law_905 (lq_iN i 1) (by omega) (by omega) ?_
  refine l_aload_n dL_law_906 rfl ?_
  refine l_iload dL_law_907 rfl ?_
  refine l_iconst dL_law_909 rfl ?_
  refine l_iadd dL_law_910 ?_
  refine l_sld (t := i + 2) dL_law_911 (lq_iN i 2) (by omega) (by omega) ?_
  refine l_aload_n dL_law_912 rfl ?_
  refine l_iload dL_law_913 rfl ?_
  refine l_iconst dL_law_915 rfl ?_
  refine l_iadd dL_law_916 ?_
  refine l_sld (t := i + 3) dL_law_917 (lq_iN i 3) (by omega) (by omega) ?_
  refine l_Vi3 dL_law_918 lL_111 (by decide) (by decide) rfl hc1 hs1 (w_X11_round _ _ _ _ _ e1) ?_
  rintro _ _ ⟨rfl, rfl⟩
  refine l_aload_n dL_law_921 rfl ?_
  refine l_aload_n dL_law_922 rfl ?_
  refine l_iload dL_law_923 rfl ?_
  refine l_iconst dL_law_925 rfl ?_
  refine l_iadd dL_law_926 ?_
  refine l_sld (t := i + 1) dL_law_927 (lq_iN i 1) (by omega) (by omega) ?_
  refine l_aload_n dL_law_928 rfl ?_
  refine l_iload dL_law_929 rfl ?_
  refine l_iconst dL_law_931 rfl ?_
  refine l_iadd dL_law_932 ?_
  refine l_sld (t := i + 2) dL_law_933 (lq_iN i 2) (by omega) (by omega) ?_
  refine l_aload_n dL_law_934 rfl ?_
  refine l_iload dL_law_935 rfl ?_
  refine l_iconst dL_law_937 rfl ?_
  refine l_iadd dL_law_938 ?_
  refine l_sld (t := i + 3) dL_law_939 (lq_iN i 3) (by omega) (by omega) ?_
  refine l_Vi3 dL_law_940 lL_114 (by decide) (by decide) rfl hc1 hs1 (w_X12_round _ _ _ _ _ e2) ?_
  rintro _ _ ⟨rfl, rfl⟩
  exact l_icmp_eq dL_law_943 (tgt := 1358) rfl (fun _ => kk _ hR2) (fun h => absurd rfl h)
theorem lc_22 {i : Nat} (hi : i + 7 ≤ L) (hL : L ≤ 3584) (hc1 : nc ≤ 601024) (hs1 : ns ≤ 7293034) (hob : ob_circle Rel) (hR : Rel mem) (kk : ∀ m2, Rel m2 → mi_L G N0 b L xs Ex 1358 (lq_ls i) [] m2 g nc ns) : mi_L G N0 b L xs Ex 948 (lq_ls i) [] mem g nc ns := by
  obtain ⟨r, m2, e1, e2, hR2⟩ := hob  mem hR
  have E1 := e1
  have E2 := e2
  refine l_aload_n dL_law_948 rfl ?_
  refine l_Vi0 dL_law_949 lL_115 (by decide) (by decide) rfl hc1 hs1 (w_X11_circle  _ _ e1) ?_
  rintro _ _ ⟨rfl, rfl⟩
  refine l_aload_n dL_law_952 rfl ?_
  refine l_Vi0 dL_law_953 lL_118 (by decide) (by decide) rfl hc1 hs1 (w_X12_circle  _ _ e2) ?_
  rintro _ _ ⟨rfl, rfl⟩
  exact l_icmp_eq dL_law_956 (tgt := 1358) rfl (fun _ => kk _ hR2) (fun h => absurd rfl h)
theorem lc_23 {i : Nat} (hi : i + 7 ≤ L) (hL : L ≤ 3584) (hc1 : nc ≤ 601024) (hs1 : ns ≤ 7293034) (hob : ob_need Rel) (hR : Rel mem) (kk : ∀ m2, Rel m2 → mi_L G N0 b L xs Ex 1358 (lq_ls i) [] m2 g nc ns) : mi_L G N0 b L xs Ex 961 (lq_ls i) [] mem g nc ns := by
  obtain ⟨r, m1, m2, e1, e2, hR2⟩ := hob  mem hR
  have E1 := e1
  have E2 := e2
  refine l_aload_n dL_law_961 rfl ?_
  refine l_Vi0 dL_law_962 lL_119 (by decide) (by decide) rfl hc1 hs1 (w_X11_need  _ _ e1) ?_
  rintro _ _ ⟨rfl, rfl⟩
  refine l_aload_n dL_law_965 rfl ?_
  refine l_Vi0 dL_law_966 lL_122 (by decide) (by decide) rfl hc1 hs1 (w_X12_need  _ _ e2) ?_
  rintro _ _ ⟨rfl, rfl⟩
  exact l_icmp_eq dL_law_969 (tgt := 1358) rfl (fun _ => kk _ hR2) (fun h => absurd rfl h)
theorem lc_24 {i : Nat} (hi : i + 7 ≤ L) (hL : L ≤ 3584) (hc1 : nc ≤ 601024) (hs1 : ns ≤ 7293034) (hob : ob_wind Rel) (hR : Rel mem) (kk : ∀ m2, Rel m2 → mi_L G N0 b L xs Ex 1358 (lq_ls i) [] m2 g nc ns) : mi_L G N0 b L xs Ex 974 (lq_ls i) [] mem g nc ns := by
  obtain ⟨r, m1, m2, e1, e2, hR2⟩ := hob (xs (i + 1)) (xs (i + 2)) mem hR
  have E1 := e1
  have E2 := e2
  refine l_aload_n dL_law_974 rfl ?_
  refine l_aload_n dL_law_975 rfl ?_
  refine l_iload dL_law_976 rfl ?_
  refine l_iconst dL_law_978 rfl ?_
  refine l_iadd dL_law_979 ?_
  refine l_sld (t := i + 1) dL_law_980 (lq_iN i 1) (by omega) (by omega) ?_
  refine l_aload_n dL_law_981 rfl ?_
  refine l_iload dL_law_982 rfl ?_
  refine l_iconst dL_law_984 rfl ?_
  refine l_iadd dL_law_985 ?_
  refine l_sld (t := i + 2) dL_law_986 (lq_iN i 2) (by omega) (by omega) ?_
  refine l_Vi2 dL_law_987 lL_123 (by decide) (by decide) rfl hc1 hs1 (w_X11_wind _ _ _ _ e1) ?_
  rintro _ _ ⟨rfl, rfl⟩
  refine l_aload_n dL_law_990 rfl ?_
  refine l_aload_n dL_law_991 rfl ?_
  refine l_iload dL_law_992 rfl ?_
  refine l_iconst dL_law_994 rfl ?_
  refine l_iadd dL_law_995 ?_
  refine l_sld (t := i + 1) dL_law_996 (lq_iN i 1) (by omega) (by omega) ?_
  refine l_aload_n dL_law_997 rfl ?_
  refine l_iload dL_law_998 rfl ?_
  refine l_iconst dL_law_1000 rfl ?_
  refine l_iadd dL_law_1001 ?_
  refine l_sld (t := i + 2) dL_law_1002 (lq_iN i 2) (by omega) (by omega) ?_
  refine l_Vi2 dL_law_1003 lL_126 (by decide) (by decide) rfl hc1 hs1 (w_X12_wind _ _ _ _ e2) ?_
  rintro _ _ ⟨rfl, rfl⟩
  exact l_icmp_eq dL_law_1006 (tgt := 1358) rfl (fun _ => kk _ hR2) (fun h => absurd rfl h)
theorem lc_25 {i : Nat} (hi : i + 7 ≤ L) (hL : L ≤ 3584) (hc1 : nc ≤ 601024) (hs1 : ns ≤ 7293034) (hob : ob_see Rel) (hR : Rel mem) (kk : ∀ m2, Rel m2 → mi_L G N0 b L xs Ex 1358 (lq_ls i) [] m2 g nc ns) : mi_L G N0 b L xs Ex 1011 (lq_ls i) [] mem g nc ns := by
  by_cases hz : xs (i + 3) = 0
  · skip
    obtain ⟨r, m1, m2, e1, e2, hR2⟩ := hob (xs (i + 1)) (xs (i + 2)) 0 mem hR (by decide)
    have E1 := e1
    have E2 := e2
    refine l_aload_n dL_law_1011 rfl ?_
    refine l_aload_n dL_law_1012 rfl ?_
    refine l_iload dL_law_1013 rfl ?_
    refine l_iconst dL_law_1015 rfl ?_
    refine l_iadd dL_law_1016 ?_
    refine l_sld (t := i + 1) dL_law_1017 (lq_iN i 1) (by omega) (by omega) ?_
    refine l_aload_n dL_law_1018 rfl ?_
    refine l_iload dL_law_1019 rfl ?_
    refine l_iconst dL_law_1021 rfl ?_
    refine l_iadd dL_law_1022 ?_
    refine l_sld (t := i + 2) dL_law_1023 (lq_iN i 2) (by omega) (by omega) ?_
    refine l_aload_n dL_law_1024 rfl ?_
    refine l_iload dL_law_1025 rfl ?_
    refine l_iconst dL_law_1027 rfl ?_
    refine l_iadd dL_law_1028 ?_
    refine l_sld (t := i + 3) dL_law_1029 (lq_iN i 3) (by omega) (by omega) ?_
    refine l_if_eq dL_law_1030 (tgt := 1037) rfl (fun _ => ?_) (fun h => absurd hz h)
    refine l_iconst dL_law_1037 rfl ?_
    refine l_Vi3 dL_law_1038 lL_127 (by decide) (by decide) rfl hc1 hs1 (w_X11_see _ _ _ _ _ e1) ?_
    rintro _ _ ⟨rfl, rfl⟩
    refine l_aload_n dL_law_1041 rfl ?_
    refine l_aload_n dL_law_1042 rfl ?_
    refine l_iload dL_law_1043 rfl ?_
    refine l_iconst dL_law_1045 rfl ?_
    refine l_iadd dL_law_1046 ?_
    refine l_sld (t := i + 1) dL_law_1047 (lq_iN i 1) (by omega) (by omega) ?_
    refine l_aload_n dL_law_1048 rfl ?_
    refine l_iload dL_law_1049 rfl ?_
    refine l_iconst dL_law_1051 rfl ?_
    refine l_iadd dL_law_1052 ?_
    refine l_sld (t := i + 2) dL_law_1053 (lq_iN i 2) (by omega) (by omega) ?_
    refine l_aload_n dL_law_1054 rfl ?_
    refine l_iload dL_law_1055 rfl ?_
    refine l_iconst dL_law_1057 rfl ?_
    refine l_iadd dL_law_1058 ?_
    refine l_sld (t := i + 3) dL_law_1059 (lq_iN i 3) (by omega) (by omega) ?_
    refine l_if_eq dL_law_1060 (tgt := 1067) rfl (fun _ => ?_) (fun h => absurd hz h)
    refine l_iconst dL_law_1067 rfl ?_
    refine l_Vi3 dL_law_1068 lL_131 (by decide) (by decide) rfl hc1 hs1 (w_X12_see _ _ _ _ _ e2) ?_
    rintro _ _ ⟨rfl, rfl⟩
    exact l_icmp_eq dL_law_1071 (tgt := 1358) rfl (fun _ => kk _ hR2) (fun h => absurd rfl h)
  · skip
    obtain ⟨r, m1, m2, e1, e2, hR2⟩ := hob (xs (i + 1)) (xs (i + 2)) 1 mem hR (by decide)
    have E1 := e1
    have E2 := e2
    refine l_aload_n dL_law_1011 rfl ?_
    refine l_aload_n dL_law_1012 rfl ?_
    refine l_iload dL_law_1013 rfl ?_
    refine l_iconst dL_law_1015 rfl ?_
    refine l_iadd dL_law_1016 ?_
    refine l_sld (t := i + 1) dL_law_1017 (lq_iN i 1) (by omega) (by omega) ?_
    refine l_aload_n dL_law_1018 rfl ?_
    refine l_iload dL_law_1019 rfl ?_
    refine l_iconst dL_law_1021 rfl ?_
    refine l_iadd dL_law_1022 ?_
    refine l_sld (t := i + 2) dL_law_1023 (lq_iN i 2) (by omega) (by omega) ?_
    refine l_aload_n dL_law_1024 rfl ?_
    refine l_iload dL_law_1025 rfl ?_
    refine l_iconst dL_law_1027 rfl ?_
    refine l_iadd dL_law_1028 ?_
    refine l_sld (t := i + 3) dL_law_1029 (lq_iN i 3) (by omega) (by omega) ?_
    refine l_if_eq dL_law_1030 (tgt := 1037) rfl (fun h => absurd h hz) (fun _ => ?_)
    refine l_iconst dL_law_1033 rfl ?_
    refine l_goto dL_law_1034 (tgt := 1038) rfl ?_
    refine l_Vi3 dL_law_1038 lL_127 (by decide) (by decide) rfl hc1 hs1 (w_X11_see _ _ _ _ _ e1) ?_
    rintro _ _ ⟨rfl, rfl⟩
    refine l_aload_n dL_law_1041 rfl ?_
    refine l_aload_n dL_law_1042 rfl ?_
    refine l_iload dL_law_1043 rfl ?_
    refine l_iconst dL_law_1045 rfl ?_
    refine l_iadd dL_law_1046 ?_
    refine l_sld (t := i + 1) dL_law_1047 (lq_iN i 1) (by omega) (by omega) ?_
    refine l_aload_n dL_law_1048 rfl ?_
    refine l_iload dL_law_1049 rfl ?_
    refine l_iconst dL_law_1051 rfl ?_
    refine l_iadd dL_law_1052 ?_
    refine l_sld (t := i + 2) dL_law_1053 (lq_iN i 2) (by omega) (by omega) ?_
    refine l_aload_n dL_law_1054 rfl ?_
    refine l_iload dL_law_1055 rfl ?_
    refine l_iconst dL_law_1057 rfl ?_
    refine l_iadd dL_law_1058 ?_
    refine l_sld (t := i + 3) dL_law_1059 (lq_iN i 3) (by omega) (by omega) ?_
    refine l_if_eq dL_law_1060 (tgt := 1067) rfl (fun h => absurd h hz) (fun _ => ?_)
    refine l_iconst dL_law_1063 rfl ?_
    refine l_goto dL_law_1064 (tgt := 1068) rfl ?_
    refine l_Vi3 dL_law_1068 lL_131 (by decide) (by decide) rfl hc1 hs1 (w_X12_see _ _ _ _ _ e2) ?_
    rintro _ _ ⟨rfl, rfl⟩
    exact l_icmp_eq dL_law_1071 (tgt := 1358) rfl (fun _ => kk _ hR2) (fun h => absurd rfl h)
theorem lc_26 {i : Nat} (hi : i + 7 ≤ L) (hL : L ≤ 3584) (hc1 : nc ≤ 601024) (hs1 : ns ≤ 7293034) (hob : ob_sets Rel) (hR : Rel mem) (kk : ∀ m2, Rel m2 → mi_L G N0 b L xs Ex 1358 (lq_ls i) [] m2 g nc ns) : mi_L G N0 b L xs Ex 1076 (lq_ls i) [] mem g nc ns := by
  obtain ⟨r, m1, m2, e1, e2, hR2⟩ := hob (xs (i + 1)) mem hR
  have E1 := e1
  have E2 := e2
  refine l_aload_n dL_law_1076 rfl ?_
  refine l_aload_n dL_law_1077 rfl ?_
  refine l_iload dL_law_1078 rfl ?_
  refine l_iconst dL_law_1080 rfl ?_
  refine l_iadd dL_law_1081 ?_
  refine l_sld (t := i + 1) dL_law_1082 (lq_iN i 1) (by omega) (by omega) ?_
  refine l_Vi1 dL_law_1083 lL_132 (by decide) (by decide) rfl hc1 hs1 (w_X11_sets _ _ _ e1) ?_
  rintro _ _ ⟨rfl, rfl⟩
  refine l_aload_n dL_law_1086 rfl ?_
  refine l_aload_n dL_law_1087 rfl ?_
  refine l_iload dL_law_1088 rfl ?_
  refine l_iconst dL_law_1090 rfl ?_
  refine l_iadd dL_law_1091 ?_
  refine l_sld (t := i + 1) dL_law_1092 (lq_iN i 1) (by omega) (by omega) ?_
  refine l_Vi1 dL_law_1093 lL_135 (by decide) (by decide) rfl hc1 hs1 (w_X12_sets _ _ _ e2) ?_
  rintro _ _ ⟨rfl, rfl⟩
  exact l_icmp_eq dL_law_1096 (tgt := 1358) rfl (fun _ => kk _ hR2) (fun h => absurd rfl h)
theorem lc_27 {i : Nat} (hi : i + 7 ≤ L) (hL : L ≤ 3584) (hc1 : nc ≤ 601024) (hs1 : ns ≤ 7293034) (hob : ob_look Rel) (hR : Rel mem) (kk : ∀ m2, Rel m2 → mi_L G N0 b L xs Ex 1358 (lq_ls i) [] m2 g nc ns) : mi_L G N0 b L xs Ex 1101 (lq_ls i) [] mem g nc ns := by
  obtain ⟨r, m1, m2, e1, e2, hR2⟩ := hob  mem hR
  have E1 := e1
  have E2 := e2
  refine l_aload_n dL_law_1101 rfl ?_
  refine l_Vi0 dL_law_1102 lL_136 (by decide) (by decide) rfl hc1 hs1 (w_X11_look  _ _ e1) ?_
  rintro _ _ ⟨rfl, rfl⟩
  refine l_aload_n dL_law_1105 rfl ?_
  refine l_Vi0 dL_law_1106 lL_139 (by decide) (by decide) rfl hc1 hs1 (w_X12_look  _ _ e2) ?_
  rintro _ _ ⟨rfl, rfl⟩
  exact l_icmp_eq dL_law_1109 (tgt := 1358) rfl (fun _ => kk _ hR2) (fun h => absurd rfl h)
theorem lc_28 {i : Nat} (hi : i + 7 ≤ L) (hL : L ≤ 3584) (hc1 : nc ≤ 601024) (hs1 : ns ≤ 7293034) (hob : ob_law Rel) (hR : Rel mem) (kk : ∀ m2, Rel m2 → mi_L G N0 b L xs Ex 1358 (lq_ls i) [] m2 g nc ns) : mi_L G N0 b L xs Ex 1114 (lq_ls i) [] mem g nc ns := by
  obtain ⟨r, m1, m2, e1, e2, hR2⟩ := hob (xs (i + 1)) (xs (i + 2)) mem hR
  have E1 := e1
  have E2 := e2
  refine l_aload_n dL_law_1114 rfl ?_
  refine l_aload_n dL_law_1115 rfl ?_
  refine l_iload dL_law_1116 rfl ?_
  refine l_iconst dL_law_1118 rfl ?_
  refine l_iadd dL_law_1119 ?_
  refine l_sld (t := i + 1) dL_law_1120 (lq_iN i 1) (by omega) (by omega) ?_
  refine l_aload_n dL_law_1121 rfl ?_
  refine l_iload dL_law_1122 rfl ?_
  refine l_iconst dL_law_1124 rfl ?_
  refine l_iadd dL_law_1125 ?_
  refine l_sld (t := i + 2) dL_law_1126 (lq_iN i 2) (by omega) (by omega) ?_
  refine l_Vi2 dL_law_1127 lL_140 (by decide) (by decide) rfl hc1 hs1 (w_X11_law _ _ _ _ e1) ?_
  rintro _ _ ⟨rfl, rfl⟩
  refine l_aload_n dL_law_1130 rfl ?_
  refine l_aload_n dL_law_1131 rfl ?_
  refine l_iload dL_law_1132 rfl ?_
  refine l_iconst dL_law_1134 rfl ?_
  refine l_iadd dL_law_1135 ?_
  refine l_sld (t := i + 1) dL_law_1136 (lq_iN i 1) (by omega) (by omega) ?_
  refine l_aload_n dL_law_1137 rfl ?_
  refine l_iload dL_law_1138 rfl ?_
  refine l_iconst dL_law_1140 rfl ?_
  refine l_iadd dL_law_1141 ?_
  refine l_sld (t := i + 2) dL_law_1142 (lq_iN i 2) (by omega) (by omega) ?_
  refine l_Vi2 dL_law_1143 lL_143 (by decide) (by decide) rfl hc1 hs1 (w_X12_law _ _ _ _ e2) ?_
  rintro _ _ ⟨rfl, rfl⟩
  exact l_icmp_eq dL_law_1146 (tgt := 1358) rfl (fun _ => kk _ hR2) (fun h => absurd rfl h)
theorem lc_30 {i : Nat} (hi : i + 7 ≤ L) (hL : L ≤ 3584) (hc1 : nc ≤ 601024) (hs1 : ns ≤ 7293034) (hob : ob_years Rel) (hR : Rel mem) (kk : ∀ m2, Rel m2 → mi_L G N0 b L xs Ex 1358 (lq_ls i) [] m2 g nc ns) : mi_L G N0 b L xs Ex 1231 (lq_ls i) [] mem g nc ns := by
  obtain ⟨r, m1, m2, e1, e2, hR2⟩ := hob (xs (i + 1)) (xs (i + 2)) (xs (i + 3)) mem hR
  have E1 := e1
  have E2 := e2
  refine l_aload_n dL_law_1231 rfl ?_
  refine l_aload_n dL_law_1232 rfl ?_
  refine l_iload dL_law_1233 rfl ?_
  refine l_iconst dL_law_1235 rfl ?_
  refine l_iadd dL_law_1236 ?_
  refine l_sld (t := i + 1) dL_law_1237 (lq_iN i 1) (by omega) (by omega) ?_
  refine l_aload_n dL_law_1238 rfl ?_
  refine l_iload dL_law_1239 rfl ?_
  refine l_iconst dL_law_1241 rfl ?_
  refine l_iadd dL_law_1242 ?_
  refine l_sld (t := i + 2) dL_law_1243 (lq_iN i 2) (by omega) (by omega) ?_
  refine l_aload_n dL_law_1244 rfl ?_
  refine l_iload dL_law_1245 rfl ?_
  refine l_iconst dL_law_1247 rfl ?_
  refine l_iadd dL_law_1248 ?_
  refine l_sld (t := i + 3) dL_law_1249 (lq_iN i 3) (by omega) (by omega) ?_
  refine l_Vi3 dL_law_1250 lL_153 (by decide) (by decide) rfl hc1 hs1 (w_X11_years _ _ _ _ _ e1) ?_
  rintro _ _ ⟨rfl, rfl⟩
  refine l_aload_n dL_law_1253 rfl ?_
  refine l_aload_n dL_law_1254 rfl ?_
  refine l_iload dL_law_1255 rfl ?_
  refine l_iconst dL_law_1257 rfl ?_
  refine l_iadd dL_law_1258 ?_
  refine l_sld (t := i + 1) dL_law_1259 (lq_iN i 1) (by omega) (by omega) ?_
  refine l_aload_n dL_law_1260 rfl ?_
  refine l_iload dL_law_1261 rfl ?_
  refine l_iconst dL_law_1263 rfl ?_
  refine l_iadd dL_law_1264 ?_
  refine l_sld (t := i + 2) dL_law_1265 (lq_iN i 2) (by omega) (by omega) ?_
  refine l_aload_n dL_law_1266 rfl ?_
  refine l_iload dL_law_1267 rfl ?_
  refine l_iconst dL_law_1269 rfl ?_
  refine l_iadd dL_law_1270 ?_
  refine l_sld (t := i + 3) dL_law_1271 (lq_iN i 3) (by omega) (by omega) ?_
  refine l_Vi3 dL_law_1272 lL_156 (by decide) (by decide) rfl hc1 hs1 (w_X12_years _ _ _ _ _ e2) ?_
  rintro _ _ ⟨rfl, rfl⟩
  exact l_icmp_eq dL_law_1275 (tgt := 1358) rfl (fun _ => kk _ hR2) (fun h => absurd rfl h)
theorem lc_31 {i : Nat} (hi : i + 7 ≤ L) (hL : L ≤ 3584) (hc1 : nc ≤ 601024) (hs1 : ns ≤ 7293034) (hob : ob_mark Rel) (hR : Rel mem) (kk : ∀ m2, Rel m2 → mi_L G N0 b L xs Ex 1358 (lq_ls i) [] m2 g nc ns) : mi_L G N0 b L xs Ex 1280 (lq_ls i) [] mem g nc ns := by
  by_cases hz : xs (i + 2) = 0
  · skip
    obtain ⟨r, m1, m2, e1, e2, hR2⟩ := hob (xs (i + 1)) 0 mem hR (by decide)
    have E1 := e1
    have E2 := e2
    refine l_aload_n dL_law_1280 rfl ?_
    refine l_aload_n dL_law_1281 rfl ?_
    refine l_iload dL_law_1282 rfl ?_
    refine l_iconst dL_law_1284 rfl ?_
    refine l_iadd dL_law_1285 ?_
    refine l_sld (t := i + 1) dL_law_1286 (lq_iN i 1) (by omega) (by omega) ?_
    refine l_aload_n dL_law_1287 rfl ?_
    refine l_iload dL_law_1288 rfl ?_
    refine l_iconst dL_law_1290 rfl ?_
    refine l_iadd dL_law_1291 ?_
    refine l_sld (t := i + 2) dL_law_1292 (lq_iN i 2) (by omega) (by omega) ?_
    refine l_if_eq dL_law_1293 (tgt := 1300) rfl (fun _ => ?_) (fun h => absurd hz h)
    refine l_iconst dL_law_1300 rfl ?_
    refine l_Vi2 dL_law_1301 lL_157 (by decide) (by decide) rfl hc1 hs1 (w_X11_mark _ _ _ _ e1) ?_
    rintro _ _ ⟨rfl, rfl⟩
    refine l_aload_n dL_law_1304 rfl ?_
    refine l_aload_n dL_law_1305 rfl ?_
    refine l_iload dL_law_1306 rfl ?_
    refine l_iconst dL_law_1308 rfl ?_
    refine l_iadd dL_law_1309 ?_
    refine l_sld (t := i + 1) dL_law_1310 (lq_iN i 1) (by omega) (by omega) ?_
    refine l_aload_n dL_law_1311 rfl ?_
    refine l_iload dL_law_1312 rfl ?_
    refine l_iconst dL_law_1314 rfl ?_
    refine l_iadd dL_law_1315 ?_
    refine l_sld (t := i + 2) dL_law_1316 (lq_iN i 2) (by omega) (by omega) ?_
    refine l_if_eq dL_law_1317 (tgt := 1324) rfl (fun _ => ?_) (fun h => absurd hz h)
    refine l_iconst dL_law_1324 rfl ?_
    refine l_Vi2 dL_law_1325 lL_161 (by decide) (by decide) rfl hc1 hs1 (w_X12_mark _ _ _ _ e2) ?_
    rintro _ _ ⟨rfl, rfl⟩
    exact l_icmp_eq dL_law_1328 (tgt := 1358) rfl (fun _ => kk _ hR2) (fun h => absurd rfl h)
  · skip
    obtain ⟨r, m1, m2, e1, e2, hR2⟩ := hob (xs (i + 1)) 1 mem hR (by decide)
    have E1 := e1
    have E2 := e2
    refine l_aload_n dL_law_1280 rfl ?_
    refine l_aload_n dL_law_1281 rfl ?_
    refine l_iload dL_law_1282 rfl ?_
    refine l_iconst dL_law_1284 rfl ?_
    refine l_iadd dL_law_1285 ?_
    refine l_sld (t := i + 1) dL_law_1286 (lq_iN i 1) (by omega) (by omega) ?_
    refine l_aload_n dL_law_1287 rfl ?_
    refine l_iload dL_law_1288 rfl ?_
    refine l_iconst dL_law_1290 rfl ?_
    refine l_iadd dL_law_1291 ?_
    refine l_sld (t := i + 2) dL_law_1292 (lq_iN i 2) (by omega) (by omega) ?_
    refine l_if_eq dL_law_1293 (tgt := 1300) rfl (fun h => absurd h hz) (fun _ => ?_)
    refine l_iconst dL_law_1296 rfl ?_
    refine l_goto dL_law_1297 (tgt := 1301) rfl ?_
    refine l_Vi2 dL_law_1301 lL_157 (by decide) (by decide) rfl hc1 hs1 (w_X11_mark _ _ _ _ e1) ?_
    rintro _ _ ⟨rfl, rfl⟩
    refine l_aload_n dL_law_1304 rfl ?_
    refine l_aload_n dL_law_1305 rfl ?_
    refine l_iload dL_law_1306 rfl ?_
    refine l_iconst dL_law_1308 rfl ?_
    refine l_iadd dL_law_1309 ?_
    refine l_sld (t := i + 1) dL_law_1310 (lq_iN i 1) (by omega) (by omega) ?_
    refine l_aload_n dL_law_1311 rfl ?_
    refine l_iload dL_law_1312 rfl ?_
    refine l_iconst dL_law_1314 rfl ?_
    refine l_iadd dL_law_1315 ?_
    refine l_sld (t := i + 2) dL_law_1316 (lq_iN i 2) (by omega) (by omega) ?_
    refine l_if_eq dL_law_1317 (tgt := 1324) rfl (fun h => absurd h hz) (fun _ => ?_)
    refine l_iconst dL_law_1320 rfl ?_
    refine l_goto dL_law_1321 (tgt := 1325) rfl ?_
    refine l_Vi2 dL_law_1325 lL_161 (by decide) (by decide) rfl hc1 hs1 (w_X12_mark _ _ _ _ e2) ?_
    rintro _ _ ⟨rfl, rfl⟩
    exact l_icmp_eq dL_law_1328 (tgt := 1358) rfl (fun _ => kk _ hR2) (fun h => absurd rfl h)
theorem lc_32 {i : Nat} (hi : i + 7 ≤ L) (hL : L ≤ 3584) (hc1 : nc ≤ 601024) (hs1 : ns ≤ 7293034) (hob : ob_count Rel) (hR : Rel mem) (kk : ∀ m2, Rel m2 → mi_L G N0 b L xs Ex 1358 (lq_ls i) [] m2 g nc ns) : mi_L G N0 b L xs Ex 1333 (lq_ls i) [] mem g nc ns := by
  obtain ⟨r, m2, e1, e2, hR2⟩ := hob (xs (i + 1)) mem hR
  have E1 := e1
  have E2 := e2
  refine l_aload_n dL_law_1333 rfl ?_
  refine l_aload_n dL_law_1334 rfl ?_
  refine l_iload dL_law_1335 rfl ?_
  refine l_iconst dL_law_1337 rfl ?_
  refine l_iadd dL_law_1338 ?_
  refine l_sld (t := i + 1) dL_law_1339 (lq_iN i 1) (by omega) (by omega) ?_
  refine l_Vi1 dL_law_1340 lL_162 (by decide) (by decide) rfl hc1 hs1 (w_X11_count _ _ _ e1) ?_
  rintro _ _ ⟨rfl, rfl⟩
  refine l_aload_n dL_law_1343 rfl ?_
  refine l_aload_n dL_law_1344 rfl ?_
  refine l_iload dL_law_1345 rfl ?_
  refine l_iconst dL_law_1347 rfl ?_
  refine l_iadd dL_law_1348 ?_
  refine l_sld (t := i + 1) dL_law_1349 (lq_iN i 1) (by omega) (by omega) ?_
  refine l_Vi1 dL_law_1350 lL_165 (by decide) (by decide) rfl hc1 hs1 (w_X12_count _ _ _ e2) ?_
  rintro _ _ ⟨rfl, rfl⟩
  exact l_icmp_eq dL_law_1353 (tgt := 1358) rfl (fun _ => kk _ hR2) (fun h => absurd rfl h)
def ob_all (Rel : mi_M → Prop) : Prop := ob_feed Rel ∧ ob_town Rel ∧ ob_year Rel ∧ ob_person Rel ∧ ob_wrong Rel ∧ ob_lamps Rel ∧ ob_dark Rel ∧ ob_harm Rel ∧ ob_say Rel ∧ ob_give Rel ∧ ob_ask Rel ∧ ob_night Rel ∧ ob_undo Rel ∧ ob_judged Rel ∧ ob_pay Rel ∧ ob_when Rel ∧ ob_grudges Rel ∧ ob_ripe Rel ∧ ob_price Rel ∧ ob_stays Rel ∧ ob_middle Rel ∧ ob_round Rel ∧ ob_circle Rel ∧ ob_need Rel ∧ ob_wind Rel ∧ ob_see Rel ∧ ob_sets Rel ∧ ob_look Rel ∧ ob_law Rel ∧ ob_years Rel ∧ ob_mark Rel ∧ ob_count Rel
def ob_29 (G : mi_G) (N0 b L : Nat) (xs : Nat → Int32) (Ex : Launch → State → Prop) (Rel : mi_M → Prop) : Prop := ∀ (i : Nat) (mem : mi_M) (g : Int64) (nc ns : Nat), i + 7 ≤ L → L ≤ 3584 → nc + 1 ≤ 601024 → ns + 8 ≤ 7293034 → Rel mem → (∀ m2 g2, Rel m2 → mi_L G N0 b L xs Ex 1358 (lq_ls i) [] m2 g2 (nc + 1) (ns + 8)) → mi_L G N0 b L xs Ex 1151 (lq_ls i) [] mem g nc ns
theorem lw_loop (hL : L ≤ 3584) (ho : ob_all Rel) (h29 : ob_29 G N0 b L xs Ex Rel) : ∀ (n i : Nat) (mem : mi_M) (g : Int64) (nc ns : Nat), L ≤ i + n → i ≤ L + 7 → nc ≤ 1000 + i → ns ≤ 100000 + 8 * i → Rel mem → mi_L G N0 b L xs Ex 23 (lq_ls i) [] mem g nc ns := by
  obtain ⟨o0, o1, o2, o3, o4, o5, o6, o7, o8, o9, o10, o11, o12, o13, o14, o15, o16, o17, o18, o19, o20, o21, o22, o23, o24, o25, o26, o27, o28, o30, o31, o32⟩ := ho
  intro n
  induction n with
  | zero =>
    intro i mem g nc ns h1 h2 h3 h4 hR
    refine l_iload dL_law_23 rfl ?_
    refine l_aload_n dL_law_25 rfl ?_
    refine l_slen dL_law_26 ?_
    refine l_bipush dL_law_27 rfl ?_
    refine l_isub dL_law_29 ?_
    refine l_icmp_gt dL_law_30 (tgt := 1364) rfl (fun _ => ?_) (fun h => absurd ((lq_lt hL (by omega)).mpr (by omega)) h)
    refine l_iconst dL_law_1364 rfl ?_
    exact l_ret1 dL_law_1365 (by omega) (by omega)
  | succ n ih =>
    intro i mem g nc ns h1 h2 h3 h4 hR
    refine l_iload dL_law_23 rfl ?_
    refine l_aload_n dL_law_25 rfl ?_
    refine l_slen dL_law_26 ?_
    refine l_bipush dL_law_27 rfl ?_
    refine l_isub dL_law_29 ?_
    refine l_icmp_gt dL_law_30 (tgt := 1364) rfl (fun _ => ?_) (fun h => ?_)
    · refine l_iconst dL_law_1364 rfl ?_
      exact l_ret1 dL_law_1365 (by omega) (by omega)
    · have hi : i + 7 ≤ L := by
        have := (not_congr (lq_lt (L := L) (i := i) hL (by omega))).mp h
        omega
      have hnc : nc ≤ 601024 := by omega
      have hns : ns ≤ 7293034 := by omega
      have go : ∀ m2 g2 nc2 ns2, nc2 ≤ nc + 1 → ns2 ≤ ns + 8 → Rel m2 → mi_L G N0 b L xs Ex 1358 (lq_ls i) [] m2 g2 nc2 ns2 := by
        intro m2 g2 nc2 ns2 q1 q2 hR2
        refine l_iinc dL_law_1358 rfl (lq_i7 i) rfl rfl ?_
        refine l_goto dL_law_1361 (tgt := 23) rfl ?_
        exact ih (i + 7) m2 g2 nc2 ns2 (by omega) (by omega) (by omega) (by omega) hR2
      have kk : ∀ m2, Rel m2 → mi_L G N0 b L xs Ex 1358 (lq_ls i) [] m2 g nc ns := fun m2 h => go m2 g nc ns (by omega) (by omega) h
      refine l_aload_n dL_law_33 rfl ?_
      refine l_iload dL_law_34 rfl ?_
      refine l_sld (t := i) dL_law_36 rfl (by omega) (by omega) ?_
      refine l_bipush dL_law_37 rfl ?_
      refine l_iand dL_law_39 ?_
      generalize xs i &&& (Int8.ofInt 63).toInt32 = x
      by_cases hx : x.toInt < 0 ∨ 32 < x.toInt
      · exact l_swO dL_law_40 hx (tgt := 1358) rfl (kk mem hR)
      · have hx2 : x.toInt = 0 ∨ x.toInt = 1 ∨ x.toInt = 2 ∨ x.toInt = 3 ∨ x.toInt = 4 ∨ x.toInt = 5 ∨ x.toInt = 6 ∨ x.toInt = 7 ∨ x.toInt = 8 ∨ x.toInt = 9 ∨ x.toInt = 10 ∨ x.toInt = 11 ∨ x.toInt = 12 ∨ x.toInt = 13 ∨ x.toInt = 14 ∨ x.toInt = 15 ∨ x.toInt = 16 ∨ x.toInt = 17 ∨ x.toInt = 18 ∨ x.toInt = 19 ∨ x.toInt = 20 ∨ x.toInt = 21 ∨ x.toInt = 22 ∨ x.toInt = 23 ∨ x.toInt = 24 ∨ x.toInt = 25 ∨ x.toInt = 26 ∨ x.toInt = 27 ∨ x.toInt = 28 ∨ x.toInt = 29 ∨ x.toInt = 30 ∨ x.toInt = 31 ∨ x.toInt = 32 := by omega
        rcases hx2 with hv | hv | hv | hv | hv | hv | hv | hv | hv | hv | hv | hv | hv | hv | hv | hv | hv | hv | hv | hv | hv | hv | hv | hv | hv | hv | hv | hv | hv | hv | hv | hv | hv
        · refine l_swT (v := 0) (Int32.toInt_inj.mp hv) dL_law_40 (by decide) (by decide) (off := 148) (by decide) (tgt := 188) rfl ?_
          exact lc_0 hi hL hnc hns o0 hR kk
        · refine l_swT (v := 1) (Int32.toInt_inj.mp hv) dL_law_40 (by decide) (by decide) (off := 295) (by decide) (tgt := 335) rfl ?_
          exact lc_1 hi hL hnc hns o1 hR kk
        · refine l_swT (v := 2) (Int32.toInt_inj.mp hv) dL_law_40 (by decide) (by decide) (off := 308) (by decide) (tgt := 348) rfl ?_
          exact lc_2 hi hL hnc hns o2 hR kk
        · refine l_swT (v := 3) (Int32.toInt_inj.mp hv) dL_law_40 (by decide) (by decide) (off := 321) (by decide) (tgt := 361) rfl ?_
          exact lc_3 hi hL hnc hns o3 hR kk
        · refine l_swT (v := 4) (Int32.toInt_inj.mp hv) dL_law_40 (by decide) (by decide) (off := 358) (by decide) (tgt := 398) rfl ?_
          exact lc_4 hi hL hnc hns o4 hR kk
        · refine l_swT (v := 5) (Int32.toInt_inj.mp hv) dL_law_40 (by decide) (by decide) (off := 395) (by decide) (tgt := 435) rfl ?_
          exact lc_5 hi hL hnc hns o5 hR kk
        · refine l_swT (v := 6) (Int32.toInt_inj.mp hv) dL_law_40 (by decide) (by decide) (off := 408) (by decide) (tgt := 448) rfl ?_
          exact lc_6 hi hL hnc hns o6 hR kk
        · refine l_swT (v := 7) (Int32.toInt_inj.mp hv) dL_law_40 (by decide) (by decide) (off := 457) (by decide) (tgt := 497) rfl ?_
          exact lc_7 hi hL hnc hns o7 hR kk
        · refine l_swT (v := 8) (Int32.toInt_inj.mp hv) dL_law_40 (by decide) (by decide) (off := 470) (by decide) (tgt := 510) rfl ?_
          exact lc_8 hi hL hnc hns o8 hR kk
        · refine l_swT (v := 9) (Int32.toInt_inj.mp hv) dL_law_40 (by decide) (by decide) (off := 495) (by decide) (tgt := 535) rfl ?_
          exact lc_9 hi hL hnc hns o9 hR kk
        · refine l_swT (v := 10) (Int32.toInt_inj.mp hv) dL_law_40 (by decide) (by decide) (off := 532) (by decide) (tgt := 572) rfl ?_
          exact lc_10 hi hL hnc hns o10 hR kk
        · refine l_swT (v := 11) (Int32.toInt_inj.mp hv) dL_law_40 (by decide) (by decide) (off := 557) (by decide) (tgt := 597) rfl ?_
          exact lc_11 hi hL hnc hns o11 hR kk
        · refine l_swT (v := 12) (Int32.toInt_inj.mp hv) dL_law_40 (by decide) (by decide) (off := 570) (by decide) (tgt := 610) rfl ?_
          exact lc_12 hi hL hnc hns o12 hR kk
        · refine l_swT (v := 13) (Int32.toInt_inj.mp hv) dL_law_40 (by decide) (by decide) (off := 583) (by decide) (tgt := 623) rfl ?_
          exact lc_13 hi hL hnc hns o13 hR kk
        · refine l_swT (v := 14) (Int32.toInt_inj.mp hv) dL_law_40 (by decide) (by decide) (off := 608) (by decide) (tgt := 648) rfl ?_
          exact lc_14 hi hL hnc hns o14 hR kk
        · refine l_swT (v := 15) (Int32.toInt_inj.mp hv) dL_law_40 (by decide) (by decide) (off := 657) (by decide) (tgt := 697) rfl ?_
          exact lc_15 hi hL hnc hns o15 hR kk
        · refine l_swT (v := 16) (Int32.toInt_inj.mp hv) dL_law_40 (by decide) (by decide) (off := 694) (by decide) (tgt := 734) rfl ?_
          exact lc_16 hi hL hnc hns o16 hR kk
        · refine l_swT (v := 17) (Int32.toInt_inj.mp hv) dL_law_40 (by decide) (by decide) (off := 747) (by decide) (tgt := 787) rfl ?_
          exact lc_17 hi hL hnc hns o17 hR kk
        · refine l_swT (v := 18) (Int32.toInt_inj.mp hv) dL_law_40 (by decide) (by decide) (off := 772) (by decide) (tgt := 812) rfl ?_
          exact lc_18 hi hL hnc hns o18 hR kk
        · refine l_swT (v := 19) (Int32.toInt_inj.mp hv) dL_law_40 (by decide) (by decide) (off := 809) (by decide) (tgt := 849) rfl ?_
          exact lc_19 hi hL hnc hns o19 hR kk
        · refine l_swT (v := 20) (Int32.toInt_inj.mp hv) dL_law_40 (by decide) (by decide) (off := 846) (by decide) (tgt := 886) rfl ?_
          exact lc_20 hi hL hnc hns o20 hR kk
        · refine l_swT (v := 21) (Int32.toInt_inj.mp hv) dL_law_40 (by decide) (by decide) (off := 859) (by decide) (tgt := 899) rfl ?_
          exact lc_21 hi hL hnc hns o21 hR kk
        · refine l_swT (v := 22) (Int32.toInt_inj.mp hv) dL_law_40 (by decide) (by decide) (off := 908) (by decide) (tgt := 948) rfl ?_
          exact lc_22 hi hL hnc hns o22 hR kk
        · refine l_swT (v := 23) (Int32.toInt_inj.mp hv) dL_law_40 (by decide) (by decide) (off := 921) (by decide) (tgt := 961) rfl ?_
          exact lc_23 hi hL hnc hns o23 hR kk
        · refine l_swT (v := 24) (Int32.toInt_inj.mp hv) dL_law_40 (by decide) (by decide) (off := 934) (by decide) (tgt := 974) rfl ?_
          exact lc_24 hi hL hnc hns o24 hR kk
        · refine l_swT (v := 25) (Int32.toInt_inj.mp hv) dL_law_40 (by decide) (by decide) (off := 971) (by decide) (tgt := 1011) rfl ?_
          exact lc_25 hi hL hnc hns o25 hR kk
        · refine l_swT (v := 26) (Int32.toInt_inj.mp hv) dL_law_40 (by decide) (by decide) (off := 1036) (by decide) (tgt := 1076) rfl ?_
          exact lc_26 hi hL hnc hns o26 hR kk
        · refine l_swT (v := 27) (Int32.toInt_inj.mp hv) dL_law_40 (by decide) (by decide) (off := 1061) (by decide) (tgt := 1101) rfl ?_
          exact lc_27 hi hL hnc hns o27 hR kk
        · refine l_swT (v := 28) (Int32.toInt_inj.mp hv) dL_law_40 (by decide) (by decide) (off := 1074) (by decide) (tgt := 1114) rfl ?_
          exact lc_28 hi hL hnc hns o28 hR kk
        · refine l_swT (v := 29) (Int32.toInt_inj.mp hv) dL_law_40 (by decide) (by decide) (off := 1111) (by decide) (tgt := 1151) rfl ?_
          exact h29 i mem g nc ns hi hL (by omega) (by omega) hR (fun m2 g2 h => go m2 g2 (nc + 1) (ns + 8) (by omega) (by omega) h)
        · refine l_swT (v := 30) (Int32.toInt_inj.mp hv) dL_law_40 (by decide) (by decide) (off := 1191) (by decide) (tgt := 1231) rfl ?_
          exact lc_30 hi hL hnc hns o30 hR kk
        · refine l_swT (v := 31) (Int32.toInt_inj.mp hv) dL_law_40 (by decide) (by decide) (off := 1240) (by decide) (tgt := 1280) rfl ?_
          exact lc_31 hi hL hnc hns o31 hR kk
        · refine l_swT (v := 32) (Int32.toInt_inj.mp hv) dL_law_40 (by decide) (by decide) (off := 1293) (by decide) (tgt := 1333) rfl ?_
          exact lc_32 hi hL hnc hns o32 hR kk
end LW
