/-! the law: the script's cells, an argument, the end, a case each -/
def dc_Sc (κ : dc_KX) (L : Nat) (xs : Nat → Int32) : Prop := match κ with
  | (p, l, e, R, s, m, args, below, meth, c, cells, slots, Z, D, cA, ad, A, H0) => va_X (ad 77) L xs s H0 ∧ ad 77 < H0.size ∧ ¬ A (ad 77)
def dc_Lw (κ : dc_KX) : Prop := match κ with
  | (p, l, e, R, s, m, args, below, meth, c, cells, slots, Z, D, cA, ad, A, H0) => R = room_1 ∧ cells = 77 ∧ slots = 1535 ∧ (∃ b : Nat, args = #[Value.ref b] ∧ Z = lw_Z below #[Value.ref b] s) ∧ meth.sig.returnType = ret ∧ meth.locks = false ∧ ∀ q : Nat, A q → s.heap.size ≤ q
abbrev dl_4 (i : Nat) : List (Option Value) := [some (.ref 77), some (.ref 0), some (.ref 55), some (.int (nI i))]
section DL
variable {κ : dc_KX} {own : String} {b : ByteArray} {nL fr lo pc L : Nat} {xs : Nat → Int32} {ls : List (Option Value)} {st : List Value} {σ : dc_HP}
theorem dl_sld (hC : dc_Cx κ own b nL fr lo) (hX : dc_Sc κ L xs) {i : Int32} (hi : vp_in i L) (hd : decode b pc = .ok (.iaload, 1)) (k : dc_X κ (pc + 1) ls (.int (xs i.toNatClampNeg) :: st) σ) : dc_X κ pc ls (.int i :: .ref 77 :: st) σ := by
  obtain ⟨p, l, e, R, s, m, args, below, meth, c, cells, slots, Z, D, cA, ad, A, H0⟩ := κ
  obtain ⟨hx, hb, hml, hown, hts, hnw, hK, hap, hR⟩ := hC
  obtain ⟨x1, x2, x3⟩ := hX
  intro H locs la hP hS hL
  exact va_sld hx hb x1 x2 x3 hS hi hd (k H locs la hP hS hL)
theorem dl_slen (hC : dc_Cx κ own b nL fr lo) (hX : dc_Sc κ L xs) (hd : decode b pc = .ok (.arraylength, 1)) (k : dc_X κ (pc + 1) ls (.int (nI L) :: st) σ) : dc_X κ pc ls (.ref 77 :: st) σ := by
  obtain ⟨p, l, e, R, s, m, args, below, meth, c, cells, slots, Z, D, cA, ad, A, H0⟩ := κ
  obtain ⟨hx, hb, hml, hown, hts, hnw, hK, hap, hR⟩ := hC
  obtain ⟨x1, x2, x3⟩ := hX
  intro H locs la hP hS hL
  exact va_slen hx hb x1 x2 x3 hS hd (k H locs la hP hS hL)
theorem dl_end (hC : dc_Cx κ RL cL_law 4 12 464) (hW : dc_Lw κ) (hd : decode cL_law pc = .ok (.ireturn, 1)) : dc_X κ pc ls [.int (nI 1)] σ := by
  obtain ⟨p, l, e, R, s, m, args, below, meth, c, cells, slots, Z, D, cA, ad, A, H0⟩ := κ
  obtain ⟨hx, hb, hml, hown, hts, hnw, hK, hap, hR⟩ := hC
  obtain ⟨rfl, rfl, rfl, ⟨b0, rfl, rfl⟩, w1, w2, w3⟩ := hW
  intro H locs la hP hS hL
  exact va_forget (fun q hq => w3 _ (hS.2.2 q hq)) (lw_ret hx hb w1 w2 hd)
theorem dl_arg0 (hC : dc_Cx κ RL cL_law 4 12 464) (hX : dc_Sc κ L xs) (hL : L ≤ 512) {i j : Nat} {v : Int32} (hv : v = nI j) (hi : i + 8 ≤ L) (hj : j < 8) (h3 : decode cL_law pc = .ok (.iadd, 1)) (h4 : decode cL_law (pc + 1) = .ok (.iaload, 1)) (k : dc_X κ (pc + 2) ls (.int (xs (i + j)) :: st) σ) : dc_X κ pc ls (.int v :: .int (nI i) :: .ref 77 :: st) σ := by
  subst hv
  refine dx_iadd hC h3 ?_
  rw [nI_add]
  refine dl_sld hC hX (nI_in (by omega) (by omega)) h4 ?_
  rw [nI_clamp (by omega)]
  exact k
theorem dl_argc (hC : dc_Cx κ RL cL_law 4 12 464) (hX : dc_Sc κ L xs) (hL : L ≤ 512) {i j : Nat} {n : Int} (hv : Int32.ofInt n = nI j) (hi : i + 8 ≤ L) (hj : j < 8) (h0 : decode cL_law pc = .ok (.aload_n 0, 1)) (h1 : decode cL_law (pc + 1) = .ok (.iload_n 3, 1)) (h2 : decode cL_law (pc + 2) = .ok (.iconst n, 1)) (h3 : decode cL_law (pc + 3) = .ok (.iadd, 1)) (h4 : decode cL_law (pc + 4) = .ok (.iaload, 1)) (k : dc_X κ (pc + 5) (dl_4 i) (.int (xs (i + j)) :: st) σ) : dc_X κ pc (dl_4 i) st σ := by
  refine dx_aload_n (x := 77) hC h0 rfl ?_
  refine dx_iload_n (x := nI i) hC h1 rfl ?_
  refine dx_iconst hC h2 hv ?_
  exact dl_arg0 hC hX hL rfl hi hj h3 h4 k
theorem dl_argb (hC : dc_Cx κ RL cL_law 4 12 464) (hX : dc_Sc κ L xs) (hL : L ≤ 512) {i j : Nat} {n : Int} (hv : (Int8.ofInt n).toInt32 = nI j) (hi : i + 8 ≤ L) (hj : j < 8) (h0 : decode cL_law pc = .ok (.aload_n 0, 1)) (h1 : decode cL_law (pc + 1) = .ok (.iload_n 3, 1)) (h2 : decode cL_law (pc + 2) = .ok (.bipush n, 2)) (h3 : decode cL_law (pc + 4) = .ok (.iadd, 1)) (h4 : decode cL_law (pc + 5) = .ok (.iaload, 1)) (k : dc_X κ (pc + 6) (dl_4 i) (.int (xs (i + j)) :: st) σ) : dc_X κ pc (dl_4 i) st σ := by
  refine dx_aload_n (x := 77) hC h0 rfl ?_
  refine dx_iload_n (x := nI i) hC h1 rfl ?_
  refine dx_bipush hC h2 hv ?_
  exact dl_arg0 hC hX hL rfl hi hj h3 h4 k

theorem dl_rd {f : Option Int32} {σ σ1 : dc_HP} {r : Int32} (h : f.map (fun r => (r, σ)) = some (r, σ1)) : σ = σ1 ∧ f = some r := by
  cases f with
  | none => cases h
  | some x => cases h; exact ⟨rfl, rfl⟩

theorem dl_singer (hC : dc_Cx κ RL cL_law 4 12 464) (hX : dc_Sc κ L xs) (hL : L ≤ 512) {i : Nat} (hi : i + 8 ≤ L) (hR : pRL σ) (kk : ∀ σ', pRL σ' → dc_X κ 945 (dl_4 i) [] σ') : dc_X κ 152 (dl_4 i) [] σ := by
  refine dx_aload_n (pc := 152) (x := 0) hC dL_law_152 rfl ?_
  refine dl_argc (pc := 153) (j := 1) hC hX hL kc_1 hi (by decide) dL_law_153 dL_law_154 dL_law_155 dL_law_156 dL_law_157 ?_
  refine dl_argc (pc := 158) (j := 2) hC hX hL kc_2 hi (by decide) dL_law_158 dL_law_159 dL_law_160 dL_law_161 dL_law_162 ?_
  refine dl_argc (pc := 163) (j := 3) hC hX hL kc_3 hi (by decide) dL_law_163 dL_law_164 dL_law_165 dL_law_166 dL_law_167 ?_
  obtain ⟨r, σ1, σ2, e1, e2, hR2⟩ := op_singer (xs (i + 1)) (xs (i + 2)) (xs (i + 3)) σ hR
  refine dx_callViw (pc := 168) (As := [.int (xs (i + 1)), .int (xs (i + 2)), .int (xs (i + 3))]) (rest := []) hC dL_law_168 k_L_13 rfl rfl rfl rfl (dc_le rfl) (dc_le rfl) (dc_le rfl) (dc_le rfl) rfl (th_X8_singer e1) ?_
  refine dx_aload_n (pc := 171) (x := 55) hC dL_law_171 rfl ?_
  refine dl_argc (pc := 172) (j := 1) hC hX hL kc_1 hi (by decide) dL_law_172 dL_law_173 dL_law_174 dL_law_175 dL_law_176 ?_
  refine dl_argc (pc := 177) (j := 2) hC hX hL kc_2 hi (by decide) dL_law_177 dL_law_178 dL_law_179 dL_law_180 dL_law_181 ?_
  refine dl_argc (pc := 182) (j := 3) hC hX hL kc_3 hi (by decide) dL_law_182 dL_law_183 dL_law_184 dL_law_185 dL_law_186 ?_
  refine dx_callViw (pc := 187) (As := [.int (xs (i + 1)), .int (xs (i + 2)), .int (xs (i + 3))]) (rest := [.int r]) hC dL_law_187 k_L_17 rfl rfl rfl rfl (dc_le rfl) (dc_le rfl) (dc_le rfl) (dc_le rfl) rfl (th_X9_singer e2) ?_
  exact dx_icmp_eq (pc := 190) (tgt := 945) hC dL_law_190 (by decide) (fun _ => kk _ hR2) (fun h => absurd rfl h)

theorem dl_leave (hC : dc_Cx κ RL cL_law 4 12 464) (hX : dc_Sc κ L xs) (hL : L ≤ 512) {i : Nat} (hi : i + 8 ≤ L) (hR : pRL σ) (kk : ∀ σ', pRL σ' → dc_X κ 945 (dl_4 i) [] σ') : dc_X κ 195 (dl_4 i) [] σ := by
  refine dx_aload_n (pc := 195) (x := 0) hC dL_law_195 rfl ?_
  refine dl_argc (pc := 196) (j := 1) hC hX hL kc_1 hi (by decide) dL_law_196 dL_law_197 dL_law_198 dL_law_199 dL_law_200 ?_
  obtain ⟨r, σ1, σ2, e1, e2, hR2⟩ := op_leave (xs (i + 1)) σ hR
  refine dx_callViw (pc := 201) (As := [.int (xs (i + 1))]) (rest := []) hC dL_law_201 k_L_18 rfl rfl rfl rfl (dc_le rfl) (dc_le rfl) (dc_le rfl) (dc_le rfl) rfl (th_X8_leave e1) ?_
  refine dx_aload_n (pc := 204) (x := 55) hC dL_law_204 rfl ?_
  refine dl_argc (pc := 205) (j := 1) hC hX hL kc_1 hi (by decide) dL_law_205 dL_law_206 dL_law_207 dL_law_208 dL_law_209 ?_
  refine dx_callViw (pc := 210) (As := [.int (xs (i + 1))]) (rest := [.int r]) hC dL_law_210 k_L_22 rfl rfl rfl rfl (dc_le rfl) (dc_le rfl) (dc_le rfl) (dc_le rfl) rfl (th_X9_leave e2) ?_
  exact dx_icmp_eq (pc := 213) (tgt := 945) hC dL_law_213 (by decide) (fun _ => kk _ hR2) (fun h => absurd rfl h)

theorem dl_piece (hC : dc_Cx κ RL cL_law 4 12 464) (hX : dc_Sc κ L xs) (hL : L ≤ 512) {i : Nat} (hi : i + 8 ≤ L) (hR : pRL σ) (kk : ∀ σ', pRL σ' → dc_X κ 945 (dl_4 i) [] σ') : dc_X κ 218 (dl_4 i) [] σ := by
  refine dx_aload_n (pc := 218) (x := 0) hC dL_law_218 rfl ?_
  refine dl_argc (pc := 219) (j := 1) hC hX hL kc_1 hi (by decide) dL_law_219 dL_law_220 dL_law_221 dL_law_222 dL_law_223 ?_
  refine dl_argc (pc := 224) (j := 2) hC hX hL kc_2 hi (by decide) dL_law_224 dL_law_225 dL_law_226 dL_law_227 dL_law_228 ?_
  refine dl_argc (pc := 229) (j := 3) hC hX hL kc_3 hi (by decide) dL_law_229 dL_law_230 dL_law_231 dL_law_232 dL_law_233 ?_
  refine dl_argc (pc := 234) (j := 4) hC hX hL kc_4 hi (by decide) dL_law_234 dL_law_235 dL_law_236 dL_law_237 dL_law_238 ?_
  obtain ⟨r, σ1, σ2, e1, e2, hR2⟩ := op_piece (xs (i + 1)) (xs (i + 2)) (xs (i + 3)) (xs (i + 4)) σ hR
  refine dx_callViw (pc := 239) (As := [.int (xs (i + 1)), .int (xs (i + 2)), .int (xs (i + 3)), .int (xs (i + 4))]) (rest := []) hC dL_law_239 k_L_23 rfl rfl rfl rfl (dc_le rfl) (dc_le rfl) (dc_le rfl) (dc_le rfl) rfl (th_X8_piece e1) ?_
  refine dx_aload_n (pc := 242) (x := 55) hC dL_law_242 rfl ?_
  refine dl_argc (pc := 243) (j := 1) hC hX hL kc_1 hi (by decide) dL_law_243 dL_law_244 dL_law_245 dL_law_246 dL_law_247 ?_
  refine dl_argc (pc := 248) (j := 2) hC hX hL kc_2 hi (by decide) dL_law_248 dL_law_249 dL_law_250 dL_law_251 dL_law_252 ?_
  refine dl_argc (pc := 253) (j := 3) hC hX hL kc_3 hi (by decide) dL_law_253 dL_law_254 dL_law_255 dL_law_256 dL_law_257 ?_
  refine dl_argc (pc := 258) (j := 4) hC hX hL kc_4 hi (by decide) dL_law_258 dL_law_259 dL_law_260 dL_law_261 dL_law_262 ?_
  refine dx_callViw (pc := 263) (As := [.int (xs (i + 1)), .int (xs (i + 2)), .int (xs (i + 3)), .int (xs (i + 4))]) (rest := [.int r]) hC dL_law_263 k_L_27 rfl rfl rfl rfl (dc_le rfl) (dc_le rfl) (dc_le rfl) (dc_le rfl) rfl (th_X9_piece e2) ?_
  exact dx_icmp_eq (pc := 266) (tgt := 945) hC dL_law_266 (by decide) (fun _ => kk _ hR2) (fun h => absurd rfl h)

theorem dl_say (hC : dc_Cx κ RL cL_law 4 12 464) (hX : dc_Sc κ L xs) (hL : L ≤ 512) {i : Nat} (hi : i + 8 ≤ L) (hR : pRL σ) (kk : ∀ σ', pRL σ' → dc_X κ 945 (dl_4 i) [] σ') : dc_X κ 271 (dl_4 i) [] σ := by
  refine dx_aload_n (pc := 271) (x := 0) hC dL_law_271 rfl ?_
  refine dl_argc (pc := 272) (j := 1) hC hX hL kc_1 hi (by decide) dL_law_272 dL_law_273 dL_law_274 dL_law_275 dL_law_276 ?_
  obtain ⟨r, σ1, σ2, e1, e2, hR2⟩ := op_say (xs (i + 1)) σ hR
  refine dx_callViw (pc := 277) (As := [.int (xs (i + 1))]) (rest := []) hC dL_law_277 k_L_28 rfl rfl rfl rfl (dc_le rfl) (dc_le rfl) (dc_le rfl) (dc_le rfl) rfl (th_X8_say e1) ?_
  refine dx_aload_n (pc := 280) (x := 55) hC dL_law_280 rfl ?_
  refine dl_argc (pc := 281) (j := 1) hC hX hL kc_1 hi (by decide) dL_law_281 dL_law_282 dL_law_283 dL_law_284 dL_law_285 ?_
  refine dx_callViw (pc := 286) (As := [.int (xs (i + 1))]) (rest := [.int r]) hC dL_law_286 k_L_31 rfl rfl rfl rfl (dc_le rfl) (dc_le rfl) (dc_le rfl) (dc_le rfl) rfl (th_X9_say e2) ?_
  exact dx_icmp_eq (pc := 289) (tgt := 945) hC dL_law_289 (by decide) (fun _ => kk _ hR2) (fun h => absurd rfl h)

theorem dl_wipe (hC : dc_Cx κ RL cL_law 4 12 464) (hX : dc_Sc κ L xs) (hL : L ≤ 512) {i : Nat} (hi : i + 8 ≤ L) (hR : pRL σ) (kk : ∀ σ', pRL σ' → dc_X κ 945 (dl_4 i) [] σ') : dc_X κ 294 (dl_4 i) [] σ := by
  refine dx_aload_n (pc := 294) (x := 0) hC dL_law_294 rfl ?_
  obtain ⟨r, σ1, σ2, e1, e2, hR2⟩ := op_wipe σ hR
  refine dx_callViw (pc := 295) (As := []) (rest := []) hC dL_law_295 k_L_32 rfl rfl rfl rfl (dc_le rfl) (dc_le rfl) (dc_le rfl) (dc_le rfl) rfl (th_X8_wipe e1) ?_
  refine dx_aload_n (pc := 298) (x := 55) hC dL_law_298 rfl ?_
  refine dx_callViw (pc := 299) (As := []) (rest := [.int r]) hC dL_law_299 k_L_36 rfl rfl rfl rfl (dc_le rfl) (dc_le rfl) (dc_le rfl) (dc_le rfl) rfl (th_X9_wipe e2) ?_
  exact dx_icmp_eq (pc := 302) (tgt := 945) hC dL_law_302 (by decide) (fun _ => kk _ hR2) (fun h => absurd rfl h)

theorem dl_fault (hC : dc_Cx κ RL cL_law 4 12 464) (hX : dc_Sc κ L xs) (hL : L ≤ 512) {i : Nat} (hi : i + 8 ≤ L) (hR : pRL σ) (kk : ∀ σ', pRL σ' → dc_X κ 945 (dl_4 i) [] σ') : dc_X κ 307 (dl_4 i) [] σ := by
  refine dx_aload_n (pc := 307) (x := 0) hC dL_law_307 rfl ?_
  obtain ⟨r, σ1, σ2, f1, e2, hR2⟩ := op_fault σ hR
  obtain ⟨rfl, e1⟩ := dl_rd f1
  refine dx_callVir (pc := 308) (As := []) (rest := []) hC dL_law_308 k_L_37 rfl rfl rfl rfl (dc_le rfl) (dc_le rfl) (dc_le rfl) (dc_le rfl) rfl (th_X8_fault e1) ?_
  refine dx_aload_n (pc := 311) (x := 55) hC dL_law_311 rfl ?_
  refine dx_callViw (pc := 312) (As := []) (rest := [.int r]) hC dL_law_312 k_L_40 rfl rfl rfl rfl (dc_le rfl) (dc_le rfl) (dc_le rfl) (dc_le rfl) rfl (th_X9_fault e2) ?_
  exact dx_icmp_eq (pc := 315) (tgt := 945) hC dL_law_315 (by decide) (fun _ => kk _ hR2) (fun h => absurd rfl h)

theorem dl_judge (hC : dc_Cx κ RL cL_law 4 12 464) (hX : dc_Sc κ L xs) (hL : L ≤ 512) {i : Nat} (hi : i + 8 ≤ L) (hR : pRL σ) (kk : ∀ σ', pRL σ' → dc_X κ 945 (dl_4 i) [] σ') : dc_X κ 320 (dl_4 i) [] σ := by
  refine dx_aload_n (pc := 320) (x := 0) hC dL_law_320 rfl ?_
  refine dl_argc (pc := 321) (j := 1) hC hX hL kc_1 hi (by decide) dL_law_321 dL_law_322 dL_law_323 dL_law_324 dL_law_325 ?_
  obtain ⟨r, σ1, σ2, e1, e2, hR2⟩ := op_judge (xs (i + 1)) σ hR
  refine dx_callViw (pc := 326) (As := [.int (xs (i + 1))]) (rest := []) hC dL_law_326 k_L_41 rfl rfl rfl rfl (dc_le rfl) (dc_le rfl) (dc_le rfl) (dc_le rfl) rfl (th_X8_judge e1) ?_
  refine dx_aload_n (pc := 329) (x := 55) hC dL_law_329 rfl ?_
  refine dl_argc (pc := 330) (j := 1) hC hX hL kc_1 hi (by decide) dL_law_330 dL_law_331 dL_law_332 dL_law_333 dL_law_334 ?_
  refine dx_callViw (pc := 335) (As := [.int (xs (i + 1))]) (rest := [.int r]) hC dL_law_335 k_L_44 rfl rfl rfl rfl (dc_le rfl) (dc_le rfl) (dc_le rfl) (dc_le rfl) rfl (th_X9_judge e2) ?_
  exact dx_icmp_eq (pc := 338) (tgt := 945) hC dL_law_338 (by decide) (fun _ => kk _ hR2) (fun h => absurd rfl h)

theorem dl_behind (hC : dc_Cx κ RL cL_law 4 12 464) (hX : dc_Sc κ L xs) (hL : L ≤ 512) {i : Nat} (hi : i + 8 ≤ L) (hR : pRL σ) (kk : ∀ σ', pRL σ' → dc_X κ 945 (dl_4 i) [] σ') : dc_X κ 343 (dl_4 i) [] σ := by
  refine dx_aload_n (pc := 343) (x := 0) hC dL_law_343 rfl ?_
  refine dl_argc (pc := 344) (j := 1) hC hX hL kc_1 hi (by decide) dL_law_344 dL_law_345 dL_law_346 dL_law_347 dL_law_348 ?_
  refine dl_argc (pc := 349) (j := 2) hC hX hL kc_2 hi (by decide) dL_law_349 dL_law_350 dL_law_351 dL_law_352 dL_law_353 ?_
  obtain ⟨r, σ1, σ2, e1, e2, hR2⟩ := op_behind (xs (i + 1)) (xs (i + 2)) σ hR
  refine dx_callViw (pc := 354) (As := [.int (xs (i + 1)), .int (xs (i + 2))]) (rest := []) hC dL_law_354 k_L_45 rfl rfl rfl rfl (dc_le rfl) (dc_le rfl) (dc_le rfl) (dc_le rfl) rfl (th_X8_behind e1) ?_
  refine dx_aload_n (pc := 357) (x := 55) hC dL_law_357 rfl ?_
  refine dl_argc (pc := 358) (j := 1) hC hX hL kc_1 hi (by decide) dL_law_358 dL_law_359 dL_law_360 dL_law_361 dL_law_362 ?_
  refine dl_argc (pc := 363) (j := 2) hC hX hL kc_2 hi (by decide) dL_law_363 dL_law_364 dL_law_365 dL_law_366 dL_law_367 ?_
  refine dx_callViw (pc := 368) (As := [.int (xs (i + 1)), .int (xs (i + 2))]) (rest := [.int r]) hC dL_law_368 k_L_49 rfl rfl rfl rfl (dc_le rfl) (dc_le rfl) (dc_le rfl) (dc_le rfl) rfl (th_X9_behind e2) ?_
  exact dx_icmp_eq (pc := 371) (tgt := 945) hC dL_law_371 (by decide) (fun _ => kk _ hR2) (fun h => absurd rfl h)

theorem dl_owed (hC : dc_Cx κ RL cL_law 4 12 464) (hX : dc_Sc κ L xs) (hL : L ≤ 512) {i : Nat} (hi : i + 8 ≤ L) (hR : pRL σ) (kk : ∀ σ', pRL σ' → dc_X κ 945 (dl_4 i) [] σ') : dc_X κ 376 (dl_4 i) [] σ := by
  refine dx_aload_n (pc := 376) (x := 0) hC dL_law_376 rfl ?_
  refine dl_argc (pc := 377) (j := 1) hC hX hL kc_1 hi (by decide) dL_law_377 dL_law_378 dL_law_379 dL_law_380 dL_law_381 ?_
  obtain ⟨r, σ1, σ2, e1, e2, hR2⟩ := op_owed (xs (i + 1)) σ hR
  refine dx_callViw (pc := 382) (As := [.int (xs (i + 1))]) (rest := []) hC dL_law_382 k_L_50 rfl rfl rfl rfl (dc_le rfl) (dc_le rfl) (dc_le rfl) (dc_le rfl) rfl (th_X8_owed e1) ?_
  refine dx_aload_n (pc := 385) (x := 55) hC dL_law_385 rfl ?_
  refine dl_argc (pc := 386) (j := 1) hC hX hL kc_1 hi (by decide) dL_law_386 dL_law_387 dL_law_388 dL_law_389 dL_law_390 ?_
  refine dx_callViw (pc := 391) (As := [.int (xs (i + 1))]) (rest := [.int r]) hC dL_law_391 k_L_53 rfl rfl rfl rfl (dc_le rfl) (dc_le rfl) (dc_le rfl) (dc_le rfl) rfl (th_X9_owed e2) ?_
  exact dx_icmp_eq (pc := 394) (tgt := 945) hC dL_law_394 (by decide) (fun _ => kk _ hR2) (fun h => absurd rfl h)

theorem dl_freed (hC : dc_Cx κ RL cL_law 4 12 464) (hX : dc_Sc κ L xs) (hL : L ≤ 512) {i : Nat} (hi : i + 8 ≤ L) (hR : pRL σ) (kk : ∀ σ', pRL σ' → dc_X κ 945 (dl_4 i) [] σ') : dc_X κ 399 (dl_4 i) [] σ := by
  refine dx_aload_n (pc := 399) (x := 0) hC dL_law_399 rfl ?_
  refine dl_argc (pc := 400) (j := 1) hC hX hL kc_1 hi (by decide) dL_law_400 dL_law_401 dL_law_402 dL_law_403 dL_law_404 ?_
  obtain ⟨r, σ1, σ2, e1, e2, hR2⟩ := op_freed (xs (i + 1)) σ hR
  refine dx_callViw (pc := 405) (As := [.int (xs (i + 1))]) (rest := []) hC dL_law_405 k_L_54 rfl rfl rfl rfl (dc_le rfl) (dc_le rfl) (dc_le rfl) (dc_le rfl) rfl (th_X8_freed e1) ?_
  refine dx_aload_n (pc := 408) (x := 55) hC dL_law_408 rfl ?_
  refine dl_argc (pc := 409) (j := 1) hC hX hL kc_1 hi (by decide) dL_law_409 dL_law_410 dL_law_411 dL_law_412 dL_law_413 ?_
  refine dx_callViw (pc := 414) (As := [.int (xs (i + 1))]) (rest := [.int r]) hC dL_law_414 k_L_57 rfl rfl rfl rfl (dc_le rfl) (dc_le rfl) (dc_le rfl) (dc_le rfl) rfl (th_X9_freed e2) ?_
  exact dx_icmp_eq (pc := 417) (tgt := 945) hC dL_law_417 (by decide) (fun _ => kk _ hR2) (fun h => absurd rfl h)

theorem dl_done (hC : dc_Cx κ RL cL_law 4 12 464) (hX : dc_Sc κ L xs) (hL : L ≤ 512) {i : Nat} (hi : i + 8 ≤ L) (hR : pRL σ) (kk : ∀ σ', pRL σ' → dc_X κ 945 (dl_4 i) [] σ') : dc_X κ 422 (dl_4 i) [] σ := by
  refine dx_aload_n (pc := 422) (x := 0) hC dL_law_422 rfl ?_
  obtain ⟨r, σ1, σ2, e1, e2, hR2⟩ := op_done σ hR
  refine dx_callViw (pc := 423) (As := []) (rest := []) hC dL_law_423 k_L_58 rfl rfl rfl rfl (dc_le rfl) (dc_le rfl) (dc_le rfl) (dc_le rfl) rfl (th_X8_done e1) ?_
  refine dx_aload_n (pc := 426) (x := 55) hC dL_law_426 rfl ?_
  refine dx_callViw (pc := 427) (As := []) (rest := [.int r]) hC dL_law_427 k_L_61 rfl rfl rfl rfl (dc_le rfl) (dc_le rfl) (dc_le rfl) (dc_le rfl) rfl (th_X9_done e2) ?_
  exact dx_icmp_eq (pc := 430) (tgt := 945) hC dL_law_430 (by decide) (fun _ => kk _ hR2) (fun h => absurd rfl h)

theorem dl_may (hC : dc_Cx κ RL cL_law 4 12 464) (hX : dc_Sc κ L xs) (hL : L ≤ 512) {i : Nat} (hi : i + 8 ≤ L) (hR : pRL σ) (kk : ∀ σ', pRL σ' → dc_X κ 945 (dl_4 i) [] σ') : dc_X κ 435 (dl_4 i) [] σ := by
  refine dx_aload_n (pc := 435) (x := 0) hC dL_law_435 rfl ?_
  obtain ⟨r, e1, e2⟩ := op_may σ hR
  refine dx_callVir (pc := 436) (As := []) (rest := []) hC dL_law_436 k_L_62 rfl rfl rfl rfl (dc_le rfl) (dc_le rfl) (dc_le rfl) (dc_le rfl) rfl (th_X8_may e1) ?_
  refine dx_aload_n (pc := 439) (x := 55) hC dL_law_439 rfl ?_
  refine dx_callVir (pc := 440) (As := []) (rest := [.int r]) hC dL_law_440 k_L_65 rfl rfl rfl rfl (dc_le rfl) (dc_le rfl) (dc_le rfl) (dc_le rfl) rfl (th_X9_may e2) ?_
  exact dx_icmp_eq (pc := 443) (tgt := 945) hC dL_law_443 (by decide) (fun _ => kk _ hR) (fun h => absurd rfl h)

theorem dl_nights (hC : dc_Cx κ RL cL_law 4 12 464) (hX : dc_Sc κ L xs) (hL : L ≤ 512) {i : Nat} (hi : i + 8 ≤ L) (hR : pRL σ) (kk : ∀ σ', pRL σ' → dc_X κ 945 (dl_4 i) [] σ') : dc_X κ 448 (dl_4 i) [] σ := by
  refine dx_aload_n (pc := 448) (x := 0) hC dL_law_448 rfl ?_
  refine dl_argc (pc := 449) (j := 1) hC hX hL kc_1 hi (by decide) dL_law_449 dL_law_450 dL_law_451 dL_law_452 dL_law_453 ?_
  refine dl_argc (pc := 454) (j := 2) hC hX hL kc_2 hi (by decide) dL_law_454 dL_law_455 dL_law_456 dL_law_457 dL_law_458 ?_
  obtain ⟨r, σ1, σ2, e1, e2, hR2⟩ := op_nights (xs (i + 1)) (xs (i + 2)) σ hR
  refine dx_callViw (pc := 459) (As := [.int (xs (i + 1)), .int (xs (i + 2))]) (rest := []) hC dL_law_459 k_L_66 rfl rfl rfl rfl (dc_le rfl) (dc_le rfl) (dc_le rfl) (dc_le rfl) rfl (th_X8_nights e1) ?_
  refine dx_aload_n (pc := 462) (x := 55) hC dL_law_462 rfl ?_
  refine dl_argc (pc := 463) (j := 1) hC hX hL kc_1 hi (by decide) dL_law_463 dL_law_464 dL_law_465 dL_law_466 dL_law_467 ?_
  refine dl_argc (pc := 468) (j := 2) hC hX hL kc_2 hi (by decide) dL_law_468 dL_law_469 dL_law_470 dL_law_471 dL_law_472 ?_
  refine dx_callViw (pc := 473) (As := [.int (xs (i + 1)), .int (xs (i + 2))]) (rest := [.int r]) hC dL_law_473 k_L_69 rfl rfl rfl rfl (dc_le rfl) (dc_le rfl) (dc_le rfl) (dc_le rfl) rfl (th_X9_nights e2) ?_
  exact dx_icmp_eq (pc := 476) (tgt := 945) hC dL_law_476 (by decide) (fun _ => kk _ hR2) (fun h => absurd rfl h)

theorem dl_programme (hC : dc_Cx κ RL cL_law 4 12 464) (hX : dc_Sc κ L xs) (hL : L ≤ 512) {i : Nat} (hi : i + 8 ≤ L) (hR : pRL σ) (kk : ∀ σ', pRL σ' → dc_X κ 945 (dl_4 i) [] σ') : dc_X κ 481 (dl_4 i) [] σ := by
  refine dx_aload_n (pc := 481) (x := 0) hC dL_law_481 rfl ?_
  refine dl_argc (pc := 482) (j := 1) hC hX hL kc_1 hi (by decide) dL_law_482 dL_law_483 dL_law_484 dL_law_485 dL_law_486 ?_
  refine dl_argc (pc := 487) (j := 2) hC hX hL kc_2 hi (by decide) dL_law_487 dL_law_488 dL_law_489 dL_law_490 dL_law_491 ?_
  obtain ⟨r, e1, e2⟩ := op_programme (xs (i + 1)) (xs (i + 2)) σ hR
  refine dx_callVir (pc := 492) (As := [.int (xs (i + 1)), .int (xs (i + 2))]) (rest := []) hC dL_law_492 k_L_70 rfl rfl rfl rfl (dc_le rfl) (dc_le rfl) (dc_le rfl) (dc_le rfl) rfl (th_X8_programme e1) ?_
  refine dx_aload_n (pc := 495) (x := 55) hC dL_law_495 rfl ?_
  refine dl_argc (pc := 496) (j := 1) hC hX hL kc_1 hi (by decide) dL_law_496 dL_law_497 dL_law_498 dL_law_499 dL_law_500 ?_
  refine dl_argc (pc := 501) (j := 2) hC hX hL kc_2 hi (by decide) dL_law_501 dL_law_502 dL_law_503 dL_law_504 dL_law_505 ?_
  refine dx_callVir (pc := 506) (As := [.int (xs (i + 1)), .int (xs (i + 2))]) (rest := [.int r]) hC dL_law_506 k_L_73 rfl rfl rfl rfl (dc_le rfl) (dc_le rfl) (dc_le rfl) (dc_le rfl) rfl (th_X9_programme e2) ?_
  exact dx_icmp_eq (pc := 509) (tgt := 945) hC dL_law_509 (by decide) (fun _ => kk _ hR) (fun h => absurd rfl h)

theorem dl_ruin (hC : dc_Cx κ RL cL_law 4 12 464) (hX : dc_Sc κ L xs) (hL : L ≤ 512) {i : Nat} (hi : i + 8 ≤ L) (hR : pRL σ) (kk : ∀ σ', pRL σ' → dc_X κ 945 (dl_4 i) [] σ') : dc_X κ 514 (dl_4 i) [] σ := by
  refine dx_aload_n (pc := 514) (x := 0) hC dL_law_514 rfl ?_
  refine dl_argc (pc := 515) (j := 1) hC hX hL kc_1 hi (by decide) dL_law_515 dL_law_516 dL_law_517 dL_law_518 dL_law_519 ?_
  refine dl_argc (pc := 520) (j := 2) hC hX hL kc_2 hi (by decide) dL_law_520 dL_law_521 dL_law_522 dL_law_523 dL_law_524 ?_
  obtain ⟨r, e1, e2⟩ := op_ruin (xs (i + 1)) (xs (i + 2)) σ hR
  refine dx_callVir (pc := 525) (As := [.int (xs (i + 1)), .int (xs (i + 2))]) (rest := []) hC dL_law_525 k_L_74 rfl rfl rfl rfl (dc_le rfl) (dc_le rfl) (dc_le rfl) (dc_le rfl) rfl (th_X8_ruin e1) ?_
  refine dx_aload_n (pc := 528) (x := 55) hC dL_law_528 rfl ?_
  refine dl_argc (pc := 529) (j := 1) hC hX hL kc_1 hi (by decide) dL_law_529 dL_law_530 dL_law_531 dL_law_532 dL_law_533 ?_
  refine dl_argc (pc := 534) (j := 2) hC hX hL kc_2 hi (by decide) dL_law_534 dL_law_535 dL_law_536 dL_law_537 dL_law_538 ?_
  refine dx_callVir (pc := 539) (As := [.int (xs (i + 1)), .int (xs (i + 2))]) (rest := [.int r]) hC dL_law_539 k_L_77 rfl rfl rfl rfl (dc_le rfl) (dc_le rfl) (dc_le rfl) (dc_le rfl) rfl (th_X9_ruin e2) ?_
  exact dx_icmp_eq (pc := 542) (tgt := 945) hC dL_law_542 (by decide) (fun _ => kk _ hR) (fun h => absurd rfl h)

theorem dl_seats (hC : dc_Cx κ RL cL_law 4 12 464) (hX : dc_Sc κ L xs) (hL : L ≤ 512) {i : Nat} (hi : i + 8 ≤ L) (hR : pRL σ) (kk : ∀ σ', pRL σ' → dc_X κ 945 (dl_4 i) [] σ') : dc_X κ 547 (dl_4 i) [] σ := by
  refine dx_aload_n (pc := 547) (x := 0) hC dL_law_547 rfl ?_
  refine dl_argc (pc := 548) (j := 1) hC hX hL kc_1 hi (by decide) dL_law_548 dL_law_549 dL_law_550 dL_law_551 dL_law_552 ?_
  refine dl_argc (pc := 553) (j := 2) hC hX hL kc_2 hi (by decide) dL_law_553 dL_law_554 dL_law_555 dL_law_556 dL_law_557 ?_
  refine dl_argc (pc := 558) (j := 3) hC hX hL kc_3 hi (by decide) dL_law_558 dL_law_559 dL_law_560 dL_law_561 dL_law_562 ?_
  obtain ⟨r, σ1, σ2, f1, e2, hR2⟩ := op_seats (xs (i + 1)) (xs (i + 2)) (xs (i + 3)) σ hR
  obtain ⟨rfl, e1⟩ := dl_rd f1
  refine dx_callVir (pc := 563) (As := [.int (xs (i + 1)), .int (xs (i + 2)), .int (xs (i + 3))]) (rest := []) hC dL_law_563 k_L_78 rfl rfl rfl rfl (dc_le rfl) (dc_le rfl) (dc_le rfl) (dc_le rfl) rfl (th_X8_seats e1) ?_
  refine dx_aload_n (pc := 566) (x := 55) hC dL_law_566 rfl ?_
  refine dl_argc (pc := 567) (j := 1) hC hX hL kc_1 hi (by decide) dL_law_567 dL_law_568 dL_law_569 dL_law_570 dL_law_571 ?_
  refine dl_argc (pc := 572) (j := 2) hC hX hL kc_2 hi (by decide) dL_law_572 dL_law_573 dL_law_574 dL_law_575 dL_law_576 ?_
  refine dl_argc (pc := 577) (j := 3) hC hX hL kc_3 hi (by decide) dL_law_577 dL_law_578 dL_law_579 dL_law_580 dL_law_581 ?_
  refine dx_callViw (pc := 582) (As := [.int (xs (i + 1)), .int (xs (i + 2)), .int (xs (i + 3))]) (rest := [.int r]) hC dL_law_582 k_L_81 rfl rfl rfl rfl (dc_le rfl) (dc_le rfl) (dc_le rfl) (dc_le rfl) rfl (th_X9_seats e2) ?_
  exact dx_icmp_eq (pc := 585) (tgt := 945) hC dL_law_585 (by decide) (fun _ => kk _ hR2) (fun h => absurd rfl h)

theorem dl_rings (hC : dc_Cx κ RL cL_law 4 12 464) (hX : dc_Sc κ L xs) (hL : L ≤ 512) {i : Nat} (hi : i + 8 ≤ L) (hR : pRL σ) (kk : ∀ σ', pRL σ' → dc_X κ 945 (dl_4 i) [] σ') : dc_X κ 590 (dl_4 i) [] σ := by
  refine dx_aload_n (pc := 590) (x := 0) hC dL_law_590 rfl ?_
  refine dl_argc (pc := 591) (j := 1) hC hX hL kc_1 hi (by decide) dL_law_591 dL_law_592 dL_law_593 dL_law_594 dL_law_595 ?_
  refine dl_argc (pc := 596) (j := 2) hC hX hL kc_2 hi (by decide) dL_law_596 dL_law_597 dL_law_598 dL_law_599 dL_law_600 ?_
  refine dl_argc (pc := 601) (j := 3) hC hX hL kc_3 hi (by decide) dL_law_601 dL_law_602 dL_law_603 dL_law_604 dL_law_605 ?_
  refine dl_argc (pc := 606) (j := 4) hC hX hL kc_4 hi (by decide) dL_law_606 dL_law_607 dL_law_608 dL_law_609 dL_law_610 ?_
  refine dl_argc (pc := 611) (j := 5) hC hX hL kc_5 hi (by decide) dL_law_611 dL_law_612 dL_law_613 dL_law_614 dL_law_615 ?_
  obtain ⟨r, σ1, σ2, e1, e2, hR2⟩ := op_rings (xs (i + 1)) (xs (i + 2)) (xs (i + 3)) (xs (i + 4)) (xs (i + 5)) σ hR
  refine dx_callViw (pc := 616) (As := [.int (xs (i + 1)), .int (xs (i + 2)), .int (xs (i + 3)), .int (xs (i + 4)), .int (xs (i + 5))]) (rest := []) hC dL_law_616 k_L_82 rfl rfl rfl rfl (dc_le rfl) (dc_le rfl) (dc_le rfl) (dc_le rfl) rfl (th_X8_rings e1) ?_
  refine dx_aload_n (pc := 619) (x := 55) hC dL_law_619 rfl ?_
  refine dl_argc (pc := 620) (j := 1) hC hX hL kc_1 hi (by decide) dL_law_620 dL_law_621 dL_law_622 dL_law_623 dL_law_624 ?_
  refine dl_argc (pc := 625) (j := 2) hC hX hL kc_2 hi (by decide) dL_law_625 dL_law_626 dL_law_627 dL_law_628 dL_law_629 ?_
  refine dl_argc (pc := 630) (j := 3) hC hX hL kc_3 hi (by decide) dL_law_630 dL_law_631 dL_law_632 dL_law_633 dL_law_634 ?_
  refine dl_argc (pc := 635) (j := 4) hC hX hL kc_4 hi (by decide) dL_law_635 dL_law_636 dL_law_637 dL_law_638 dL_law_639 ?_
  refine dl_argc (pc := 640) (j := 5) hC hX hL kc_5 hi (by decide) dL_law_640 dL_law_641 dL_law_642 dL_law_643 dL_law_644 ?_
  refine dx_callViw (pc := 645) (As := [.int (xs (i + 1)), .int (xs (i + 2)), .int (xs (i + 3)), .int (xs (i + 4)), .int (xs (i + 5))]) (rest := [.int r]) hC dL_law_645 k_L_86 rfl rfl rfl rfl (dc_le rfl) (dc_le rfl) (dc_le rfl) (dc_le rfl) rfl (th_X9_rings e2) ?_
  exact dx_icmp_eq (pc := 648) (tgt := 945) hC dL_law_648 (by decide) (fun _ => kk _ hR2) (fun h => absurd rfl h)

theorem dl_seen (hC : dc_Cx κ RL cL_law 4 12 464) (hX : dc_Sc κ L xs) (hL : L ≤ 512) {i : Nat} (hi : i + 8 ≤ L) (hR : pRL σ) (kk : ∀ σ', pRL σ' → dc_X κ 945 (dl_4 i) [] σ') : dc_X κ 653 (dl_4 i) [] σ := by
  refine dx_aload_n (pc := 653) (x := 0) hC dL_law_653 rfl ?_
  refine dl_argc (pc := 654) (j := 1) hC hX hL kc_1 hi (by decide) dL_law_654 dL_law_655 dL_law_656 dL_law_657 dL_law_658 ?_
  refine dl_argc (pc := 659) (j := 2) hC hX hL kc_2 hi (by decide) dL_law_659 dL_law_660 dL_law_661 dL_law_662 dL_law_663 ?_
  obtain ⟨r, σ1, σ2, e1, e2, hR2⟩ := op_seen (xs (i + 1)) (xs (i + 2)) σ hR
  refine dx_callViw (pc := 664) (As := [.int (xs (i + 1)), .int (xs (i + 2))]) (rest := []) hC dL_law_664 k_L_87 rfl rfl rfl rfl (dc_le rfl) (dc_le rfl) (dc_le rfl) (dc_le rfl) rfl (th_X8_seen e1) ?_
  refine dx_aload_n (pc := 667) (x := 55) hC dL_law_667 rfl ?_
  refine dl_argc (pc := 668) (j := 1) hC hX hL kc_1 hi (by decide) dL_law_668 dL_law_669 dL_law_670 dL_law_671 dL_law_672 ?_
  refine dl_argc (pc := 673) (j := 2) hC hX hL kc_2 hi (by decide) dL_law_673 dL_law_674 dL_law_675 dL_law_676 dL_law_677 ?_
  refine dx_callViw (pc := 678) (As := [.int (xs (i + 1)), .int (xs (i + 2))]) (rest := [.int r]) hC dL_law_678 k_L_90 rfl rfl rfl rfl (dc_le rfl) (dc_le rfl) (dc_le rfl) (dc_le rfl) rfl (th_X9_seen e2) ?_
  exact dx_icmp_eq (pc := 681) (tgt := 945) hC dL_law_681 (by decide) (fun _ => kk _ hR2) (fun h => absurd rfl h)

theorem dl_forget (hC : dc_Cx κ RL cL_law 4 12 464) (hX : dc_Sc κ L xs) (hL : L ≤ 512) {i : Nat} (hi : i + 8 ≤ L) (hR : pRL σ) (kk : ∀ σ', pRL σ' → dc_X κ 945 (dl_4 i) [] σ') : dc_X κ 686 (dl_4 i) [] σ := by
  refine dx_aload_n (pc := 686) (x := 0) hC dL_law_686 rfl ?_
  obtain ⟨r, σ1, σ2, e1, e2, hR2⟩ := op_forget σ hR
  refine dx_callViw (pc := 687) (As := []) (rest := []) hC dL_law_687 k_L_91 rfl rfl rfl rfl (dc_le rfl) (dc_le rfl) (dc_le rfl) (dc_le rfl) rfl (th_X8_forget e1) ?_
  refine dx_aload_n (pc := 690) (x := 55) hC dL_law_690 rfl ?_
  refine dx_callViw (pc := 691) (As := []) (rest := [.int r]) hC dL_law_691 k_L_94 rfl rfl rfl rfl (dc_le rfl) (dc_le rfl) (dc_le rfl) (dc_le rfl) rfl (th_X9_forget e2) ?_
  exact dx_icmp_eq (pc := 694) (tgt := 945) hC dL_law_694 (by decide) (fun _ => kk _ hR2) (fun h => absurd rfl h)

theorem dl_holds (hC : dc_Cx κ RL cL_law 4 12 464) (hX : dc_Sc κ L xs) (hL : L ≤ 512) {i : Nat} (hi : i + 8 ≤ L) (hR : pRL σ) (kk : ∀ σ', pRL σ' → dc_X κ 945 (dl_4 i) [] σ') : dc_X κ 699 (dl_4 i) [] σ := by
  refine dx_aload_n (pc := 699) (x := 0) hC dL_law_699 rfl ?_
  refine dl_argc (pc := 700) (j := 1) hC hX hL kc_1 hi (by decide) dL_law_700 dL_law_701 dL_law_702 dL_law_703 dL_law_704 ?_
  obtain ⟨r, σ1, σ2, e1, f2, hR2⟩ := op_holds (xs (i + 1)) σ hR
  obtain ⟨rfl, e2⟩ := dl_rd f2
  refine dx_callViw (pc := 705) (As := [.int (xs (i + 1))]) (rest := []) hC dL_law_705 k_L_95 rfl rfl rfl rfl (dc_le rfl) (dc_le rfl) (dc_le rfl) (dc_le rfl) rfl (th_X8_holds e1) ?_
  refine dx_aload_n (pc := 708) (x := 55) hC dL_law_708 rfl ?_
  refine dl_argc (pc := 709) (j := 1) hC hX hL kc_1 hi (by decide) dL_law_709 dL_law_710 dL_law_711 dL_law_712 dL_law_713 ?_
  refine dx_callVir (pc := 714) (As := [.int (xs (i + 1))]) (rest := [.int r]) hC dL_law_714 k_L_98 rfl rfl rfl rfl (dc_le rfl) (dc_le rfl) (dc_le rfl) (dc_le rfl) rfl (th_X9_holds e2) ?_
  exact dx_icmp_eq (pc := 717) (tgt := 945) hC dL_law_717 (by decide) (fun _ => kk _ hR2) (fun h => absurd rfl h)

theorem dl_ask (hC : dc_Cx κ RL cL_law 4 12 464) (hX : dc_Sc κ L xs) (hL : L ≤ 512) {i : Nat} (hi : i + 8 ≤ L) (hR : pRL σ) (kk : ∀ σ', pRL σ' → dc_X κ 945 (dl_4 i) [] σ') : dc_X κ 722 (dl_4 i) [] σ := by
  refine dx_aload_n (pc := 722) (x := 0) hC dL_law_722 rfl ?_
  refine dl_argc (pc := 723) (j := 1) hC hX hL kc_1 hi (by decide) dL_law_723 dL_law_724 dL_law_725 dL_law_726 dL_law_727 ?_
  obtain ⟨r, σ1, σ2, e1, e2, hR2⟩ := op_ask (xs (i + 1)) σ hR
  refine dx_callViw (pc := 728) (As := [.int (xs (i + 1))]) (rest := []) hC dL_law_728 k_L_99 rfl rfl rfl rfl (dc_le rfl) (dc_le rfl) (dc_le rfl) (dc_le rfl) rfl (th_X8_ask e1) ?_
  refine dx_aload_n (pc := 731) (x := 55) hC dL_law_731 rfl ?_
  refine dl_argc (pc := 732) (j := 1) hC hX hL kc_1 hi (by decide) dL_law_732 dL_law_733 dL_law_734 dL_law_735 dL_law_736 ?_
  refine dx_callViw (pc := 737) (As := [.int (xs (i + 1))]) (rest := [.int r]) hC dL_law_737 k_L_102 rfl rfl rfl rfl (dc_le rfl) (dc_le rfl) (dc_le rfl) (dc_le rfl) rfl (th_X9_ask e2) ?_
  exact dx_icmp_eq (pc := 740) (tgt := 945) hC dL_law_740 (by decide) (fun _ => kk _ hR2) (fun h => absurd rfl h)

theorem dl_fugue (hC : dc_Cx κ RL cL_law 4 12 464) (hX : dc_Sc κ L xs) (hL : L ≤ 512) {i : Nat} (hi : i + 8 ≤ L) (hR : pRL σ) (kk : ∀ σ', pRL σ' → dc_X κ 945 (dl_4 i) [] σ') : dc_X κ 745 (dl_4 i) [] σ := by
  refine dx_aload_n (pc := 745) (x := 0) hC dL_law_745 rfl ?_
  refine dl_argc (pc := 746) (j := 1) hC hX hL kc_1 hi (by decide) dL_law_746 dL_law_747 dL_law_748 dL_law_749 dL_law_750 ?_
  refine dl_argc (pc := 751) (j := 2) hC hX hL kc_2 hi (by decide) dL_law_751 dL_law_752 dL_law_753 dL_law_754 dL_law_755 ?_
  refine dl_argc (pc := 756) (j := 3) hC hX hL kc_3 hi (by decide) dL_law_756 dL_law_757 dL_law_758 dL_law_759 dL_law_760 ?_
  refine dl_argc (pc := 761) (j := 4) hC hX hL kc_4 hi (by decide) dL_law_761 dL_law_762 dL_law_763 dL_law_764 dL_law_765 ?_
  refine dl_argc (pc := 766) (j := 5) hC hX hL kc_5 hi (by decide) dL_law_766 dL_law_767 dL_law_768 dL_law_769 dL_law_770 ?_
  refine dl_argb (pc := 771) (j := 6) hC hX hL kb_6 hi (by decide) dL_law_771 dL_law_772 dL_law_773 dL_law_775 dL_law_776 ?_
  refine dl_argb (pc := 777) (j := 7) hC hX hL kb_7 hi (by decide) dL_law_777 dL_law_778 dL_law_779 dL_law_781 dL_law_782 ?_
  obtain ⟨r, σ1, σ2, e1, e2, hR2⟩ := op_fugue (xs (i + 1)) (xs (i + 2)) (xs (i + 3)) (xs (i + 4)) (xs (i + 5)) (xs (i + 6)) (xs (i + 7)) σ hR
  refine dx_callVlw (pc := 783) (As := [.int (xs (i + 1)), .int (xs (i + 2)), .int (xs (i + 3)), .int (xs (i + 4)), .int (xs (i + 5)), .int (xs (i + 6)), .int (xs (i + 7))]) (rest := []) hC dL_law_783 k_L_103 rfl rfl rfl rfl (dc_le rfl) (dc_le rfl) (dc_le rfl) (dc_le rfl) rfl (th_X8_fugue e1) ?_
  refine dx_aload_n (pc := 786) (x := 55) hC dL_law_786 rfl ?_
  refine dl_argc (pc := 787) (j := 1) hC hX hL kc_1 hi (by decide) dL_law_787 dL_law_788 dL_law_789 dL_law_790 dL_law_791 ?_
  refine dl_argc (pc := 792) (j := 2) hC hX hL kc_2 hi (by decide) dL_law_792 dL_law_793 dL_law_794 dL_law_795 dL_law_796 ?_
  refine dl_argc (pc := 797) (j := 3) hC hX hL kc_3 hi (by decide) dL_law_797 dL_law_798 dL_law_799 dL_law_800 dL_law_801 ?_
  refine dl_argc (pc := 802) (j := 4) hC hX hL kc_4 hi (by decide) dL_law_802 dL_law_803 dL_law_804 dL_law_805 dL_law_806 ?_
  refine dl_argc (pc := 807) (j := 5) hC hX hL kc_5 hi (by decide) dL_law_807 dL_law_808 dL_law_809 dL_law_810 dL_law_811 ?_
  refine dl_argb (pc := 812) (j := 6) hC hX hL kb_6 hi (by decide) dL_law_812 dL_law_813 dL_law_814 dL_law_816 dL_law_817 ?_
  refine dl_argb (pc := 818) (j := 7) hC hX hL kb_7 hi (by decide) dL_law_818 dL_law_819 dL_law_820 dL_law_822 dL_law_823 ?_
  refine dx_callVlw (pc := 824) (As := [.int (xs (i + 1)), .int (xs (i + 2)), .int (xs (i + 3)), .int (xs (i + 4)), .int (xs (i + 5)), .int (xs (i + 6)), .int (xs (i + 7))]) (rest := [.long r]) hC dL_law_824 k_L_107 rfl rfl rfl rfl (dc_le rfl) (dc_le rfl) (dc_le rfl) (dc_le rfl) rfl (th_X9_fugue e2) ?_
  refine dx_lcmp (pc := 827) hC dL_law_827 ?_
  exact dx_if_eq (pc := 828) (tgt := 945) hC dL_law_828 (by decide) (fun _ => kk _ hR2) (fun h => absurd ((lg_cmp_eq _ _).mpr rfl) h)

theorem dl_year (hC : dc_Cx κ RL cL_law 4 12 464) (hX : dc_Sc κ L xs) (hL : L ≤ 512) {i : Nat} (hi : i + 8 ≤ L) (hR : pRL σ) (kk : ∀ σ', pRL σ' → dc_X κ 945 (dl_4 i) [] σ') : dc_X κ 833 (dl_4 i) [] σ := by
  refine dx_aload_n (pc := 833) (x := 0) hC dL_law_833 rfl ?_
  refine dl_argc (pc := 834) (j := 1) hC hX hL kc_1 hi (by decide) dL_law_834 dL_law_835 dL_law_836 dL_law_837 dL_law_838 ?_
  refine dl_argc (pc := 839) (j := 2) hC hX hL kc_2 hi (by decide) dL_law_839 dL_law_840 dL_law_841 dL_law_842 dL_law_843 ?_
  refine dl_argc (pc := 844) (j := 3) hC hX hL kc_3 hi (by decide) dL_law_844 dL_law_845 dL_law_846 dL_law_847 dL_law_848 ?_
  obtain ⟨r, σ1, σ2, e1, e2, hR2⟩ := op_year (xs (i + 1)) (xs (i + 2)) (xs (i + 3)) σ hR
  refine dx_callViw (pc := 849) (As := [.int (xs (i + 1)), .int (xs (i + 2)), .int (xs (i + 3))]) (rest := []) hC dL_law_849 k_L_108 rfl rfl rfl rfl (dc_le rfl) (dc_le rfl) (dc_le rfl) (dc_le rfl) rfl (th_X8_year e1) ?_
  refine dx_aload_n (pc := 852) (x := 55) hC dL_law_852 rfl ?_
  refine dl_argc (pc := 853) (j := 1) hC hX hL kc_1 hi (by decide) dL_law_853 dL_law_854 dL_law_855 dL_law_856 dL_law_857 ?_
  refine dl_argc (pc := 858) (j := 2) hC hX hL kc_2 hi (by decide) dL_law_858 dL_law_859 dL_law_860 dL_law_861 dL_law_862 ?_
  refine dl_argc (pc := 863) (j := 3) hC hX hL kc_3 hi (by decide) dL_law_863 dL_law_864 dL_law_865 dL_law_866 dL_law_867 ?_
  refine dx_callViw (pc := 868) (As := [.int (xs (i + 1)), .int (xs (i + 2)), .int (xs (i + 3))]) (rest := [.int r]) hC dL_law_868 k_L_111 rfl rfl rfl rfl (dc_le rfl) (dc_le rfl) (dc_le rfl) (dc_le rfl) rfl (th_X9_year e2) ?_
  exact dx_icmp_eq (pc := 871) (tgt := 945) hC dL_law_871 (by decide) (fun _ => kk _ hR2) (fun h => absurd rfl h)

theorem dl_image (hC : dc_Cx κ RL cL_law 4 12 464) (hX : dc_Sc κ L xs) (hL : L ≤ 512) {i : Nat} (hi : i + 8 ≤ L) (hR : pRL σ) (kk : ∀ σ', pRL σ' → dc_X κ 945 (dl_4 i) [] σ') : dc_X κ 876 (dl_4 i) [] σ := by
  refine dx_aload_n (pc := 876) (x := 0) hC dL_law_876 rfl ?_
  refine dl_argc (pc := 877) (j := 1) hC hX hL kc_1 hi (by decide) dL_law_877 dL_law_878 dL_law_879 dL_law_880 dL_law_881 ?_
  obtain ⟨r, σ1, σ2, e1, e2, hR2⟩ := op_image (xs (i + 1)) σ hR
  refine dx_callViw (pc := 882) (As := [.int (xs (i + 1))]) (rest := []) hC dL_law_882 k_L_112 rfl rfl rfl rfl (dc_le rfl) (dc_le rfl) (dc_le rfl) (dc_le rfl) rfl (th_X8_image e1) ?_
  refine dx_aload_n (pc := 885) (x := 55) hC dL_law_885 rfl ?_
  refine dl_argc (pc := 886) (j := 1) hC hX hL kc_1 hi (by decide) dL_law_886 dL_law_887 dL_law_888 dL_law_889 dL_law_890 ?_
  refine dx_callViw (pc := 891) (As := [.int (xs (i + 1))]) (rest := [.int r]) hC dL_law_891 k_L_115 rfl rfl rfl rfl (dc_le rfl) (dc_le rfl) (dc_le rfl) (dc_le rfl) rfl (th_X9_image e2) ?_
  exact dx_icmp_eq (pc := 894) (tgt := 945) hC dL_law_894 (by decide) (fun _ => kk _ hR2) (fun h => absurd rfl h)

theorem dl_restore (hC : dc_Cx κ RL cL_law 4 12 464) (hX : dc_Sc κ L xs) (hL : L ≤ 512) {i : Nat} (hi : i + 8 ≤ L) (hR : pRL σ) (kk : ∀ σ', pRL σ' → dc_X κ 945 (dl_4 i) [] σ') : dc_X κ 899 (dl_4 i) [] σ := by
  refine dx_aload_n (pc := 899) (x := 0) hC dL_law_899 rfl ?_
  refine dl_argc (pc := 900) (j := 1) hC hX hL kc_1 hi (by decide) dL_law_900 dL_law_901 dL_law_902 dL_law_903 dL_law_904 ?_
  obtain ⟨r, σ1, σ2, e1, e2, hR2⟩ := op_restore (xs (i + 1)) σ hR
  refine dx_callViw (pc := 905) (As := [.int (xs (i + 1))]) (rest := []) hC dL_law_905 k_L_116 rfl rfl rfl rfl (dc_le rfl) (dc_le rfl) (dc_le rfl) (dc_le rfl) rfl (th_X8_restore e1) ?_
  refine dx_aload_n (pc := 908) (x := 55) hC dL_law_908 rfl ?_
  refine dl_argc (pc := 909) (j := 1) hC hX hL kc_1 hi (by decide) dL_law_909 dL_law_910 dL_law_911 dL_law_912 dL_law_913 ?_
  refine dx_callViw (pc := 914) (As := [.int (xs (i + 1))]) (rest := [.int r]) hC dL_law_914 k_L_119 rfl rfl rfl rfl (dc_le rfl) (dc_le rfl) (dc_le rfl) (dc_le rfl) rfl (th_X9_restore e2) ?_
  exact dx_icmp_eq (pc := 917) (tgt := 945) hC dL_law_917 (by decide) (fun _ => kk _ hR2) (fun h => absurd rfl h)

theorem dl_told (hC : dc_Cx κ RL cL_law 4 12 464) (hX : dc_Sc κ L xs) (hL : L ≤ 512) {i : Nat} (hi : i + 8 ≤ L) (hR : pRL σ) (kk : ∀ σ', pRL σ' → dc_X κ 945 (dl_4 i) [] σ') : dc_X κ 922 (dl_4 i) [] σ := by
  refine dx_aload_n (pc := 922) (x := 0) hC dL_law_922 rfl ?_
  refine dl_argc (pc := 923) (j := 1) hC hX hL kc_1 hi (by decide) dL_law_923 dL_law_924 dL_law_925 dL_law_926 dL_law_927 ?_
  obtain ⟨r, e1, e2⟩ := op_told (xs (i + 1)) σ hR
  refine dx_callVir (pc := 928) (As := [.int (xs (i + 1))]) (rest := []) hC dL_law_928 k_L_120 rfl rfl rfl rfl (dc_le rfl) (dc_le rfl) (dc_le rfl) (dc_le rfl) rfl (th_X8_told e1) ?_
  refine dx_aload_n (pc := 931) (x := 55) hC dL_law_931 rfl ?_
  refine dl_argc (pc := 932) (j := 1) hC hX hL kc_1 hi (by decide) dL_law_932 dL_law_933 dL_law_934 dL_law_935 dL_law_936 ?_
  refine dx_callVir (pc := 937) (As := [.int (xs (i + 1))]) (rest := [.int r]) hC dL_law_937 k_L_123 rfl rfl rfl rfl (dc_le rfl) (dc_le rfl) (dc_le rfl) (dc_le rfl) rfl (th_X9_told e2) ?_
  exact dx_icmp_eq (pc := 940) (tgt := 945) hC dL_law_940 (by decide) (fun _ => kk _ hR) (fun h => absurd rfl h)

theorem dl_switch (hC : dc_Cx κ RL cL_law 4 12 464) (hX : dc_Sc κ L xs) (hL : L ≤ 512) {i : Nat} (hi : i + 8 ≤ L) (hR : pRL σ) (kk : ∀ σ', pRL σ' → dc_X κ 945 (dl_4 i) [] σ') (y : Int32) : dc_X κ 33 (dl_4 i) [.int y] σ := by
  by_cases c0 : y = nI 0
  · subst c0
    exact dx_tableIn (pc := 33) (off := 119) (tgt := 152) hC dL_law_33 (by decide) (by decide) (by decide) (by decide) (dl_singer hC hX hL hi hR kk)
  by_cases c1 : y = nI 1
  · subst c1
    exact dx_tableIn (pc := 33) (off := 162) (tgt := 195) hC dL_law_33 (by decide) (by decide) (by decide) (by decide) (dl_leave hC hX hL hi hR kk)
  by_cases c2 : y = nI 2
  · subst c2
    exact dx_tableIn (pc := 33) (off := 185) (tgt := 218) hC dL_law_33 (by decide) (by decide) (by decide) (by decide) (dl_piece hC hX hL hi hR kk)
  by_cases c3 : y = nI 3
  · subst c3
    exact dx_tableIn (pc := 33) (off := 238) (tgt := 271) hC dL_law_33 (by decide) (by decide) (by decide) (by decide) (dl_say hC hX hL hi hR kk)
  by_cases c4 : y = nI 4
  · subst c4
    exact dx_tableIn (pc := 33) (off := 261) (tgt := 294) hC dL_law_33 (by decide) (by decide) (by decide) (by decide) (dl_wipe hC hX hL hi hR kk)
  by_cases c5 : y = nI 5
  · subst c5
    exact dx_tableIn (pc := 33) (off := 274) (tgt := 307) hC dL_law_33 (by decide) (by decide) (by decide) (by decide) (dl_fault hC hX hL hi hR kk)
  by_cases c6 : y = nI 6
  · subst c6
    exact dx_tableIn (pc := 33) (off := 287) (tgt := 320) hC dL_law_33 (by decide) (by decide) (by decide) (by decide) (dl_judge hC hX hL hi hR kk)
  by_cases c7 : y = nI 7
  · subst c7
    exact dx_tableIn (pc := 33) (off := 310) (tgt := 343) hC dL_law_33 (by decide) (by decide) (by decide) (by decide) (dl_behind hC hX hL hi hR kk)
  by_cases c8 : y = nI 8
  · subst c8
    exact dx_tableIn (pc := 33) (off := 343) (tgt := 376) hC dL_law_33 (by decide) (by decide) (by decide) (by decide) (dl_owed hC hX hL hi hR kk)
  by_cases c9 : y = nI 9
  · subst c9
    exact dx_tableIn (pc := 33) (off := 366) (tgt := 399) hC dL_law_33 (by decide) (by decide) (by decide) (by decide) (dl_freed hC hX hL hi hR kk)
  by_cases c10 : y = nI 10
  · subst c10
    exact dx_tableIn (pc := 33) (off := 389) (tgt := 422) hC dL_law_33 (by decide) (by decide) (by decide) (by decide) (dl_done hC hX hL hi hR kk)
  by_cases c11 : y = nI 11
  · subst c11
    exact dx_tableIn (pc := 33) (off := 402) (tgt := 435) hC dL_law_33 (by decide) (by decide) (by decide) (by decide) (dl_may hC hX hL hi hR kk)
  by_cases c12 : y = nI 12
  · subst c12
    exact dx_tableIn (pc := 33) (off := 415) (tgt := 448) hC dL_law_33 (by decide) (by decide) (by decide) (by decide) (dl_nights hC hX hL hi hR kk)
  by_cases c13 : y = nI 13
  · subst c13
    exact dx_tableIn (pc := 33) (off := 448) (tgt := 481) hC dL_law_33 (by decide) (by decide) (by decide) (by decide) (dl_programme hC hX hL hi hR kk)
  by_cases c14 : y = nI 14
  · subst c14
    exact dx_tableIn (pc := 33) (off := 481) (tgt := 514) hC dL_law_33 (by decide) (by decide) (by decide) (by decide) (dl_ruin hC hX hL hi hR kk)
  by_cases c15 : y = nI 15
  · subst c15
    exact dx_tableIn (pc := 33) (off := 514) (tgt := 547) hC dL_law_33 (by decide) (by decide) (by decide) (by decide) (dl_seats hC hX hL hi hR kk)
  by_cases c16 : y = nI 16
  · subst c16
    exact dx_tableIn (pc := 33) (off := 557) (tgt := 590) hC dL_law_33 (by decide) (by decide) (by decide) (by decide) (dl_rings hC hX hL hi hR kk)
  by_cases c17 : y = nI 17
  · subst c17
    exact dx_tableIn (pc := 33) (off := 620) (tgt := 653) hC dL_law_33 (by decide) (by decide) (by decide) (by decide) (dl_seen hC hX hL hi hR kk)
  by_cases c18 : y = nI 18
  · subst c18
    exact dx_tableIn (pc := 33) (off := 653) (tgt := 686) hC dL_law_33 (by decide) (by decide) (by decide) (by decide) (dl_forget hC hX hL hi hR kk)
  by_cases c19 : y = nI 19
  · subst c19
    exact dx_tableIn (pc := 33) (off := 666) (tgt := 699) hC dL_law_33 (by decide) (by decide) (by decide) (by decide) (dl_holds hC hX hL hi hR kk)
  by_cases c20 : y = nI 20
  · subst c20
    exact dx_tableIn (pc := 33) (off := 689) (tgt := 722) hC dL_law_33 (by decide) (by decide) (by decide) (by decide) (dl_ask hC hX hL hi hR kk)
  by_cases c21 : y = nI 21
  · subst c21
    exact dx_tableIn (pc := 33) (off := 712) (tgt := 745) hC dL_law_33 (by decide) (by decide) (by decide) (by decide) (dl_fugue hC hX hL hi hR kk)
  by_cases c22 : y = nI 22
  · subst c22
    exact dx_tableIn (pc := 33) (off := 800) (tgt := 833) hC dL_law_33 (by decide) (by decide) (by decide) (by decide) (dl_year hC hX hL hi hR kk)
  by_cases c23 : y = nI 23
  · subst c23
    exact dx_tableIn (pc := 33) (off := 843) (tgt := 876) hC dL_law_33 (by decide) (by decide) (by decide) (by decide) (dl_image hC hX hL hi hR kk)
  by_cases c24 : y = nI 24
  · subst c24
    exact dx_tableIn (pc := 33) (off := 866) (tgt := 899) hC dL_law_33 (by decide) (by decide) (by decide) (by decide) (dl_restore hC hX hL hi hR kk)
  by_cases c25 : y = nI 25
  · subst c25
    exact dx_tableIn (pc := 33) (off := 889) (tgt := 922) hC dL_law_33 (by decide) (by decide) (by decide) (by decide) (dl_told hC hX hL hi hR kk)
  refine dx_tableOut (pc := 33) (tgt := 945) hC dL_law_33 ?_ (by decide) (kk σ hR)
  by_cases h0 : y.toInt < 0
  · exact Or.inl h0
  · refine Or.inr ?_
    have ne : ∀ k : Nat, k < 26 → y.toInt ≠ (k : Int) := by
      intro k hk q
      have e : y = nI k := Int32.toInt_inj.mp (q.trans (nI_toInt (by omega)).symm)
      rcases (show k = 0 ∨ k = 1 ∨ k = 2 ∨ k = 3 ∨ k = 4 ∨ k = 5 ∨ k = 6 ∨ k = 7 ∨ k = 8 ∨ k = 9 ∨ k = 10 ∨ k = 11 ∨ k = 12 ∨ k = 13 ∨ k = 14 ∨ k = 15 ∨ k = 16 ∨ k = 17 ∨ k = 18 ∨ k = 19 ∨ k = 20 ∨ k = 21 ∨ k = 22 ∨ k = 23 ∨ k = 24 ∨ k = 25 by omega) with rfl | rfl | rfl | rfl | rfl | rfl | rfl | rfl | rfl | rfl | rfl | rfl | rfl | rfl | rfl | rfl | rfl | rfl | rfl | rfl | rfl | rfl | rfl | rfl | rfl | rfl
      · exact c0 e
      · exact c1 e
      · exact c2 e
      · exact c3 e
      · exact c4 e
      · exact c5 e
      · exact c6 e
      · exact c7 e
      · exact c8 e
      · exact c9 e
      · exact c10 e
      · exact c11 e
      · exact c12 e
      · exact c13 e
      · exact c14 e
      · exact c15 e
      · exact c16 e
      · exact c17 e
      · exact c18 e
      · exact c19 e
      · exact c20 e
      · exact c21 e
      · exact c22 e
      · exact c23 e
      · exact c24 e
      · exact c25 e
    have h25 := fun k hk => ne k hk
    by_cases q : 25 < y.toInt
    · exact q
    · exact absurd (Int.toNat_of_nonneg (show 0 ≤ y.toInt by omega)).symm (h25 y.toInt.toNat (by omega))
theorem dl_loop (hC : dc_Cx κ RL cL_law 4 12 464) (hX : dc_Sc κ L xs) (hW : dc_Lw κ) (hL : L ≤ 512) : ∀ n i σ, pRL σ → i ≤ 520 → L < i + 8 * n → dc_X κ 18 (dl_4 i) [] σ := by
  intro n
  induction n with
  | zero =>
    intro i σ hR hi hn
    refine dx_iload_n (pc := 18) (x := nI i) hC dL_law_18 rfl ?_
    refine dx_aload_n (pc := 19) (x := 77) hC dL_law_19 rfl ?_
    refine dl_slen (pc := 20) hC hX dL_law_20 ?_
    refine dx_bipush (pc := 21) hC dL_law_21 kb_8 ?_
    refine dx_isub (pc := 23) hC dL_law_23 ?_
    refine dx_icmp_gt (pc := 24) (tgt := 951) hC dL_law_24 (by decide) (fun _ => ?_) (fun h => ?_)
    · refine dx_iconst (pc := 951) hC dL_law_951 kc_1 ?_
      exact dl_end hC hW dL_law_952
    · exfalso
      apply h
      rw [Int32.lt_iff_toInt_lt, pk_sub_toInt (by omega) (by omega), nI_toInt (by omega)]
      omega
  | succ n ih =>
    intro i σ hR hi hn
    refine dx_iload_n (pc := 18) (x := nI i) hC dL_law_18 rfl ?_
    refine dx_aload_n (pc := 19) (x := 77) hC dL_law_19 rfl ?_
    refine dl_slen (pc := 20) hC hX dL_law_20 ?_
    refine dx_bipush (pc := 21) hC dL_law_21 kb_8 ?_
    refine dx_isub (pc := 23) hC dL_law_23 ?_
    refine dx_icmp_gt (pc := 24) (tgt := 951) hC dL_law_24 (by decide) (fun _ => ?_) (fun h => ?_)
    · refine dx_iconst (pc := 951) hC dL_law_951 kc_1 ?_
      exact dl_end hC hW dL_law_952
    · have hi8 : i + 8 ≤ L := by
        rw [Int32.lt_iff_toInt_lt, pk_sub_toInt (by omega) (by omega), nI_toInt (by omega)] at h
        omega
      refine dx_aload_n (pc := 27) (x := 77) hC dL_law_27 rfl ?_
      refine dx_iload_n (pc := 28) (x := nI i) hC dL_law_28 rfl ?_
      refine dl_sld (pc := 29) hC hX (nI_in (by omega) (by omega)) dL_law_29 ?_
      refine dx_bipush (pc := 30) (v := nI 31) hC dL_law_30 (by decide) ?_
      refine dx_iand (pc := 32) hC dL_law_32 ?_
      refine dl_switch hC hX hL hi8 hR (fun σ' hR' => ?_) _
      refine dx_iinc (pc := 945) (x := nI i) (v := nI (i + 8)) (ls' := dl_4 (i + 8)) hC dL_law_945 rfl (nI_add i 8) (by decide) rfl ?_
      refine dx_goto (pc := 948) (tgt := 18) hC dL_law_948 (by decide) ?_
      exact ih (i + 8) σ' hR' (by omega) (by omega)
end DL
