section LC
variable {p : Program} {l : Launch} {e : Env} {s : State} {m : MethodId} {args : Array Value} {below : List Frame} {meth : Method} {c : Code} {Q : State → Prop}
variable {D : va_G} {ad bd : Nat → Nat} {cI cJ cB cZ : ClassId} {b L : Nat} {xs : Nat → Int32}
variable {σ τ : ST} {Rel : Nat → ST → ST → Prop} {t : Nat}
set_option maxHeartbeats 4000000 in
set_option maxRecDepth 100000 in
theorem lc_feed (C : CtxL p s m args meth c D ad bd cI cJ cB cZ b L xs) (hS : Sim Rel) (hL : L ≤ 3072) (ht : 6 * t + 6 ≤ L) (hR : Rel t σ τ) (K : ∀ σ' τ' : ST, Rel (t + 1) σ' τ' → GL p l e s m args below meth c Q D ad bd cI cJ cB cZ σ' τ' 817 ([(0, .ref b), (1, .ref (ad 0)), (2, .ref (bd 0)), (3, .int (nI (6 * t)))]) []) : GL p l e s m args below meth c Q D ad bd cI cJ cB cZ σ τ 140 ([(0, .ref b), (1, .ref (ad 0)), (2, .ref (bd 0)), (3, .int (nI (6 * t)))]) [] := by
  obtain ⟨r, σ', τ', hx, hm, hR'⟩ := hS.2.2.1 (xs (6 * t + 1)) (xs (6 * t + 2)) (xs (6 * t + 3)) (xs (6 * t + 4)) (xs (6 * t + 5)) t σ τ (by omega) hR
  refine l_aload_n C dL_law_140 rfl 1 rfl 141 rfl ?_
  refine l_aload_n C dL_law_141 rfl 0 rfl 142 rfl ?_
  refine l_iload_n C dL_law_142 rfl 3 rfl 143 rfl ?_
  refine l_iconst C (v := 1) dL_law_143 (by decide) 144 rfl ?_
  refine l_iadd C dL_law_144 145 rfl ?_
  refine l_sld C (j := 6 * t + 1) (nI_add (6 * t) 1) (by omega) (by omega) dL_law_145 146 rfl ?_
  refine l_aload_n C dL_law_146 rfl 0 rfl 147 rfl ?_
  refine l_iload_n C dL_law_147 rfl 3 rfl 148 rfl ?_
  refine l_iconst C (v := 2) dL_law_148 (by decide) 149 rfl ?_
  refine l_iadd C dL_law_149 150 rfl ?_
  refine l_sld C (j := 6 * t + 2) (nI_add (6 * t) 2) (by omega) (by omega) dL_law_150 151 rfl ?_
  refine l_aload_n C dL_law_151 rfl 0 rfl 152 rfl ?_
  refine l_iload_n C dL_law_152 rfl 3 rfl 153 rfl ?_
  refine l_iconst C (v := 3) dL_law_153 (by decide) 154 rfl ?_
  refine l_iadd C dL_law_154 155 rfl ?_
  refine l_sld C (j := 6 * t + 3) (nI_add (6 * t) 3) (by omega) (by omega) dL_law_155 156 rfl ?_
  refine l_aload_n C dL_law_156 rfl 0 rfl 157 rfl ?_
  refine l_iload_n C dL_law_157 rfl 3 rfl 158 rfl ?_
  refine l_iconst C (v := 4) dL_law_158 (by decide) 159 rfl ?_
  refine l_iadd C dL_law_159 160 rfl ?_
  refine l_sld C (j := 6 * t + 4) (nI_add (6 * t) 4) (by omega) (by omega) dL_law_160 161 rfl ?_
  refine l_aload_n C dL_law_161 rfl 0 rfl 162 rfl ?_
  refine l_iload_n C dL_law_162 rfl 3 rfl 163 rfl ?_
  refine l_iconst C (v := 5) dL_law_163 (by decide) 164 rfl ?_
  refine l_iadd C dL_law_164 165 rfl ?_
  refine l_sld C (j := 6 * t + 5) (nI_add (6 * t) 5) (by omega) (by omega) dL_law_165 166 rfl ?_
  refine l_callXi C (As := [.int (xs (6 * t + 1)), .int (xs (6 * t + 2)), .int (xs (6 * t + 3)), .int (xs (6 * t + 4)), .int (xs (6 * t + 5))]) (kX10_feed hx) (inr_10 _ (List.mem_of_getElem? (i := 6) rfl)) (inr_10 _ (List.mem_of_getElem? (i := 7) rfl)) (inr_10 _ (List.mem_of_getElem? (i := 8) rfl)) (inr_1 _ (List.mem_of_getElem? (i := 2) rfl)) (inr_10 _ (List.mem_of_getElem? (i := 9) rfl)) 5 (by decide +kernel) (by decide) (by decide) rfl rfl (Nat.le_of_ble_eq_true rfl) dL_law_166 169 rfl ?_
  refine l_aload_n C dL_law_169 rfl 2 rfl 170 rfl ?_
  refine l_aload_n C dL_law_170 rfl 0 rfl 171 rfl ?_
  refine l_iload_n C dL_law_171 rfl 3 rfl 172 rfl ?_
  refine l_iconst C (v := 1) dL_law_172 (by decide) 173 rfl ?_
  refine l_iadd C dL_law_173 174 rfl ?_
  refine l_sld C (j := 6 * t + 1) (nI_add (6 * t) 1) (by omega) (by omega) dL_law_174 175 rfl ?_
  refine l_aload_n C dL_law_175 rfl 0 rfl 176 rfl ?_
  refine l_iload_n C dL_law_176 rfl 3 rfl 177 rfl ?_
  refine l_iconst C (v := 2) dL_law_177 (by decide) 178 rfl ?_
  refine l_iadd C dL_law_178 179 rfl ?_
  refine l_sld C (j := 6 * t + 2) (nI_add (6 * t) 2) (by omega) (by omega) dL_law_179 180 rfl ?_
  refine l_aload_n C dL_law_180 rfl 0 rfl 181 rfl ?_
  refine l_iload_n C dL_law_181 rfl 3 rfl 182 rfl ?_
  refine l_iconst C (v := 3) dL_law_182 (by decide) 183 rfl ?_
  refine l_iadd C dL_law_183 184 rfl ?_
  refine l_sld C (j := 6 * t + 3) (nI_add (6 * t) 3) (by omega) (by omega) dL_law_184 185 rfl ?_
  refine l_aload_n C dL_law_185 rfl 0 rfl 186 rfl ?_
  refine l_iload_n C dL_law_186 rfl 3 rfl 187 rfl ?_
  refine l_iconst C (v := 4) dL_law_187 (by decide) 188 rfl ?_
  refine l_iadd C dL_law_188 189 rfl ?_
  refine l_sld C (j := 6 * t + 4) (nI_add (6 * t) 4) (by omega) (by omega) dL_law_189 190 rfl ?_
  refine l_aload_n C dL_law_190 rfl 0 rfl 191 rfl ?_
  refine l_iload_n C dL_law_191 rfl 3 rfl 192 rfl ?_
  refine l_iconst C (v := 5) dL_law_192 (by decide) 193 rfl ?_
  refine l_iadd C dL_law_193 194 rfl ?_
  refine l_sld C (j := 6 * t + 5) (nI_add (6 * t) 5) (by omega) (by omega) dL_law_194 195 rfl ?_
  refine l_callMi C (As := [.int (xs (6 * t + 1)), .int (xs (6 * t + 2)), .int (xs (6 * t + 3)), .int (xs (6 * t + 4)), .int (xs (6 * t + 5))]) (kX11_feed hm) (inr_10 _ (List.mem_of_getElem? (i := 15) rfl)) (inr_10 _ (List.mem_of_getElem? (i := 16) rfl)) (inr_10 _ (List.mem_of_getElem? (i := 17) rfl)) (inr_1 _ (List.mem_of_getElem? (i := 5) rfl)) (inr_10 _ (List.mem_of_getElem? (i := 18) rfl)) 5 (by decide +kernel) (by decide) (by decide) rfl rfl (Nat.le_of_ble_eq_true rfl) dL_law_195 198 rfl ?_
  exact l_icmp_eq C 817 dL_law_198 (by decide) 201 rfl (fun _ => K σ' τ' hR') (fun z => absurd rfl z)
set_option maxHeartbeats 4000000 in
set_option maxRecDepth 100000 in
theorem lc_back (C : CtxL p s m args meth c D ad bd cI cJ cB cZ b L xs) (hS : Sim Rel) (hL : L ≤ 3072) (ht : 6 * t + 6 ≤ L) (hR : Rel t σ τ) (K : ∀ σ' τ' : ST, Rel (t + 1) σ' τ' → GL p l e s m args below meth c Q D ad bd cI cJ cB cZ σ' τ' 817 ([(0, .ref b), (1, .ref (ad 0)), (2, .ref (bd 0)), (3, .int (nI (6 * t)))]) []) : GL p l e s m args below meth c Q D ad bd cI cJ cB cZ σ τ 203 ([(0, .ref b), (1, .ref (ad 0)), (2, .ref (bd 0)), (3, .int (nI (6 * t)))]) [] := by
  obtain ⟨r, σ', τ', hx, hm, hR'⟩ := hS.2.2.2.1 (xs (6 * t + 1)) t σ τ (by omega) hR
  refine l_aload_n C dL_law_203 rfl 1 rfl 204 rfl ?_
  refine l_aload_n C dL_law_204 rfl 0 rfl 205 rfl ?_
  refine l_iload_n C dL_law_205 rfl 3 rfl 206 rfl ?_
  refine l_iconst C (v := 1) dL_law_206 (by decide) 207 rfl ?_
  refine l_iadd C dL_law_207 208 rfl ?_
  refine l_sld C (j := 6 * t + 1) (nI_add (6 * t) 1) (by omega) (by omega) dL_law_208 209 rfl ?_
  refine l_callXi C (As := [.int (xs (6 * t + 1))]) (kX10_back hx) (inr_11 _ (List.mem_of_getElem? (i := 0) rfl)) (inr_11 _ (List.mem_of_getElem? (i := 1) rfl)) (inr_11 _ (List.mem_of_getElem? (i := 2) rfl)) (inr_1 _ (List.mem_of_getElem? (i := 2) rfl)) (inr_11 _ (List.mem_of_getElem? (i := 3) rfl)) 1 (by decide +kernel) (by decide) (by decide) rfl rfl (Nat.le_of_ble_eq_true rfl) dL_law_209 212 rfl ?_
  refine l_aload_n C dL_law_212 rfl 2 rfl 213 rfl ?_
  refine l_aload_n C dL_law_213 rfl 0 rfl 214 rfl ?_
  refine l_iload_n C dL_law_214 rfl 3 rfl 215 rfl ?_
  refine l_iconst C (v := 1) dL_law_215 (by decide) 216 rfl ?_
  refine l_iadd C dL_law_216 217 rfl ?_
  refine l_sld C (j := 6 * t + 1) (nI_add (6 * t) 1) (by omega) (by omega) dL_law_217 218 rfl ?_
  refine l_callMi C (As := [.int (xs (6 * t + 1))]) (kX11_back hm) (inr_11 _ (List.mem_of_getElem? (i := 4) rfl)) (inr_11 _ (List.mem_of_getElem? (i := 5) rfl)) (inr_11 _ (List.mem_of_getElem? (i := 6) rfl)) (inr_1 _ (List.mem_of_getElem? (i := 5) rfl)) (inr_11 _ (List.mem_of_getElem? (i := 7) rfl)) 1 (by decide +kernel) (by decide) (by decide) rfl rfl (Nat.le_of_ble_eq_true rfl) dL_law_218 221 rfl ?_
  exact l_icmp_eq C 817 dL_law_221 (by decide) 224 rfl (fun _ => K σ' τ' hR') (fun z => absurd rfl z)
set_option maxHeartbeats 4000000 in
set_option maxRecDepth 100000 in
theorem lc_read (C : CtxL p s m args meth c D ad bd cI cJ cB cZ b L xs) (hS : Sim Rel) (hL : L ≤ 3072) (ht : 6 * t + 6 ≤ L) (hR : Rel t σ τ) (K : ∀ σ' τ' : ST, Rel (t + 1) σ' τ' → GL p l e s m args below meth c Q D ad bd cI cJ cB cZ σ' τ' 817 ([(0, .ref b), (1, .ref (ad 0)), (2, .ref (bd 0)), (3, .int (nI (6 * t)))]) []) : GL p l e s m args below meth c Q D ad bd cI cJ cB cZ σ τ 226 ([(0, .ref b), (1, .ref (ad 0)), (2, .ref (bd 0)), (3, .int (nI (6 * t)))]) [] := by
  obtain ⟨r, σ', τ', hx, hm, hR'⟩ := hS.2.2.2.2.1 t σ τ (by omega) hR
  refine l_aload_n C dL_law_226 rfl 1 rfl 227 rfl ?_
  refine l_callXi C (As := []) (kX10_read hx) (inr_11 _ (List.mem_of_getElem? (i := 8) rfl)) (inr_11 _ (List.mem_of_getElem? (i := 9) rfl)) (inr_11 _ (List.mem_of_getElem? (i := 10) rfl)) (inr_1 _ (List.mem_of_getElem? (i := 2) rfl)) (inr_11 _ (List.mem_of_getElem? (i := 11) rfl)) 0 (by decide +kernel) (by decide) (by decide) rfl rfl (Nat.le_of_ble_eq_true rfl) dL_law_227 230 rfl ?_
  refine l_aload_n C dL_law_230 rfl 2 rfl 231 rfl ?_
  refine l_callMi C (As := []) (kX11_read hm) (inr_18 _ (List.mem_of_getElem? (i := 21) rfl)) (inr_18 _ (List.mem_of_getElem? (i := 22) rfl)) (inr_18 _ (List.mem_of_getElem? (i := 23) rfl)) (inr_1 _ (List.mem_of_getElem? (i := 5) rfl)) (inr_19 _ (List.mem_of_getElem? (i := 0) rfl)) 0 (by decide +kernel) (by decide) (by decide) rfl rfl (Nat.le_of_ble_eq_true rfl) dL_law_231 234 rfl ?_
  exact l_icmp_eq C 817 dL_law_234 (by decide) 237 rfl (fun _ => K σ' τ' hR') (fun z => absurd rfl z)
set_option maxHeartbeats 4000000 in
set_option maxRecDepth 100000 in
theorem lc_place (C : CtxL p s m args meth c D ad bd cI cJ cB cZ b L xs) (hS : Sim Rel) (hL : L ≤ 3072) (ht : 6 * t + 6 ≤ L) (hR : Rel t σ τ) (K : ∀ σ' τ' : ST, Rel (t + 1) σ' τ' → GL p l e s m args below meth c Q D ad bd cI cJ cB cZ σ' τ' 817 ([(0, .ref b), (1, .ref (ad 0)), (2, .ref (bd 0)), (3, .int (nI (6 * t)))]) []) : GL p l e s m args below meth c Q D ad bd cI cJ cB cZ σ τ 239 ([(0, .ref b), (1, .ref (ad 0)), (2, .ref (bd 0)), (3, .int (nI (6 * t)))]) [] := by
  obtain ⟨r, σ', τ', hx, hm, hR'⟩ := hS.2.2.2.2.2.1 t σ τ (by omega) hR
  refine l_aload_n C dL_law_239 rfl 1 rfl 240 rfl ?_
  refine l_callXi C (As := []) (kX10_place hx) (inr_22 _ (List.mem_of_getElem? (i := 14) rfl)) (inr_22 _ (List.mem_of_getElem? (i := 15) rfl)) (inr_22 _ (List.mem_of_getElem? (i := 16) rfl)) (inr_1 _ (List.mem_of_getElem? (i := 2) rfl)) (inr_22 _ (List.mem_of_getElem? (i := 17) rfl)) 0 (by decide +kernel) (by decide) (by decide) rfl rfl (Nat.le_of_ble_eq_true rfl) dL_law_240 243 rfl ?_
  refine l_aload_n C dL_law_243 rfl 2 rfl 244 rfl ?_
  refine l_callMi C (As := []) (kX11_place hm) (inr_22 _ (List.mem_of_getElem? (i := 19) rfl)) (inr_22 _ (List.mem_of_getElem? (i := 20) rfl)) (inr_22 _ (List.mem_of_getElem? (i := 21) rfl)) (inr_1 _ (List.mem_of_getElem? (i := 5) rfl)) (inr_22 _ (List.mem_of_getElem? (i := 22) rfl)) 0 (by decide +kernel) (by decide) (by decide) rfl rfl (Nat.le_of_ble_eq_true rfl) dL_law_244 247 rfl ?_
  exact l_icmp_eq C 817 dL_law_247 (by decide) 250 rfl (fun _ => K σ' τ' hR') (fun z => absurd rfl z)
set_option maxHeartbeats 4000000 in
set_option maxRecDepth 100000 in
theorem lc_span (C : CtxL p s m args meth c D ad bd cI cJ cB cZ b L xs) (hS : Sim Rel) (hL : L ≤ 3072) (ht : 6 * t + 6 ≤ L) (hR : Rel t σ τ) (K : ∀ σ' τ' : ST, Rel (t + 1) σ' τ' → GL p l e s m args below meth c Q D ad bd cI cJ cB cZ σ' τ' 817 ([(0, .ref b), (1, .ref (ad 0)), (2, .ref (bd 0)), (3, .int (nI (6 * t)))]) []) : GL p l e s m args below meth c Q D ad bd cI cJ cB cZ σ τ 252 ([(0, .ref b), (1, .ref (ad 0)), (2, .ref (bd 0)), (3, .int (nI (6 * t)))]) [] := by
  obtain ⟨r, σ', τ', hx, hm, hR'⟩ := hS.2.2.2.2.2.2.1 (xs (6 * t + 1)) (xs (6 * t + 2)) (xs (6 * t + 3)) t σ τ (by omega) hR
  refine l_aload_n C dL_law_252 rfl 1 rfl 253 rfl ?_
  refine l_aload_n C dL_law_253 rfl 0 rfl 254 rfl ?_
  refine l_iload_n C dL_law_254 rfl 3 rfl 255 rfl ?_
  refine l_iconst C (v := 1) dL_law_255 (by decide) 256 rfl ?_
  refine l_iadd C dL_law_256 257 rfl ?_
  refine l_sld C (j := 6 * t + 1) (nI_add (6 * t) 1) (by omega) (by omega) dL_law_257 258 rfl ?_
  refine l_aload_n C dL_law_258 rfl 0 rfl 259 rfl ?_
  refine l_iload_n C dL_law_259 rfl 3 rfl 260 rfl ?_
  refine l_iconst C (v := 2) dL_law_260 (by decide) 261 rfl ?_
  refine l_iadd C dL_law_261 262 rfl ?_
  refine l_sld C (j := 6 * t + 2) (nI_add (6 * t) 2) (by omega) (by omega) dL_law_262 263 rfl ?_
  refine l_aload_n C dL_law_263 rfl 0 rfl 264 rfl ?_
  refine l_iload_n C dL_law_264 rfl 3 rfl 265 rfl ?_
  refine l_iconst C (v := 3) dL_law_265 (by decide) 266 rfl ?_
  refine l_iadd C dL_law_266 267 rfl ?_
  refine l_sld C (j := 6 * t + 3) (nI_add (6 * t) 3) (by omega) (by omega) dL_law_267 268 rfl ?_
  refine l_callXi C (As := [.int (xs (6 * t + 1)), .int (xs (6 * t + 2)), .int (xs (6 * t + 3))]) (kX10_span hx) (inr_22 _ (List.mem_of_getElem? (i := 23) rfl)) (inr_23 _ (List.mem_of_getElem? (i := 0) rfl)) (inr_23 _ (List.mem_of_getElem? (i := 1) rfl)) (inr_1 _ (List.mem_of_getElem? (i := 2) rfl)) (inr_23 _ (List.mem_of_getElem? (i := 2) rfl)) 3 (by decide +kernel) (by decide) (by decide) rfl rfl (Nat.le_of_ble_eq_true rfl) dL_law_268 271 rfl ?_
  refine l_aload_n C dL_law_271 rfl 2 rfl 272 rfl ?_
  refine l_aload_n C dL_law_272 rfl 0 rfl 273 rfl ?_
  refine l_iload_n C dL_law_273 rfl 3 rfl 274 rfl ?_
  refine l_iconst C (v := 1) dL_law_274 (by decide) 275 rfl ?_
  refine l_iadd C dL_law_275 276 rfl ?_
  refine l_sld C (j := 6 * t + 1) (nI_add (6 * t) 1) (by omega) (by omega) dL_law_276 277 rfl ?_
  refine l_aload_n C dL_law_277 rfl 0 rfl 278 rfl ?_
  refine l_iload_n C dL_law_278 rfl 3 rfl 279 rfl ?_
  refine l_iconst C (v := 2) dL_law_279 (by decide) 280 rfl ?_
  refine l_iadd C dL_law_280 281 rfl ?_
  refine l_sld C (j := 6 * t + 2) (nI_add (6 * t) 2) (by omega) (by omega) dL_law_281 282 rfl ?_
  refine l_aload_n C dL_law_282 rfl 0 rfl 283 rfl ?_
  refine l_iload_n C dL_law_283 rfl 3 rfl 284 rfl ?_
  refine l_iconst C (v := 3) dL_law_284 (by decide) 285 rfl ?_
  refine l_iadd C dL_law_285 286 rfl ?_
  refine l_sld C (j := 6 * t + 3) (nI_add (6 * t) 3) (by omega) (by omega) dL_law_286 287 rfl ?_
  refine l_callMi C (As := [.int (xs (6 * t + 1)), .int (xs (6 * t + 2)), .int (xs (6 * t + 3))]) (kX11_span hm) (inr_23 _ (List.mem_of_getElem? (i := 6) rfl)) (inr_23 _ (List.mem_of_getElem? (i := 7) rfl)) (inr_23 _ (List.mem_of_getElem? (i := 8) rfl)) (inr_1 _ (List.mem_of_getElem? (i := 5) rfl)) (inr_23 _ (List.mem_of_getElem? (i := 9) rfl)) 3 (by decide +kernel) (by decide) (by decide) rfl rfl (Nat.le_of_ble_eq_true rfl) dL_law_287 290 rfl ?_
  exact l_icmp_eq C 817 dL_law_290 (by decide) 293 rfl (fun _ => K σ' τ' hR') (fun z => absurd rfl z)
set_option maxHeartbeats 4000000 in
set_option maxRecDepth 100000 in
theorem lc_row (C : CtxL p s m args meth c D ad bd cI cJ cB cZ b L xs) (hS : Sim Rel) (hL : L ≤ 3072) (ht : 6 * t + 6 ≤ L) (hR : Rel t σ τ) (K : ∀ σ' τ' : ST, Rel (t + 1) σ' τ' → GL p l e s m args below meth c Q D ad bd cI cJ cB cZ σ' τ' 817 ([(0, .ref b), (1, .ref (ad 0)), (2, .ref (bd 0)), (3, .int (nI (6 * t)))]) []) : GL p l e s m args below meth c Q D ad bd cI cJ cB cZ σ τ 295 ([(0, .ref b), (1, .ref (ad 0)), (2, .ref (bd 0)), (3, .int (nI (6 * t)))]) [] := by
  obtain ⟨r, σ', τ', hx, hm, hR'⟩ := hS.2.2.2.2.2.2.2.1 (xs (6 * t + 1)) (xs (6 * t + 2)) (xs (6 * t + 3)) t σ τ (by omega) hR
  refine l_aload_n C dL_law_295 rfl 1 rfl 296 rfl ?_
  refine l_aload_n C dL_law_296 rfl 0 rfl 297 rfl ?_
  refine l_iload_n C dL_law_297 rfl 3 rfl 298 rfl ?_
  refine l_iconst C (v := 1) dL_law_298 (by decide) 299 rfl ?_
  refine l_iadd C dL_law_299 300 rfl ?_
  refine l_sld C (j := 6 * t + 1) (nI_add (6 * t) 1) (by omega) (by omega) dL_law_300 301 rfl ?_
  refine l_aload_n C dL_law_301 rfl 0 rfl 302 rfl ?_
  refine l_iload_n C dL_law_302 rfl 3 rfl 303 rfl ?_
  refine l_iconst C (v := 2) dL_law_303 (by decide) 304 rfl ?_
  refine l_iadd C dL_law_304 305 rfl ?_
  refine l_sld C (j := 6 * t + 2) (nI_add (6 * t) 2) (by omega) (by omega) dL_law_305 306 rfl ?_
  refine l_aload_n C dL_law_306 rfl 0 rfl 307 rfl ?_
  refine l_iload_n C dL_law_307 rfl 3 rfl 308 rfl ?_
  refine l_iconst C (v := 3) dL_law_308 (by decide) 309 rfl ?_
  refine l_iadd C dL_law_309 310 rfl ?_
  refine l_sld C (j := 6 * t + 3) (nI_add (6 * t) 3) (by omega) (by omega) dL_law_310 311 rfl ?_
  refine l_callXi C (As := [.int (xs (6 * t + 1)), .int (xs (6 * t + 2)), .int (xs (6 * t + 3))]) (kX10_row hx) (inr_23 _ (List.mem_of_getElem? (i := 13) rfl)) (inr_23 _ (List.mem_of_getElem? (i := 14) rfl)) (inr_23 _ (List.mem_of_getElem? (i := 15) rfl)) (inr_1 _ (List.mem_of_getElem? (i := 2) rfl)) (inr_23 _ (List.mem_of_getElem? (i := 16) rfl)) 3 (by decide +kernel) (by decide) (by decide) rfl rfl (Nat.le_of_ble_eq_true rfl) dL_law_311 314 rfl ?_
  refine l_aload_n C dL_law_314 rfl 2 rfl 315 rfl ?_
  refine l_aload_n C dL_law_315 rfl 0 rfl 316 rfl ?_
  refine l_iload_n C dL_law_316 rfl 3 rfl 317 rfl ?_
  refine l_iconst C (v := 1) dL_law_317 (by decide) 318 rfl ?_
  refine l_iadd C dL_law_318 319 rfl ?_
  refine l_sld C (j := 6 * t + 1) (nI_add (6 * t) 1) (by omega) (by omega) dL_law_319 320 rfl ?_
  refine l_aload_n C dL_law_320 rfl 0 rfl 321 rfl ?_
  refine l_iload_n C dL_law_321 rfl 3 rfl 322 rfl ?_
  refine l_iconst C (v := 2) dL_law_322 (by decide) 323 rfl ?_
  refine l_iadd C dL_law_323 324 rfl ?_
  refine l_sld C (j := 6 * t + 2) (nI_add (6 * t) 2) (by omega) (by omega) dL_law_324 325 rfl ?_
  refine l_aload_n C dL_law_325 rfl 0 rfl 326 rfl ?_
  refine l_iload_n C dL_law_326 rfl 3 rfl 327 rfl ?_
  refine l_iconst C (v := 3) dL_law_327 (by decide) 328 rfl ?_
  refine l_iadd C dL_law_328 329 rfl ?_
  refine l_sld C (j := 6 * t + 3) (nI_add (6 * t) 3) (by omega) (by omega) dL_law_329 330 rfl ?_
  refine l_callMi C (As := [.int (xs (6 * t + 1)), .int (xs (6 * t + 2)), .int (xs (6 * t + 3))]) (kX11_row hm) (inr_24 _ (List.mem_of_getElem? (i := 6) rfl)) (inr_24 _ (List.mem_of_getElem? (i := 7) rfl)) (inr_24 _ (List.mem_of_getElem? (i := 8) rfl)) (inr_1 _ (List.mem_of_getElem? (i := 5) rfl)) (inr_24 _ (List.mem_of_getElem? (i := 9) rfl)) 3 (by decide +kernel) (by decide) (by decide) rfl rfl (Nat.le_of_ble_eq_true rfl) dL_law_330 333 rfl ?_
  exact l_icmp_eq C 817 dL_law_333 (by decide) 336 rfl (fun _ => K σ' τ' hR') (fun z => absurd rfl z)
set_option maxHeartbeats 4000000 in
set_option maxRecDepth 100000 in
theorem lc_land (C : CtxL p s m args meth c D ad bd cI cJ cB cZ b L xs) (hS : Sim Rel) (hL : L ≤ 3072) (ht : 6 * t + 6 ≤ L) (hR : Rel t σ τ) (K : ∀ σ' τ' : ST, Rel (t + 1) σ' τ' → GL p l e s m args below meth c Q D ad bd cI cJ cB cZ σ' τ' 817 ([(0, .ref b), (1, .ref (ad 0)), (2, .ref (bd 0)), (3, .int (nI (6 * t)))]) []) : GL p l e s m args below meth c Q D ad bd cI cJ cB cZ σ τ 338 ([(0, .ref b), (1, .ref (ad 0)), (2, .ref (bd 0)), (3, .int (nI (6 * t)))]) [] := by
  obtain ⟨r, σ', τ', hx, hm, hR'⟩ := hS.2.2.2.2.2.2.2.2.1 (xs (6 * t + 1)) t σ τ (by omega) hR
  refine l_aload_n C dL_law_338 rfl 1 rfl 339 rfl ?_
  refine l_aload_n C dL_law_339 rfl 0 rfl 340 rfl ?_
  refine l_iload_n C dL_law_340 rfl 3 rfl 341 rfl ?_
  refine l_iconst C (v := 1) dL_law_341 (by decide) 342 rfl ?_
  refine l_iadd C dL_law_342 343 rfl ?_
  refine l_sld C (j := 6 * t + 1) (nI_add (6 * t) 1) (by omega) (by omega) dL_law_343 344 rfl ?_
  refine l_callXi C (As := [.int (xs (6 * t + 1))]) (kX10_land hx) (inr_24 _ (List.mem_of_getElem? (i := 10) rfl)) (inr_24 _ (List.mem_of_getElem? (i := 11) rfl)) (inr_24 _ (List.mem_of_getElem? (i := 12) rfl)) (inr_1 _ (List.mem_of_getElem? (i := 2) rfl)) (inr_24 _ (List.mem_of_getElem? (i := 13) rfl)) 1 (by decide +kernel) (by decide) (by decide) rfl rfl (Nat.le_of_ble_eq_true rfl) dL_law_344 347 rfl ?_
  refine l_aload_n C dL_law_347 rfl 2 rfl 348 rfl ?_
  refine l_aload_n C dL_law_348 rfl 0 rfl 349 rfl ?_
  refine l_iload_n C dL_law_349 rfl 3 rfl 350 rfl ?_
  refine l_iconst C (v := 1) dL_law_350 (by decide) 351 rfl ?_
  refine l_iadd C dL_law_351 352 rfl ?_
  refine l_sld C (j := 6 * t + 1) (nI_add (6 * t) 1) (by omega) (by omega) dL_law_352 353 rfl ?_
  refine l_callMi C (As := [.int (xs (6 * t + 1))]) (kX11_land hm) (inr_25 _ (List.mem_of_getElem? (i := 8) rfl)) (inr_25 _ (List.mem_of_getElem? (i := 9) rfl)) (inr_25 _ (List.mem_of_getElem? (i := 10) rfl)) (inr_1 _ (List.mem_of_getElem? (i := 5) rfl)) (inr_25 _ (List.mem_of_getElem? (i := 11) rfl)) 1 (by decide +kernel) (by decide) (by decide) rfl rfl (Nat.le_of_ble_eq_true rfl) dL_law_353 356 rfl ?_
  exact l_icmp_eq C 817 dL_law_356 (by decide) 359 rfl (fun _ => K σ' τ' hR') (fun z => absurd rfl z)
set_option maxHeartbeats 4000000 in
set_option maxRecDepth 100000 in
theorem lc_reader (C : CtxL p s m args meth c D ad bd cI cJ cB cZ b L xs) (hS : Sim Rel) (hL : L ≤ 3072) (ht : 6 * t + 6 ≤ L) (hR : Rel t σ τ) (K : ∀ σ' τ' : ST, Rel (t + 1) σ' τ' → GL p l e s m args below meth c Q D ad bd cI cJ cB cZ σ' τ' 817 ([(0, .ref b), (1, .ref (ad 0)), (2, .ref (bd 0)), (3, .int (nI (6 * t)))]) []) : GL p l e s m args below meth c Q D ad bd cI cJ cB cZ σ τ 361 ([(0, .ref b), (1, .ref (ad 0)), (2, .ref (bd 0)), (3, .int (nI (6 * t)))]) [] := by
  obtain ⟨r, σ', τ', hx, hm, hR'⟩ := hS.2.2.2.2.2.2.2.2.2.1 (xs (6 * t + 1)) t σ τ (by omega) hR
  refine l_aload_n C dL_law_361 rfl 1 rfl 362 rfl ?_
  refine l_aload_n C dL_law_362 rfl 0 rfl 363 rfl ?_
  refine l_iload_n C dL_law_363 rfl 3 rfl 364 rfl ?_
  refine l_iconst C (v := 1) dL_law_364 (by decide) 365 rfl ?_
  refine l_iadd C dL_law_365 366 rfl ?_
  refine l_sld C (j := 6 * t + 1) (nI_add (6 * t) 1) (by omega) (by omega) dL_law_366 367 rfl ?_
  refine l_callXi C (As := [.int (xs (6 * t + 1))]) (kX10_reader hx) (inr_25 _ (List.mem_of_getElem? (i := 12) rfl)) (inr_25 _ (List.mem_of_getElem? (i := 13) rfl)) (inr_25 _ (List.mem_of_getElem? (i := 14) rfl)) (inr_1 _ (List.mem_of_getElem? (i := 2) rfl)) (inr_25 _ (List.mem_of_getElem? (i := 15) rfl)) 1 (by decide +kernel) (by decide) (by decide) rfl rfl (Nat.le_of_ble_eq_true rfl) dL_law_367 370 rfl ?_
  refine l_aload_n C dL_law_370 rfl 2 rfl 371 rfl ?_
  refine l_aload_n C dL_law_371 rfl 0 rfl 372 rfl ?_
  refine l_iload_n C dL_law_372 rfl 3 rfl 373 rfl ?_
  refine l_iconst C (v := 1) dL_law_373 (by decide) 374 rfl ?_
  refine l_iadd C dL_law_374 375 rfl ?_
  refine l_sld C (j := 6 * t + 1) (nI_add (6 * t) 1) (by omega) (by omega) dL_law_375 376 rfl ?_
  refine l_callMi C (As := [.int (xs (6 * t + 1))]) (kX11_reader hm) (inr_25 _ (List.mem_of_getElem? (i := 21) rfl)) (inr_25 _ (List.mem_of_getElem? (i := 22) rfl)) (inr_25 _ (List.mem_of_getElem? (i := 23) rfl)) (inr_1 _ (List.mem_of_getElem? (i := 5) rfl)) (inr_26 _ (List.mem_of_getElem? (i := 0) rfl)) 1 (by decide +kernel) (by decide) (by decide) rfl rfl (Nat.le_of_ble_eq_true rfl) dL_law_376 379 rfl ?_
  exact l_icmp_eq C 817 dL_law_379 (by decide) 382 rfl (fun _ => K σ' τ' hR') (fun z => absurd rfl z)
set_option maxHeartbeats 4000000 in
set_option maxRecDepth 100000 in
theorem lc_rights (C : CtxL p s m args meth c D ad bd cI cJ cB cZ b L xs) (hS : Sim Rel) (hL : L ≤ 3072) (ht : 6 * t + 6 ≤ L) (hR : Rel t σ τ) (K : ∀ σ' τ' : ST, Rel (t + 1) σ' τ' → GL p l e s m args below meth c Q D ad bd cI cJ cB cZ σ' τ' 817 ([(0, .ref b), (1, .ref (ad 0)), (2, .ref (bd 0)), (3, .int (nI (6 * t)))]) []) : GL p l e s m args below meth c Q D ad bd cI cJ cB cZ σ τ 384 ([(0, .ref b), (1, .ref (ad 0)), (2, .ref (bd 0)), (3, .int (nI (6 * t)))]) [] := by
  obtain ⟨r, σ', τ', hx, hm, hR'⟩ := hS.2.2.2.2.2.2.2.2.2.2.1 (xs (6 * t + 1)) (xs (6 * t + 2)) t σ τ (by omega) hR
  refine l_aload_n C dL_law_384 rfl 1 rfl 385 rfl ?_
  refine l_aload_n C dL_law_385 rfl 0 rfl 386 rfl ?_
  refine l_iload_n C dL_law_386 rfl 3 rfl 387 rfl ?_
  refine l_iconst C (v := 1) dL_law_387 (by decide) 388 rfl ?_
  refine l_iadd C dL_law_388 389 rfl ?_
  refine l_sld C (j := 6 * t + 1) (nI_add (6 * t) 1) (by omega) (by omega) dL_law_389 390 rfl ?_
  refine l_aload_n C dL_law_390 rfl 0 rfl 391 rfl ?_
  refine l_iload_n C dL_law_391 rfl 3 rfl 392 rfl ?_
  refine l_iconst C (v := 2) dL_law_392 (by decide) 393 rfl ?_
  refine l_iadd C dL_law_393 394 rfl ?_
  refine l_sld C (j := 6 * t + 2) (nI_add (6 * t) 2) (by omega) (by omega) dL_law_394 395 rfl ?_
  refine l_callXi C (As := [.int (xs (6 * t + 1)), .int (xs (6 * t + 2))]) (kX10_rights hx) (inr_26 _ (List.mem_of_getElem? (i := 2) rfl)) (inr_26 _ (List.mem_of_getElem? (i := 3) rfl)) (inr_26 _ (List.mem_of_getElem? (i := 4) rfl)) (inr_1 _ (List.mem_of_getElem? (i := 2) rfl)) (inr_26 _ (List.mem_of_getElem? (i := 5) rfl)) 2 (by decide +kernel) (by decide) (by decide) rfl rfl (Nat.le_of_ble_eq_true rfl) dL_law_395 398 rfl ?_
  refine l_aload_n C dL_law_398 rfl 2 rfl 399 rfl ?_
  refine l_aload_n C dL_law_399 rfl 0 rfl 400 rfl ?_
  refine l_iload_n C dL_law_400 rfl 3 rfl 401 rfl ?_
  refine l_iconst C (v := 1) dL_law_401 (by decide) 402 rfl ?_
  refine l_iadd C dL_law_402 403 rfl ?_
  refine l_sld C (j := 6 * t + 1) (nI_add (6 * t) 1) (by omega) (by omega) dL_law_403 404 rfl ?_
  refine l_aload_n C dL_law_404 rfl 0 rfl 405 rfl ?_
  refine l_iload_n C dL_law_405 rfl 3 rfl 406 rfl ?_
  refine l_iconst C (v := 2) dL_law_406 (by decide) 407 rfl ?_
  refine l_iadd C dL_law_407 408 rfl ?_
  refine l_sld C (j := 6 * t + 2) (nI_add (6 * t) 2) (by omega) (by omega) dL_law_408 409 rfl ?_
  refine l_callMi C (As := [.int (xs (6 * t + 1)), .int (xs (6 * t + 2))]) (kX11_rights hm) (inr_26 _ (List.mem_of_getElem? (i := 11) rfl)) (inr_26 _ (List.mem_of_getElem? (i := 12) rfl)) (inr_26 _ (List.mem_of_getElem? (i := 13) rfl)) (inr_1 _ (List.mem_of_getElem? (i := 5) rfl)) (inr_26 _ (List.mem_of_getElem? (i := 14) rfl)) 2 (by decide +kernel) (by decide) (by decide) rfl rfl (Nat.le_of_ble_eq_true rfl) dL_law_409 412 rfl ?_
  exact l_icmp_eq C 817 dL_law_412 (by decide) 415 rfl (fun _ => K σ' τ' hR') (fun z => absurd rfl z)
set_option maxHeartbeats 4000000 in
set_option maxRecDepth 100000 in
theorem lc_hold (C : CtxL p s m args meth c D ad bd cI cJ cB cZ b L xs) (hS : Sim Rel) (hL : L ≤ 3072) (ht : 6 * t + 6 ≤ L) (hR : Rel t σ τ) (K : ∀ σ' τ' : ST, Rel (t + 1) σ' τ' → GL p l e s m args below meth c Q D ad bd cI cJ cB cZ σ' τ' 817 ([(0, .ref b), (1, .ref (ad 0)), (2, .ref (bd 0)), (3, .int (nI (6 * t)))]) []) : GL p l e s m args below meth c Q D ad bd cI cJ cB cZ σ τ 417 ([(0, .ref b), (1, .ref (ad 0)), (2, .ref (bd 0)), (3, .int (nI (6 * t)))]) [] := by
  by_cases hb : xs (6 * t + 2) = 0
  · obtain ⟨r, σ', τ', hx, hm, hR'⟩ := hS.2.2.2.2.2.2.2.2.2.2.2.1 (xs (6 * t + 1)) 0 (Or.inl rfl) t σ τ (by omega) hR
    refine l_aload_n C dL_law_417 rfl 1 rfl 418 rfl ?_
    refine l_aload_n C dL_law_418 rfl 0 rfl 419 rfl ?_
    refine l_iload_n C dL_law_419 rfl 3 rfl 420 rfl ?_
    refine l_iconst C (v := 1) dL_law_420 (by decide) 421 rfl ?_
    refine l_iadd C dL_law_421 422 rfl ?_
    refine l_sld C (j := 6 * t + 1) (nI_add (6 * t) 1) (by omega) (by omega) dL_law_422 423 rfl ?_
    refine l_aload_n C dL_law_423 rfl 0 rfl 424 rfl ?_
    refine l_iload_n C dL_law_424 rfl 3 rfl 425 rfl ?_
    refine l_iconst C (v := 2) dL_law_425 (by decide) 426 rfl ?_
    refine l_iadd C dL_law_426 427 rfl ?_
    refine l_sld C (j := 6 * t + 2) (nI_add (6 * t) 2) (by omega) (by omega) dL_law_427 428 rfl ?_
    refine l_eq0 C 435 dL_law_428 (by decide) 431 rfl (fun _ => ?_) (fun z => absurd hb z)
    refine l_iconst C (v := 0) dL_law_435 (by decide) 436 rfl ?_
    refine l_callXi C (As := [.int (xs (6 * t + 1)), .int 0]) (kX10_hold hx) (inr_26 _ (List.mem_of_getElem? (i := 19) rfl)) (inr_26 _ (List.mem_of_getElem? (i := 20) rfl)) (inr_26 _ (List.mem_of_getElem? (i := 21) rfl)) (inr_1 _ (List.mem_of_getElem? (i := 2) rfl)) (inr_26 _ (List.mem_of_getElem? (i := 22) rfl)) 2 (by decide +kernel) (by decide) (by decide) rfl rfl (Nat.le_of_ble_eq_true rfl) dL_law_436 439 rfl ?_
    refine l_aload_n C dL_law_439 rfl 2 rfl 440 rfl ?_
    refine l_aload_n C dL_law_440 rfl 0 rfl 441 rfl ?_
    refine l_iload_n C dL_law_441 rfl 3 rfl 442 rfl ?_
    refine l_iconst C (v := 1) dL_law_442 (by decide) 443 rfl ?_
    refine l_iadd C dL_law_443 444 rfl ?_
    refine l_sld C (j := 6 * t + 1) (nI_add (6 * t) 1) (by omega) (by omega) dL_law_444 445 rfl ?_
    refine l_aload_n C dL_law_445 rfl 0 rfl 446 rfl ?_
    refine l_iload_n C dL_law_446 rfl 3 rfl 447 rfl ?_
    refine l_iconst C (v := 2) dL_law_447 (by decide) 448 rfl ?_
    refine l_iadd C dL_law_448 449 rfl ?_
    refine l_sld C (j := 6 * t + 2) (nI_add (6 * t) 2) (by omega) (by omega) dL_law_449 450 rfl ?_
    refine l_eq0 C 457 dL_law_450 (by decide) 453 rfl (fun _ => ?_) (fun z => absurd hb z)
    refine l_iconst C (v := 0) dL_law_457 (by decide) 458 rfl ?_
    refine l_callMi C (As := [.int (xs (6 * t + 1)), .int 0]) (kX11_hold hm) (inr_27 _ (List.mem_of_getElem? (i := 21) rfl)) (inr_27 _ (List.mem_of_getElem? (i := 22) rfl)) (inr_27 _ (List.mem_of_getElem? (i := 23) rfl)) (inr_1 _ (List.mem_of_getElem? (i := 5) rfl)) (inr_28 _ (List.mem_of_getElem? (i := 0) rfl)) 2 (by decide +kernel) (by decide) (by decide) rfl rfl (Nat.le_of_ble_eq_true rfl) dL_law_458 461 rfl ?_
    exact l_icmp_eq C 817 dL_law_461 (by decide) 464 rfl (fun _ => K σ' τ' hR') (fun z => absurd rfl z)
  · obtain ⟨r, σ', τ', hx, hm, hR'⟩ := hS.2.2.2.2.2.2.2.2.2.2.2.1 (xs (6 * t + 1)) 1 (Or.inr rfl) t σ τ (by omega) hR
    refine l_aload_n C dL_law_417 rfl 1 rfl 418 rfl ?_
    refine l_aload_n C dL_law_418 rfl 0 rfl 419 rfl ?_
    refine l_iload_n C dL_law_419 rfl 3 rfl 420 rfl ?_
    refine l_iconst C (v := 1) dL_law_420 (by decide) 421 rfl ?_
    refine l_iadd C dL_law_421 422 rfl ?_
    refine l_sld C (j := 6 * t + 1) (nI_add (6 * t) 1) (by omega) (by omega) dL_law_422 423 rfl ?_
    refine l_aload_n C dL_law_423 rfl 0 rfl 424 rfl ?_
    refine l_iload_n C dL_law_424 rfl 3 rfl 425 rfl ?_
    refine l_iconst C (v := 2) dL_law_425 (by decide) 426 rfl ?_
    refine l_iadd C dL_law_426 427 rfl ?_
    refine l_sld C (j := 6 * t + 2) (nI_add (6 * t) 2) (by omega) (by omega) dL_law_427 428 rfl ?_
    refine l_eq0 C 435 dL_law_428 (by decide) 431 rfl (fun z => absurd z hb) (fun _ => ?_)
    refine l_iconst C (v := 1) dL_law_431 (by decide) 432 rfl ?_
    refine l_goto C 436 dL_law_432 (by decide) ?_
    refine l_callXi C (As := [.int (xs (6 * t + 1)), .int 1]) (kX10_hold hx) (inr_26 _ (List.mem_of_getElem? (i := 19) rfl)) (inr_26 _ (List.mem_of_getElem? (i := 20) rfl)) (inr_26 _ (List.mem_of_getElem? (i := 21) rfl)) (inr_1 _ (List.mem_of_getElem? (i := 2) rfl)) (inr_26 _ (List.mem_of_getElem? (i := 22) rfl)) 2 (by decide +kernel) (by decide) (by decide) rfl rfl (Nat.le_of_ble_eq_true rfl) dL_law_436 439 rfl ?_
    refine l_aload_n C dL_law_439 rfl 2 rfl 440 rfl ?_
    refine l_aload_n C dL_law_440 rfl 0 rfl 441 rfl ?_
    refine l_iload_n C dL_law_441 rfl 3 rfl 442 rfl ?_
    refine l_iconst C (v := 1) dL_law_442 (by decide) 443 rfl ?_
    refine l_iadd C dL_law_443 444 rfl ?_
    refine l_sld C (j := 6 * t + 1) (nI_add (6 * t) 1) (by omega) (by omega) dL_law_444 445 rfl ?_
    refine l_aload_n C dL_law_445 rfl 0 rfl 446 rfl ?_
    refine l_iload_n C dL_law_446 rfl 3 rfl 447 rfl ?_
    refine l_iconst C (v := 2) dL_law_447 (by decide) 448 rfl ?_
    refine l_iadd C dL_law_448 449 rfl ?_
    refine l_sld C (j := 6 * t + 2) (nI_add (6 * t) 2) (by omega) (by omega) dL_law_449 450 rfl ?_
    refine l_eq0 C 457 dL_law_450 (by decide) 453 rfl (fun z => absurd z hb) (fun _ => ?_)
    refine l_iconst C (v := 1) dL_law_453 (by decide) 454 rfl ?_
    refine l_goto C 458 dL_law_454 (by decide) ?_
    refine l_callMi C (As := [.int (xs (6 * t + 1)), .int 1]) (kX11_hold hm) (inr_27 _ (List.mem_of_getElem? (i := 21) rfl)) (inr_27 _ (List.mem_of_getElem? (i := 22) rfl)) (inr_27 _ (List.mem_of_getElem? (i := 23) rfl)) (inr_1 _ (List.mem_of_getElem? (i := 5) rfl)) (inr_28 _ (List.mem_of_getElem? (i := 0) rfl)) 2 (by decide +kernel) (by decide) (by decide) rfl rfl (Nat.le_of_ble_eq_true rfl) dL_law_458 461 rfl ?_
    exact l_icmp_eq C 817 dL_law_461 (by decide) 464 rfl (fun _ => K σ' τ' hR') (fun z => absurd rfl z)
set_option maxHeartbeats 4000000 in
set_option maxRecDepth 100000 in
theorem lc_reads (C : CtxL p s m args meth c D ad bd cI cJ cB cZ b L xs) (hS : Sim Rel) (hL : L ≤ 3072) (ht : 6 * t + 6 ≤ L) (hR : Rel t σ τ) (K : ∀ σ' τ' : ST, Rel (t + 1) σ' τ' → GL p l e s m args below meth c Q D ad bd cI cJ cB cZ σ' τ' 817 ([(0, .ref b), (1, .ref (ad 0)), (2, .ref (bd 0)), (3, .int (nI (6 * t)))]) []) : GL p l e s m args below meth c Q D ad bd cI cJ cB cZ σ τ 466 ([(0, .ref b), (1, .ref (ad 0)), (2, .ref (bd 0)), (3, .int (nI (6 * t)))]) [] := by
  obtain ⟨r, σ', τ', hx, hm, hR'⟩ := hS.2.2.2.2.2.2.2.2.2.2.2.2.1 (xs (6 * t + 1)) (xs (6 * t + 2)) t σ τ (by omega) hR
  refine l_aload_n C dL_law_466 rfl 1 rfl 467 rfl ?_
  refine l_aload_n C dL_law_467 rfl 0 rfl 468 rfl ?_
  refine l_iload_n C dL_law_468 rfl 3 rfl 469 rfl ?_
  refine l_iconst C (v := 1) dL_law_469 (by decide) 470 rfl ?_
  refine l_iadd C dL_law_470 471 rfl ?_
  refine l_sld C (j := 6 * t + 1) (nI_add (6 * t) 1) (by omega) (by omega) dL_law_471 472 rfl ?_
  refine l_aload_n C dL_law_472 rfl 0 rfl 473 rfl ?_
  refine l_iload_n C dL_law_473 rfl 3 rfl 474 rfl ?_
  refine l_iconst C (v := 2) dL_law_474 (by decide) 475 rfl ?_
  refine l_iadd C dL_law_475 476 rfl ?_
  refine l_sld C (j := 6 * t + 2) (nI_add (6 * t) 2) (by omega) (by omega) dL_law_476 477 rfl ?_
  refine l_callXi C (As := [.int (xs (6 * t + 1)), .int (xs (6 * t + 2))]) (kX10_reads hx) (inr_28 _ (List.mem_of_getElem? (i := 5) rfl)) (inr_28 _ (List.mem_of_getElem? (i := 6) rfl)) (inr_28 _ (List.mem_of_getElem? (i := 7) rfl)) (inr_1 _ (List.mem_of_getElem? (i := 2) rfl)) (inr_28 _ (List.mem_of_getElem? (i := 8) rfl)) 2 (by decide +kernel) (by decide) (by decide) rfl rfl (Nat.le_of_ble_eq_true rfl) dL_law_477 480 rfl ?_
  refine l_aload_n C dL_law_480 rfl 2 rfl 481 rfl ?_
  refine l_aload_n C dL_law_481 rfl 0 rfl 482 rfl ?_
  refine l_iload_n C dL_law_482 rfl 3 rfl 483 rfl ?_
  refine l_iconst C (v := 1) dL_law_483 (by decide) 484 rfl ?_
  refine l_iadd C dL_law_484 485 rfl ?_
  refine l_sld C (j := 6 * t + 1) (nI_add (6 * t) 1) (by omega) (by omega) dL_law_485 486 rfl ?_
  refine l_aload_n C dL_law_486 rfl 0 rfl 487 rfl ?_
  refine l_iload_n C dL_law_487 rfl 3 rfl 488 rfl ?_
  refine l_iconst C (v := 2) dL_law_488 (by decide) 489 rfl ?_
  refine l_iadd C dL_law_489 490 rfl ?_
  refine l_sld C (j := 6 * t + 2) (nI_add (6 * t) 2) (by omega) (by omega) dL_law_490 491 rfl ?_
  refine l_callMi C (As := [.int (xs (6 * t + 1)), .int (xs (6 * t + 2))]) (kX11_reads hm) (inr_28 _ (List.mem_of_getElem? (i := 23) rfl)) (inr_29 _ (List.mem_of_getElem? (i := 0) rfl)) (inr_29 _ (List.mem_of_getElem? (i := 1) rfl)) (inr_1 _ (List.mem_of_getElem? (i := 5) rfl)) (inr_29 _ (List.mem_of_getElem? (i := 2) rfl)) 2 (by decide +kernel) (by decide) (by decide) rfl rfl (Nat.le_of_ble_eq_true rfl) dL_law_491 494 rfl ?_
  exact l_icmp_eq C 817 dL_law_494 (by decide) 497 rfl (fun _ => K σ' τ' hR') (fun z => absurd rfl z)
set_option maxHeartbeats 4000000 in
set_option maxRecDepth 100000 in
theorem lc_hosts (C : CtxL p s m args meth c D ad bd cI cJ cB cZ b L xs) (hS : Sim Rel) (hL : L ≤ 3072) (ht : 6 * t + 6 ≤ L) (hR : Rel t σ τ) (K : ∀ σ' τ' : ST, Rel (t + 1) σ' τ' → GL p l e s m args below meth c Q D ad bd cI cJ cB cZ σ' τ' 817 ([(0, .ref b), (1, .ref (ad 0)), (2, .ref (bd 0)), (3, .int (nI (6 * t)))]) []) : GL p l e s m args below meth c Q D ad bd cI cJ cB cZ σ τ 499 ([(0, .ref b), (1, .ref (ad 0)), (2, .ref (bd 0)), (3, .int (nI (6 * t)))]) [] := by
  obtain ⟨r, σ', τ', hx, hm, hR'⟩ := hS.2.2.2.2.2.2.2.2.2.2.2.2.2.1 (xs (6 * t + 1)) t σ τ (by omega) hR
  refine l_aload_n C dL_law_499 rfl 1 rfl 500 rfl ?_
  refine l_aload_n C dL_law_500 rfl 0 rfl 501 rfl ?_
  refine l_iload_n C dL_law_501 rfl 3 rfl 502 rfl ?_
  refine l_iconst C (v := 1) dL_law_502 (by decide) 503 rfl ?_
  refine l_iadd C dL_law_503 504 rfl ?_
  refine l_sld C (j := 6 * t + 1) (nI_add (6 * t) 1) (by omega) (by omega) dL_law_504 505 rfl ?_
  refine l_callXi C (As := [.int (xs (6 * t + 1))]) (kX10_hosts hx) (inr_29 _ (List.mem_of_getElem? (i := 7) rfl)) (inr_29 _ (List.mem_of_getElem? (i := 8) rfl)) (inr_29 _ (List.mem_of_getElem? (i := 9) rfl)) (inr_1 _ (List.mem_of_getElem? (i := 2) rfl)) (inr_29 _ (List.mem_of_getElem? (i := 10) rfl)) 1 (by decide +kernel) (by decide) (by decide) rfl rfl (Nat.le_of_ble_eq_true rfl) dL_law_505 508 rfl ?_
  refine l_aload_n C dL_law_508 rfl 2 rfl 509 rfl ?_
  refine l_aload_n C dL_law_509 rfl 0 rfl 510 rfl ?_
  refine l_iload_n C dL_law_510 rfl 3 rfl 511 rfl ?_
  refine l_iconst C (v := 1) dL_law_511 (by decide) 512 rfl ?_
  refine l_iadd C dL_law_512 513 rfl ?_
  refine l_sld C (j := 6 * t + 1) (nI_add (6 * t) 1) (by omega) (by omega) dL_law_513 514 rfl ?_
  refine l_callMi C (As := [.int (xs (6 * t + 1))]) (kX11_hosts hm) (inr_29 _ (List.mem_of_getElem? (i := 13) rfl)) (inr_29 _ (List.mem_of_getElem? (i := 14) rfl)) (inr_29 _ (List.mem_of_getElem? (i := 15) rfl)) (inr_1 _ (List.mem_of_getElem? (i := 5) rfl)) (inr_29 _ (List.mem_of_getElem? (i := 16) rfl)) 1 (by decide +kernel) (by decide) (by decide) rfl rfl (Nat.le_of_ble_eq_true rfl) dL_law_514 517 rfl ?_
  exact l_icmp_eq C 817 dL_law_517 (by decide) 520 rfl (fun _ => K σ' τ' hR') (fun z => absurd rfl z)
set_option maxHeartbeats 4000000 in
set_option maxRecDepth 100000 in
theorem lc_tick (C : CtxL p s m args meth c D ad bd cI cJ cB cZ b L xs) (hS : Sim Rel) (hL : L ≤ 3072) (ht : 6 * t + 6 ≤ L) (hR : Rel t σ τ) (K : ∀ σ' τ' : ST, Rel (t + 1) σ' τ' → GL p l e s m args below meth c Q D ad bd cI cJ cB cZ σ' τ' 817 ([(0, .ref b), (1, .ref (ad 0)), (2, .ref (bd 0)), (3, .int (nI (6 * t)))]) []) : GL p l e s m args below meth c Q D ad bd cI cJ cB cZ σ τ 522 ([(0, .ref b), (1, .ref (ad 0)), (2, .ref (bd 0)), (3, .int (nI (6 * t)))]) [] := by
  obtain ⟨r, σ', τ', hx, hm, hR'⟩ := hS.2.2.2.2.2.2.2.2.2.2.2.2.2.2.1 t σ τ (by omega) hR
  refine l_aload_n C dL_law_522 rfl 1 rfl 523 rfl ?_
  refine l_callXi C (As := []) (kX10_tick hx) (inr_29 _ (List.mem_of_getElem? (i := 17) rfl)) (inr_29 _ (List.mem_of_getElem? (i := 18) rfl)) (inr_29 _ (List.mem_of_getElem? (i := 19) rfl)) (inr_1 _ (List.mem_of_getElem? (i := 2) rfl)) (inr_29 _ (List.mem_of_getElem? (i := 20) rfl)) 0 (by decide +kernel) (by decide) (by decide) rfl rfl (Nat.le_of_ble_eq_true rfl) dL_law_523 526 rfl ?_
  refine l_aload_n C dL_law_526 rfl 2 rfl 527 rfl ?_
  refine l_callMi C (As := []) (kX11_tick hm) (inr_33 _ (List.mem_of_getElem? (i := 5) rfl)) (inr_33 _ (List.mem_of_getElem? (i := 6) rfl)) (inr_33 _ (List.mem_of_getElem? (i := 7) rfl)) (inr_1 _ (List.mem_of_getElem? (i := 5) rfl)) (inr_33 _ (List.mem_of_getElem? (i := 8) rfl)) 0 (by decide +kernel) (by decide) (by decide) rfl rfl (Nat.le_of_ble_eq_true rfl) dL_law_527 530 rfl ?_
  exact l_icmp_eq C 817 dL_law_530 (by decide) 533 rfl (fun _ => K σ' τ' hR') (fun z => absurd rfl z)
set_option maxHeartbeats 4000000 in
set_option maxRecDepth 100000 in
theorem lc_plan (C : CtxL p s m args meth c D ad bd cI cJ cB cZ b L xs) (hS : Sim Rel) (hL : L ≤ 3072) (ht : 6 * t + 6 ≤ L) (hR : Rel t σ τ) (K : ∀ σ' τ' : ST, Rel (t + 1) σ' τ' → GL p l e s m args below meth c Q D ad bd cI cJ cB cZ σ' τ' 817 ([(0, .ref b), (1, .ref (ad 0)), (2, .ref (bd 0)), (3, .int (nI (6 * t)))]) []) : GL p l e s m args below meth c Q D ad bd cI cJ cB cZ σ τ 535 ([(0, .ref b), (1, .ref (ad 0)), (2, .ref (bd 0)), (3, .int (nI (6 * t)))]) [] := by
  obtain ⟨r, σ', τ', hx, hm, hR'⟩ := hS.2.2.2.2.2.2.2.2.2.2.2.2.2.2.2.1 t σ τ (by omega) hR
  refine l_aload_n C dL_law_535 rfl 1 rfl 536 rfl ?_
  refine l_callXi C (As := []) (kX10_plan hx) (inr_34 _ (List.mem_of_getElem? (i := 6) rfl)) (inr_34 _ (List.mem_of_getElem? (i := 7) rfl)) (inr_34 _ (List.mem_of_getElem? (i := 8) rfl)) (inr_1 _ (List.mem_of_getElem? (i := 2) rfl)) (inr_34 _ (List.mem_of_getElem? (i := 9) rfl)) 0 (by decide +kernel) (by decide) (by decide) rfl rfl (Nat.le_of_ble_eq_true rfl) dL_law_536 539 rfl ?_
  refine l_aload_n C dL_law_539 rfl 2 rfl 540 rfl ?_
  refine l_callMi C (As := []) (kX11_plan hm) (inr_39 _ (List.mem_of_getElem? (i := 14) rfl)) (inr_39 _ (List.mem_of_getElem? (i := 15) rfl)) (inr_39 _ (List.mem_of_getElem? (i := 16) rfl)) (inr_1 _ (List.mem_of_getElem? (i := 5) rfl)) (inr_39 _ (List.mem_of_getElem? (i := 17) rfl)) 0 (by decide +kernel) (by decide) (by decide) rfl rfl (Nat.le_of_ble_eq_true rfl) dL_law_540 543 rfl ?_
  exact l_icmp_eq C 817 dL_law_543 (by decide) 546 rfl (fun _ => K σ' τ' hR') (fun z => absurd rfl z)
set_option maxHeartbeats 4000000 in
set_option maxRecDepth 100000 in
theorem lc_order (C : CtxL p s m args meth c D ad bd cI cJ cB cZ b L xs) (hS : Sim Rel) (hL : L ≤ 3072) (ht : 6 * t + 6 ≤ L) (hR : Rel t σ τ) (K : ∀ σ' τ' : ST, Rel (t + 1) σ' τ' → GL p l e s m args below meth c Q D ad bd cI cJ cB cZ σ' τ' 817 ([(0, .ref b), (1, .ref (ad 0)), (2, .ref (bd 0)), (3, .int (nI (6 * t)))]) []) : GL p l e s m args below meth c Q D ad bd cI cJ cB cZ σ τ 548 ([(0, .ref b), (1, .ref (ad 0)), (2, .ref (bd 0)), (3, .int (nI (6 * t)))]) [] := by
  obtain ⟨r, σ', τ', hx, hm, hR'⟩ := hS.2.2.2.2.2.2.2.2.2.2.2.2.2.2.2.2.1 (xs (6 * t + 1)) t σ τ (by omega) hR
  refine l_aload_n C dL_law_548 rfl 1 rfl 549 rfl ?_
  refine l_aload_n C dL_law_549 rfl 0 rfl 550 rfl ?_
  refine l_iload_n C dL_law_550 rfl 3 rfl 551 rfl ?_
  refine l_iconst C (v := 1) dL_law_551 (by decide) 552 rfl ?_
  refine l_iadd C dL_law_552 553 rfl ?_
  refine l_sld C (j := 6 * t + 1) (nI_add (6 * t) 1) (by omega) (by omega) dL_law_553 554 rfl ?_
  refine l_callXi C (As := [.int (xs (6 * t + 1))]) (kX10_order hx) (inr_40 _ (List.mem_of_getElem? (i := 18) rfl)) (inr_40 _ (List.mem_of_getElem? (i := 19) rfl)) (inr_40 _ (List.mem_of_getElem? (i := 20) rfl)) (inr_1 _ (List.mem_of_getElem? (i := 2) rfl)) (inr_40 _ (List.mem_of_getElem? (i := 21) rfl)) 1 (by decide +kernel) (by decide) (by decide) rfl rfl (Nat.le_of_ble_eq_true rfl) dL_law_554 557 rfl ?_
  refine l_aload_n C dL_law_557 rfl 2 rfl 558 rfl ?_
  refine l_aload_n C dL_law_558 rfl 0 rfl 559 rfl ?_
  refine l_iload_n C dL_law_559 rfl 3 rfl 560 rfl ?_
  refine l_iconst C (v := 1) dL_law_560 (by decide) 561 rfl ?_
  refine l_iadd C dL_law_561 562 rfl ?_
  refine l_sld C (j := 6 * t + 1) (nI_add (6 * t) 1) (by omega) (by omega) dL_law_562 563 rfl ?_
  refine l_callMi C (As := [.int (xs (6 * t + 1))]) (kX11_order hm) (inr_41 _ (List.mem_of_getElem? (i := 0) rfl)) (inr_41 _ (List.mem_of_getElem? (i := 1) rfl)) (inr_41 _ (List.mem_of_getElem? (i := 2) rfl)) (inr_1 _ (List.mem_of_getElem? (i := 5) rfl)) (inr_41 _ (List.mem_of_getElem? (i := 3) rfl)) 1 (by decide +kernel) (by decide) (by decide) rfl rfl (Nat.le_of_ble_eq_true rfl) dL_law_563 566 rfl ?_
  exact l_icmp_eq C 817 dL_law_566 (by decide) 569 rfl (fun _ => K σ' τ' hR') (fun z => absurd rfl z)
set_option maxHeartbeats 4000000 in
set_option maxRecDepth 100000 in
theorem lc_foreseen (C : CtxL p s m args meth c D ad bd cI cJ cB cZ b L xs) (hS : Sim Rel) (hL : L ≤ 3072) (ht : 6 * t + 6 ≤ L) (hR : Rel t σ τ) (K : ∀ σ' τ' : ST, Rel (t + 1) σ' τ' → GL p l e s m args below meth c Q D ad bd cI cJ cB cZ σ' τ' 817 ([(0, .ref b), (1, .ref (ad 0)), (2, .ref (bd 0)), (3, .int (nI (6 * t)))]) []) : GL p l e s m args below meth c Q D ad bd cI cJ cB cZ σ τ 571 ([(0, .ref b), (1, .ref (ad 0)), (2, .ref (bd 0)), (3, .int (nI (6 * t)))]) [] := by
  obtain ⟨r, σ', τ', hx, hm, hR'⟩ := hS.2.2.2.2.2.2.2.2.2.2.2.2.2.2.2.2.2.1 (xs (6 * t + 1)) t σ τ (by omega) hR
  refine l_aload_n C dL_law_571 rfl 1 rfl 572 rfl ?_
  refine l_aload_n C dL_law_572 rfl 0 rfl 573 rfl ?_
  refine l_iload_n C dL_law_573 rfl 3 rfl 574 rfl ?_
  refine l_iconst C (v := 1) dL_law_574 (by decide) 575 rfl ?_
  refine l_iadd C dL_law_575 576 rfl ?_
  refine l_sld C (j := 6 * t + 1) (nI_add (6 * t) 1) (by omega) (by omega) dL_law_576 577 rfl ?_
  refine l_callXi C (As := [.int (xs (6 * t + 1))]) (kX10_foreseen hx) (inr_41 _ (List.mem_of_getElem? (i := 4) rfl)) (inr_41 _ (List.mem_of_getElem? (i := 5) rfl)) (inr_41 _ (List.mem_of_getElem? (i := 6) rfl)) (inr_1 _ (List.mem_of_getElem? (i := 2) rfl)) (inr_41 _ (List.mem_of_getElem? (i := 7) rfl)) 1 (by decide +kernel) (by decide) (by decide) rfl rfl (Nat.le_of_ble_eq_true rfl) dL_law_577 580 rfl ?_
  refine l_aload_n C dL_law_580 rfl 2 rfl 581 rfl ?_
  refine l_aload_n C dL_law_581 rfl 0 rfl 582 rfl ?_
  refine l_iload_n C dL_law_582 rfl 3 rfl 583 rfl ?_
  refine l_iconst C (v := 1) dL_law_583 (by decide) 584 rfl ?_
  refine l_iadd C dL_law_584 585 rfl ?_
  refine l_sld C (j := 6 * t + 1) (nI_add (6 * t) 1) (by omega) (by omega) dL_law_585 586 rfl ?_
  refine l_callMi C (As := [.int (xs (6 * t + 1))]) (kX11_foreseen hm) (inr_41 _ (List.mem_of_getElem? (i := 16) rfl)) (inr_41 _ (List.mem_of_getElem? (i := 17) rfl)) (inr_41 _ (List.mem_of_getElem? (i := 18) rfl)) (inr_1 _ (List.mem_of_getElem? (i := 5) rfl)) (inr_41 _ (List.mem_of_getElem? (i := 19) rfl)) 1 (by decide +kernel) (by decide) (by decide) rfl rfl (Nat.le_of_ble_eq_true rfl) dL_law_586 589 rfl ?_
  exact l_icmp_eq C 817 dL_law_589 (by decide) 592 rfl (fun _ => K σ' τ' hR') (fun z => absurd rfl z)
set_option maxHeartbeats 4000000 in
set_option maxRecDepth 100000 in
theorem lc_sure (C : CtxL p s m args meth c D ad bd cI cJ cB cZ b L xs) (hS : Sim Rel) (hL : L ≤ 3072) (ht : 6 * t + 6 ≤ L) (hR : Rel t σ τ) (K : ∀ σ' τ' : ST, Rel (t + 1) σ' τ' → GL p l e s m args below meth c Q D ad bd cI cJ cB cZ σ' τ' 817 ([(0, .ref b), (1, .ref (ad 0)), (2, .ref (bd 0)), (3, .int (nI (6 * t)))]) []) : GL p l e s m args below meth c Q D ad bd cI cJ cB cZ σ τ 594 ([(0, .ref b), (1, .ref (ad 0)), (2, .ref (bd 0)), (3, .int (nI (6 * t)))]) [] := by
  obtain ⟨r, σ', τ', hx, hm, hR'⟩ := hS.2.2.2.2.2.2.2.2.2.2.2.2.2.2.2.2.2.2.1 (xs (6 * t + 1)) t σ τ (by omega) hR
  refine l_aload_n C dL_law_594 rfl 1 rfl 595 rfl ?_
  refine l_aload_n C dL_law_595 rfl 0 rfl 596 rfl ?_
  refine l_iload_n C dL_law_596 rfl 3 rfl 597 rfl ?_
  refine l_iconst C (v := 1) dL_law_597 (by decide) 598 rfl ?_
  refine l_iadd C dL_law_598 599 rfl ?_
  refine l_sld C (j := 6 * t + 1) (nI_add (6 * t) 1) (by omega) (by omega) dL_law_599 600 rfl ?_
  refine l_callXi C (As := [.int (xs (6 * t + 1))]) (kX10_sure hx) (inr_41 _ (List.mem_of_getElem? (i := 20) rfl)) (inr_41 _ (List.mem_of_getElem? (i := 21) rfl)) (inr_41 _ (List.mem_of_getElem? (i := 22) rfl)) (inr_1 _ (List.mem_of_getElem? (i := 2) rfl)) (inr_41 _ (List.mem_of_getElem? (i := 23) rfl)) 1 (by decide +kernel) (by decide) (by decide) rfl rfl (Nat.le_of_ble_eq_true rfl) dL_law_600 603 rfl ?_
  refine l_aload_n C dL_law_603 rfl 2 rfl 604 rfl ?_
  refine l_aload_n C dL_law_604 rfl 0 rfl 605 rfl ?_
  refine l_iload_n C dL_law_605 rfl 3 rfl 606 rfl ?_
  refine l_iconst C (v := 1) dL_law_606 (by decide) 607 rfl ?_
  refine l_iadd C dL_law_607 608 rfl ?_
  refine l_sld C (j := 6 * t + 1) (nI_add (6 * t) 1) (by omega) (by omega) dL_law_608 609 rfl ?_
  refine l_callMi C (As := [.int (xs (6 * t + 1))]) (kX11_sure hm) (inr_42 _ (List.mem_of_getElem? (i := 6) rfl)) (inr_42 _ (List.mem_of_getElem? (i := 7) rfl)) (inr_42 _ (List.mem_of_getElem? (i := 8) rfl)) (inr_1 _ (List.mem_of_getElem? (i := 5) rfl)) (inr_42 _ (List.mem_of_getElem? (i := 9) rfl)) 1 (by decide +kernel) (by decide) (by decide) rfl rfl (Nat.le_of_ble_eq_true rfl) dL_law_609 612 rfl ?_
  exact l_icmp_eq C 817 dL_law_612 (by decide) 615 rfl (fun _ => K σ' τ' hR') (fun z => absurd rfl z)
set_option maxHeartbeats 4000000 in
set_option maxRecDepth 100000 in
theorem lc_step (C : CtxL p s m args meth c D ad bd cI cJ cB cZ b L xs) (hS : Sim Rel) (hL : L ≤ 3072) (ht : 6 * t + 6 ≤ L) (hR : Rel t σ τ) (K : ∀ σ' τ' : ST, Rel (t + 1) σ' τ' → GL p l e s m args below meth c Q D ad bd cI cJ cB cZ σ' τ' 817 ([(0, .ref b), (1, .ref (ad 0)), (2, .ref (bd 0)), (3, .int (nI (6 * t)))]) []) : GL p l e s m args below meth c Q D ad bd cI cJ cB cZ σ τ 617 ([(0, .ref b), (1, .ref (ad 0)), (2, .ref (bd 0)), (3, .int (nI (6 * t)))]) [] := by
  obtain ⟨r, σ', τ', hx, hm, hR'⟩ := hS.2.2.2.2.2.2.2.2.2.2.2.2.2.2.2.2.2.2.2.1 (xs (6 * t + 1)) (xs (6 * t + 2)) t σ τ (by omega) hR
  refine l_aload_n C dL_law_617 rfl 1 rfl 618 rfl ?_
  refine l_aload_n C dL_law_618 rfl 0 rfl 619 rfl ?_
  refine l_iload_n C dL_law_619 rfl 3 rfl 620 rfl ?_
  refine l_iconst C (v := 1) dL_law_620 (by decide) 621 rfl ?_
  refine l_iadd C dL_law_621 622 rfl ?_
  refine l_sld C (j := 6 * t + 1) (nI_add (6 * t) 1) (by omega) (by omega) dL_law_622 623 rfl ?_
  refine l_aload_n C dL_law_623 rfl 0 rfl 624 rfl ?_
  refine l_iload_n C dL_law_624 rfl 3 rfl 625 rfl ?_
  refine l_iconst C (v := 2) dL_law_625 (by decide) 626 rfl ?_
  refine l_iadd C dL_law_626 627 rfl ?_
  refine l_sld C (j := 6 * t + 2) (nI_add (6 * t) 2) (by omega) (by omega) dL_law_627 628 rfl ?_
  refine l_callXi C (As := [.int (xs (6 * t + 1)), .int (xs (6 * t + 2))]) (kX10_step hx) (inr_42 _ (List.mem_of_getElem? (i := 10) rfl)) (inr_42 _ (List.mem_of_getElem? (i := 11) rfl)) (inr_42 _ (List.mem_of_getElem? (i := 12) rfl)) (inr_1 _ (List.mem_of_getElem? (i := 2) rfl)) (inr_42 _ (List.mem_of_getElem? (i := 13) rfl)) 2 (by decide +kernel) (by decide) (by decide) rfl rfl (Nat.le_of_ble_eq_true rfl) dL_law_628 631 rfl ?_
  refine l_aload_n C dL_law_631 rfl 2 rfl 632 rfl ?_
  refine l_aload_n C dL_law_632 rfl 0 rfl 633 rfl ?_
  refine l_iload_n C dL_law_633 rfl 3 rfl 634 rfl ?_
  refine l_iconst C (v := 1) dL_law_634 (by decide) 635 rfl ?_
  refine l_iadd C dL_law_635 636 rfl ?_
  refine l_sld C (j := 6 * t + 1) (nI_add (6 * t) 1) (by omega) (by omega) dL_law_636 637 rfl ?_
  refine l_aload_n C dL_law_637 rfl 0 rfl 638 rfl ?_
  refine l_iload_n C dL_law_638 rfl 3 rfl 639 rfl ?_
  refine l_iconst C (v := 2) dL_law_639 (by decide) 640 rfl ?_
  refine l_iadd C dL_law_640 641 rfl ?_
  refine l_sld C (j := 6 * t + 2) (nI_add (6 * t) 2) (by omega) (by omega) dL_law_641 642 rfl ?_
  refine l_callMi C (As := [.int (xs (6 * t + 1)), .int (xs (6 * t + 2))]) (kX11_step hm) (inr_42 _ (List.mem_of_getElem? (i := 23) rfl)) (inr_43 _ (List.mem_of_getElem? (i := 0) rfl)) (inr_43 _ (List.mem_of_getElem? (i := 1) rfl)) (inr_1 _ (List.mem_of_getElem? (i := 5) rfl)) (inr_43 _ (List.mem_of_getElem? (i := 2) rfl)) 2 (by decide +kernel) (by decide) (by decide) rfl rfl (Nat.le_of_ble_eq_true rfl) dL_law_642 645 rfl ?_
  exact l_icmp_eq C 817 dL_law_645 (by decide) 648 rfl (fun _ => K σ' τ' hR') (fun z => absurd rfl z)
set_option maxHeartbeats 4000000 in
set_option maxRecDepth 100000 in
theorem lc_value (C : CtxL p s m args meth c D ad bd cI cJ cB cZ b L xs) (hS : Sim Rel) (hL : L ≤ 3072) (ht : 6 * t + 6 ≤ L) (hR : Rel t σ τ) (K : ∀ σ' τ' : ST, Rel (t + 1) σ' τ' → GL p l e s m args below meth c Q D ad bd cI cJ cB cZ σ' τ' 817 ([(0, .ref b), (1, .ref (ad 0)), (2, .ref (bd 0)), (3, .int (nI (6 * t)))]) []) : GL p l e s m args below meth c Q D ad bd cI cJ cB cZ σ τ 650 ([(0, .ref b), (1, .ref (ad 0)), (2, .ref (bd 0)), (3, .int (nI (6 * t)))]) [] := by
  obtain ⟨r, σ', τ', hx, hm, hR'⟩ := hS.2.2.2.2.2.2.2.2.2.2.2.2.2.2.2.2.2.2.2.2.1 (xs (6 * t + 1)) (xs (6 * t + 2)) t σ τ (by omega) hR
  refine l_aload_n C dL_law_650 rfl 1 rfl 651 rfl ?_
  refine l_aload_n C dL_law_651 rfl 0 rfl 652 rfl ?_
  refine l_iload_n C dL_law_652 rfl 3 rfl 653 rfl ?_
  refine l_iconst C (v := 1) dL_law_653 (by decide) 654 rfl ?_
  refine l_iadd C dL_law_654 655 rfl ?_
  refine l_sld C (j := 6 * t + 1) (nI_add (6 * t) 1) (by omega) (by omega) dL_law_655 656 rfl ?_
  refine l_aload_n C dL_law_656 rfl 0 rfl 657 rfl ?_
  refine l_iload_n C dL_law_657 rfl 3 rfl 658 rfl ?_
  refine l_iconst C (v := 2) dL_law_658 (by decide) 659 rfl ?_
  refine l_iadd C dL_law_659 660 rfl ?_
  refine l_sld C (j := 6 * t + 2) (nI_add (6 * t) 2) (by omega) (by omega) dL_law_660 661 rfl ?_
  refine l_callXl C (As := [.int (xs (6 * t + 1)), .int (xs (6 * t + 2))]) (kX10_value hx) (inr_43 _ (List.mem_of_getElem? (i := 3) rfl)) (inr_43 _ (List.mem_of_getElem? (i := 4) rfl)) (inr_43 _ (List.mem_of_getElem? (i := 5) rfl)) (inr_1 _ (List.mem_of_getElem? (i := 2) rfl)) (inr_43 _ (List.mem_of_getElem? (i := 6) rfl)) 2 (by decide +kernel) (by decide) (by decide) rfl rfl (Nat.le_of_ble_eq_true rfl) dL_law_661 664 rfl ?_
  refine l_aload_n C dL_law_664 rfl 2 rfl 665 rfl ?_
  refine l_aload_n C dL_law_665 rfl 0 rfl 666 rfl ?_
  refine l_iload_n C dL_law_666 rfl 3 rfl 667 rfl ?_
  refine l_iconst C (v := 1) dL_law_667 (by decide) 668 rfl ?_
  refine l_iadd C dL_law_668 669 rfl ?_
  refine l_sld C (j := 6 * t + 1) (nI_add (6 * t) 1) (by omega) (by omega) dL_law_669 670 rfl ?_
  refine l_aload_n C dL_law_670 rfl 0 rfl 671 rfl ?_
  refine l_iload_n C dL_law_671 rfl 3 rfl 672 rfl ?_
  refine l_iconst C (v := 2) dL_law_672 (by decide) 673 rfl ?_
  refine l_iadd C dL_law_673 674 rfl ?_
  refine l_sld C (j := 6 * t + 2) (nI_add (6 * t) 2) (by omega) (by omega) dL_law_674 675 rfl ?_
  refine l_callMl C (As := [.int (xs (6 * t + 1)), .int (xs (6 * t + 2))]) (kX11_value hm) (inr_43 _ (List.mem_of_getElem? (i := 9) rfl)) (inr_43 _ (List.mem_of_getElem? (i := 10) rfl)) (inr_43 _ (List.mem_of_getElem? (i := 11) rfl)) (inr_1 _ (List.mem_of_getElem? (i := 5) rfl)) (inr_43 _ (List.mem_of_getElem? (i := 12) rfl)) 2 (by decide +kernel) (by decide) (by decide) rfl rfl (Nat.le_of_ble_eq_true rfl) dL_law_675 678 rfl ?_
  refine l_lcmp C dL_law_678 679 rfl ?_
  refine l_eq0 C 817 dL_law_679 (by decide) 682 rfl (fun _ => K σ' τ' hR') (fun z => absurd (by simp [lg_cmp]) z)
set_option maxHeartbeats 4000000 in
set_option maxRecDepth 100000 in
theorem lc_sent (C : CtxL p s m args meth c D ad bd cI cJ cB cZ b L xs) (hS : Sim Rel) (hL : L ≤ 3072) (ht : 6 * t + 6 ≤ L) (hR : Rel t σ τ) (K : ∀ σ' τ' : ST, Rel (t + 1) σ' τ' → GL p l e s m args below meth c Q D ad bd cI cJ cB cZ σ' τ' 817 ([(0, .ref b), (1, .ref (ad 0)), (2, .ref (bd 0)), (3, .int (nI (6 * t)))]) []) : GL p l e s m args below meth c Q D ad bd cI cJ cB cZ σ τ 684 ([(0, .ref b), (1, .ref (ad 0)), (2, .ref (bd 0)), (3, .int (nI (6 * t)))]) [] := by
  obtain ⟨r, σ', τ', hx, hm, hR'⟩ := hS.2.2.2.2.2.2.2.2.2.2.2.2.2.2.2.2.2.2.2.2.2.1 (xs (6 * t + 1)) (xs (6 * t + 2)) (xs (6 * t + 3)) t σ τ (by omega) hR
  refine l_aload_n C dL_law_684 rfl 1 rfl 685 rfl ?_
  refine l_aload_n C dL_law_685 rfl 0 rfl 686 rfl ?_
  refine l_iload_n C dL_law_686 rfl 3 rfl 687 rfl ?_
  refine l_iconst C (v := 1) dL_law_687 (by decide) 688 rfl ?_
  refine l_iadd C dL_law_688 689 rfl ?_
  refine l_sld C (j := 6 * t + 1) (nI_add (6 * t) 1) (by omega) (by omega) dL_law_689 690 rfl ?_
  refine l_aload_n C dL_law_690 rfl 0 rfl 691 rfl ?_
  refine l_iload_n C dL_law_691 rfl 3 rfl 692 rfl ?_
  refine l_iconst C (v := 2) dL_law_692 (by decide) 693 rfl ?_
  refine l_iadd C dL_law_693 694 rfl ?_
  refine l_sld C (j := 6 * t + 2) (nI_add (6 * t) 2) (by omega) (by omega) dL_law_694 695 rfl ?_
  refine l_aload_n C dL_law_695 rfl 0 rfl 696 rfl ?_
  refine l_iload_n C dL_law_696 rfl 3 rfl 697 rfl ?_
  refine l_iconst C (v := 3) dL_law_697 (by decide) 698 rfl ?_
  refine l_iadd C dL_law_698 699 rfl ?_
  refine l_sld C (j := 6 * t + 3) (nI_add (6 * t) 3) (by omega) (by omega) dL_law_699 700 rfl ?_
  refine l_callXl C (As := [.int (xs (6 * t + 1)), .int (xs (6 * t + 2)), .int (xs (6 * t + 3))]) (kX10_sent hx) (inr_43 _ (List.mem_of_getElem? (i := 13) rfl)) (inr_43 _ (List.mem_of_getElem? (i := 14) rfl)) (inr_43 _ (List.mem_of_getElem? (i := 15) rfl)) (inr_1 _ (List.mem_of_getElem? (i := 2) rfl)) (inr_43 _ (List.mem_of_getElem? (i := 16) rfl)) 3 (by decide +kernel) (by decide) (by decide) rfl rfl (Nat.le_of_ble_eq_true rfl) dL_law_700 703 rfl ?_
  refine l_aload_n C dL_law_703 rfl 2 rfl 704 rfl ?_
  refine l_aload_n C dL_law_704 rfl 0 rfl 705 rfl ?_
  refine l_iload_n C dL_law_705 rfl 3 rfl 706 rfl ?_
  refine l_iconst C (v := 1) dL_law_706 (by decide) 707 rfl ?_
  refine l_iadd C dL_law_707 708 rfl ?_
  refine l_sld C (j := 6 * t + 1) (nI_add (6 * t) 1) (by omega) (by omega) dL_law_708 709 rfl ?_
  refine l_aload_n C dL_law_709 rfl 0 rfl 710 rfl ?_
  refine l_iload_n C dL_law_710 rfl 3 rfl 711 rfl ?_
  refine l_iconst C (v := 2) dL_law_711 (by decide) 712 rfl ?_
  refine l_iadd C dL_law_712 713 rfl ?_
  refine l_sld C (j := 6 * t + 2) (nI_add (6 * t) 2) (by omega) (by omega) dL_law_713 714 rfl ?_
  refine l_aload_n C dL_law_714 rfl 0 rfl 715 rfl ?_
  refine l_iload_n C dL_law_715 rfl 3 rfl 716 rfl ?_
  refine l_iconst C (v := 3) dL_law_716 (by decide) 717 rfl ?_
  refine l_iadd C dL_law_717 718 rfl ?_
  refine l_sld C (j := 6 * t + 3) (nI_add (6 * t) 3) (by omega) (by omega) dL_law_718 719 rfl ?_
  refine l_callMl C (As := [.int (xs (6 * t + 1)), .int (xs (6 * t + 2)), .int (xs (6 * t + 3))]) (kX11_sent hm) (inr_43 _ (List.mem_of_getElem? (i := 23) rfl)) (inr_44 _ (List.mem_of_getElem? (i := 0) rfl)) (inr_44 _ (List.mem_of_getElem? (i := 1) rfl)) (inr_1 _ (List.mem_of_getElem? (i := 5) rfl)) (inr_44 _ (List.mem_of_getElem? (i := 2) rfl)) 3 (by decide +kernel) (by decide) (by decide) rfl rfl (Nat.le_of_ble_eq_true rfl) dL_law_719 722 rfl ?_
  refine l_lcmp C dL_law_722 723 rfl ?_
  refine l_eq0 C 817 dL_law_723 (by decide) 726 rfl (fun _ => K σ' τ' hR') (fun z => absurd (by simp [lg_cmp]) z)
set_option maxHeartbeats 4000000 in
set_option maxRecDepth 100000 in
theorem lc_marks (C : CtxL p s m args meth c D ad bd cI cJ cB cZ b L xs) (hS : Sim Rel) (hL : L ≤ 3072) (ht : 6 * t + 6 ≤ L) (hR : Rel t σ τ) (K : ∀ σ' τ' : ST, Rel (t + 1) σ' τ' → GL p l e s m args below meth c Q D ad bd cI cJ cB cZ σ' τ' 817 ([(0, .ref b), (1, .ref (ad 0)), (2, .ref (bd 0)), (3, .int (nI (6 * t)))]) []) : GL p l e s m args below meth c Q D ad bd cI cJ cB cZ σ τ 728 ([(0, .ref b), (1, .ref (ad 0)), (2, .ref (bd 0)), (3, .int (nI (6 * t)))]) [] := by
  obtain ⟨r, σ', τ', hx, hm, hR'⟩ := hS.2.2.2.2.2.2.2.2.2.2.2.2.2.2.2.2.2.2.2.2.2.2.1 (xs (6 * t + 1)) (xs (6 * t + 2)) t σ τ (by omega) hR
  refine l_aload_n C dL_law_728 rfl 1 rfl 729 rfl ?_
  refine l_aload_n C dL_law_729 rfl 0 rfl 730 rfl ?_
  refine l_iload_n C dL_law_730 rfl 3 rfl 731 rfl ?_
  refine l_iconst C (v := 1) dL_law_731 (by decide) 732 rfl ?_
  refine l_iadd C dL_law_732 733 rfl ?_
  refine l_sld C (j := 6 * t + 1) (nI_add (6 * t) 1) (by omega) (by omega) dL_law_733 734 rfl ?_
  refine l_aload_n C dL_law_734 rfl 0 rfl 735 rfl ?_
  refine l_iload_n C dL_law_735 rfl 3 rfl 736 rfl ?_
  refine l_iconst C (v := 2) dL_law_736 (by decide) 737 rfl ?_
  refine l_iadd C dL_law_737 738 rfl ?_
  refine l_sld C (j := 6 * t + 2) (nI_add (6 * t) 2) (by omega) (by omega) dL_law_738 739 rfl ?_
  refine l_callXi C (As := [.int (xs (6 * t + 1)), .int (xs (6 * t + 2))]) (kX10_marks hx) (inr_44 _ (List.mem_of_getElem? (i := 3) rfl)) (inr_44 _ (List.mem_of_getElem? (i := 4) rfl)) (inr_44 _ (List.mem_of_getElem? (i := 5) rfl)) (inr_1 _ (List.mem_of_getElem? (i := 2) rfl)) (inr_44 _ (List.mem_of_getElem? (i := 6) rfl)) 2 (by decide +kernel) (by decide) (by decide) rfl rfl (Nat.le_of_ble_eq_true rfl) dL_law_739 742 rfl ?_
  refine l_aload_n C dL_law_742 rfl 2 rfl 743 rfl ?_
  refine l_aload_n C dL_law_743 rfl 0 rfl 744 rfl ?_
  refine l_iload_n C dL_law_744 rfl 3 rfl 745 rfl ?_
  refine l_iconst C (v := 1) dL_law_745 (by decide) 746 rfl ?_
  refine l_iadd C dL_law_746 747 rfl ?_
  refine l_sld C (j := 6 * t + 1) (nI_add (6 * t) 1) (by omega) (by omega) dL_law_747 748 rfl ?_
  refine l_aload_n C dL_law_748 rfl 0 rfl 749 rfl ?_
  refine l_iload_n C dL_law_749 rfl 3 rfl 750 rfl ?_
  refine l_iconst C (v := 2) dL_law_750 (by decide) 751 rfl ?_
  refine l_iadd C dL_law_751 752 rfl ?_
  refine l_sld C (j := 6 * t + 2) (nI_add (6 * t) 2) (by omega) (by omega) dL_law_752 753 rfl ?_
  refine l_callMi C (As := [.int (xs (6 * t + 1)), .int (xs (6 * t + 2))]) (kX11_marks hm) (inr_44 _ (List.mem_of_getElem? (i := 8) rfl)) (inr_44 _ (List.mem_of_getElem? (i := 9) rfl)) (inr_44 _ (List.mem_of_getElem? (i := 10) rfl)) (inr_1 _ (List.mem_of_getElem? (i := 5) rfl)) (inr_44 _ (List.mem_of_getElem? (i := 11) rfl)) 2 (by decide +kernel) (by decide) (by decide) rfl rfl (Nat.le_of_ble_eq_true rfl) dL_law_753 756 rfl ?_
  exact l_icmp_eq C 817 dL_law_756 (by decide) 759 rfl (fun _ => K σ' τ' hR') (fun z => absurd rfl z)
set_option maxHeartbeats 4000000 in
set_option maxRecDepth 100000 in
theorem lc_table (C : CtxL p s m args meth c D ad bd cI cJ cB cZ b L xs) (hS : Sim Rel) (hL : L ≤ 3072) (ht : 6 * t + 6 ≤ L) (hR : Rel t σ τ) (K : ∀ σ' τ' : ST, Rel (t + 1) σ' τ' → GL p l e s m args below meth c Q D ad bd cI cJ cB cZ σ' τ' 817 ([(0, .ref b), (1, .ref (ad 0)), (2, .ref (bd 0)), (3, .int (nI (6 * t)))]) []) : GL p l e s m args below meth c Q D ad bd cI cJ cB cZ σ τ 761 ([(0, .ref b), (1, .ref (ad 0)), (2, .ref (bd 0)), (3, .int (nI (6 * t)))]) [] := by
  obtain ⟨r, σ', τ', hx, hm, hR'⟩ := hS.2.2.2.2.2.2.2.2.2.2.2.2.2.2.2.2.2.2.2.2.2.2.2.1 (xs (6 * t + 1)) (xs (6 * t + 2)) t σ τ (by omega) hR
  refine l_aload_n C dL_law_761 rfl 1 rfl 762 rfl ?_
  refine l_aload_n C dL_law_762 rfl 0 rfl 763 rfl ?_
  refine l_iload_n C dL_law_763 rfl 3 rfl 764 rfl ?_
  refine l_iconst C (v := 1) dL_law_764 (by decide) 765 rfl ?_
  refine l_iadd C dL_law_765 766 rfl ?_
  refine l_sld C (j := 6 * t + 1) (nI_add (6 * t) 1) (by omega) (by omega) dL_law_766 767 rfl ?_
  refine l_aload_n C dL_law_767 rfl 0 rfl 768 rfl ?_
  refine l_iload_n C dL_law_768 rfl 3 rfl 769 rfl ?_
  refine l_iconst C (v := 2) dL_law_769 (by decide) 770 rfl ?_
  refine l_iadd C dL_law_770 771 rfl ?_
  refine l_sld C (j := 6 * t + 2) (nI_add (6 * t) 2) (by omega) (by omega) dL_law_771 772 rfl ?_
  refine l_callXi C (As := [.int (xs (6 * t + 1)), .int (xs (6 * t + 2))]) (kX10_table hx) (inr_44 _ (List.mem_of_getElem? (i := 12) rfl)) (inr_44 _ (List.mem_of_getElem? (i := 13) rfl)) (inr_44 _ (List.mem_of_getElem? (i := 14) rfl)) (inr_1 _ (List.mem_of_getElem? (i := 2) rfl)) (inr_44 _ (List.mem_of_getElem? (i := 15) rfl)) 2 (by decide +kernel) (by decide) (by decide) rfl rfl (Nat.le_of_ble_eq_true rfl) dL_law_772 775 rfl ?_
  refine l_aload_n C dL_law_775 rfl 2 rfl 776 rfl ?_
  refine l_aload_n C dL_law_776 rfl 0 rfl 777 rfl ?_
  refine l_iload_n C dL_law_777 rfl 3 rfl 778 rfl ?_
  refine l_iconst C (v := 1) dL_law_778 (by decide) 779 rfl ?_
  refine l_iadd C dL_law_779 780 rfl ?_
  refine l_sld C (j := 6 * t + 1) (nI_add (6 * t) 1) (by omega) (by omega) dL_law_780 781 rfl ?_
  refine l_aload_n C dL_law_781 rfl 0 rfl 782 rfl ?_
  refine l_iload_n C dL_law_782 rfl 3 rfl 783 rfl ?_
  refine l_iconst C (v := 2) dL_law_783 (by decide) 784 rfl ?_
  refine l_iadd C dL_law_784 785 rfl ?_
  refine l_sld C (j := 6 * t + 2) (nI_add (6 * t) 2) (by omega) (by omega) dL_law_785 786 rfl ?_
  refine l_callMi C (As := [.int (xs (6 * t + 1)), .int (xs (6 * t + 2))]) (kX11_table hm) (inr_44 _ (List.mem_of_getElem? (i := 18) rfl)) (inr_44 _ (List.mem_of_getElem? (i := 19) rfl)) (inr_44 _ (List.mem_of_getElem? (i := 20) rfl)) (inr_1 _ (List.mem_of_getElem? (i := 5) rfl)) (inr_44 _ (List.mem_of_getElem? (i := 21) rfl)) 2 (by decide +kernel) (by decide) (by decide) rfl rfl (Nat.le_of_ble_eq_true rfl) dL_law_786 789 rfl ?_
  exact l_icmp_eq C 817 dL_law_789 (by decide) 792 rfl (fun _ => K σ' τ' hR') (fun z => absurd rfl z)
set_option maxHeartbeats 4000000 in
set_option maxRecDepth 100000 in
theorem lc_count (C : CtxL p s m args meth c D ad bd cI cJ cB cZ b L xs) (hS : Sim Rel) (hL : L ≤ 3072) (ht : 6 * t + 6 ≤ L) (hR : Rel t σ τ) (K : ∀ σ' τ' : ST, Rel (t + 1) σ' τ' → GL p l e s m args below meth c Q D ad bd cI cJ cB cZ σ' τ' 817 ([(0, .ref b), (1, .ref (ad 0)), (2, .ref (bd 0)), (3, .int (nI (6 * t)))]) []) : GL p l e s m args below meth c Q D ad bd cI cJ cB cZ σ τ 794 ([(0, .ref b), (1, .ref (ad 0)), (2, .ref (bd 0)), (3, .int (nI (6 * t)))]) [] := by
  obtain ⟨r, σ', τ', hx, hm, hR'⟩ := hS.2.2.2.2.2.2.2.2.2.2.2.2.2.2.2.2.2.2.2.2.2.2.2.2 (xs (6 * t + 1)) t σ τ (by omega) hR
  refine l_aload_n C dL_law_794 rfl 1 rfl 795 rfl ?_
  refine l_aload_n C dL_law_795 rfl 0 rfl 796 rfl ?_
  refine l_iload_n C dL_law_796 rfl 3 rfl 797 rfl ?_
  refine l_iconst C (v := 1) dL_law_797 (by decide) 798 rfl ?_
  refine l_iadd C dL_law_798 799 rfl ?_
  refine l_sld C (j := 6 * t + 1) (nI_add (6 * t) 1) (by omega) (by omega) dL_law_799 800 rfl ?_
  refine l_callXi C (As := [.int (xs (6 * t + 1))]) (kX10_count hx) (inr_44 _ (List.mem_of_getElem? (i := 22) rfl)) (inr_44 _ (List.mem_of_getElem? (i := 23) rfl)) (inr_45 _ (List.mem_of_getElem? (i := 0) rfl)) (inr_1 _ (List.mem_of_getElem? (i := 2) rfl)) (inr_45 _ (List.mem_of_getElem? (i := 1) rfl)) 1 (by decide +kernel) (by decide) (by decide) rfl rfl (Nat.le_of_ble_eq_true rfl) dL_law_800 803 rfl ?_
  refine l_aload_n C dL_law_803 rfl 2 rfl 804 rfl ?_
  refine l_aload_n C dL_law_804 rfl 0 rfl 805 rfl ?_
  refine l_iload_n C dL_law_805 rfl 3 rfl 806 rfl ?_
  refine l_iconst C (v := 1) dL_law_806 (by decide) 807 rfl ?_
  refine l_iadd C dL_law_807 808 rfl ?_
  refine l_sld C (j := 6 * t + 1) (nI_add (6 * t) 1) (by omega) (by omega) dL_law_808 809 rfl ?_
  refine l_callMi C (As := [.int (xs (6 * t + 1))]) (kX11_count hm) (inr_45 _ (List.mem_of_getElem? (i := 5) rfl)) (inr_45 _ (List.mem_of_getElem? (i := 6) rfl)) (inr_45 _ (List.mem_of_getElem? (i := 7) rfl)) (inr_1 _ (List.mem_of_getElem? (i := 5) rfl)) (inr_45 _ (List.mem_of_getElem? (i := 8) rfl)) 1 (by decide +kernel) (by decide) (by decide) rfl rfl (Nat.le_of_ble_eq_true rfl) dL_law_809 812 rfl ?_
  exact l_icmp_eq C 817 dL_law_812 (by decide) 815 rfl (fun _ => K σ' τ' hR') (fun z => absurd rfl z)
theorem lw_gt {L t : Nat} (hL : L ≤ 3072) (ht : 6 * t ≤ 4000) : (nI L - 6 < nI (6 * t)) ↔ L < 6 * t + 6 := by
  rw [Int32.lt_iff_toInt_lt, show (6 : Int32) = nI 6 from rfl, pk_sub_toInt (by omega) (by omega), nI_toInt (by omega)]
  omega
set_option maxHeartbeats 4000000 in
set_option maxRecDepth 100000 in
theorem law_body (C : CtxL p s m args meth c D ad bd cI cJ cB cZ b L xs) (hS : Sim Rel) (hL : L ≤ 3072) (ht : 6 * t + 6 ≤ L) (hR : Rel t σ τ) (K : ∀ σ' τ' : ST, Rel (t + 1) σ' τ' → GL p l e s m args below meth c Q D ad bd cI cJ cB cZ σ' τ' 817 ([(0, .ref b), (1, .ref (ad 0)), (2, .ref (bd 0)), (3, .int (nI (6 * t)))]) []) : GL p l e s m args below meth c Q D ad bd cI cJ cB cZ σ τ 27 ([(0, .ref b), (1, .ref (ad 0)), (2, .ref (bd 0)), (3, .int (nI (6 * t)))]) [] := by
  refine l_aload_n C dL_law_27 rfl 0 rfl 28 rfl ?_
  refine l_iload_n C dL_law_28 rfl 3 rfl 29 rfl ?_
  refine l_sld C (j := 6 * t) rfl (by omega) (by omega) dL_law_29 30 rfl ?_
  refine l_bipush C (v := 31) dL_law_30 (by decide) 32 rfl ?_
  refine l_iand C dL_law_32 33 rfl ?_
  by_cases c0 : xs (6 * t) &&& 31 = 0
  · exact l_tabIn C (off := 107) 140 dL_law_33 (by rw [c0]; decide) (by rw [c0]; decide) (by rw [c0]; decide) (by decide) (lc_feed C hS hL ht hR K)
  by_cases c1 : xs (6 * t) &&& 31 = 1
  · exact l_tabIn C (off := 170) 203 dL_law_33 (by rw [c1]; decide) (by rw [c1]; decide) (by rw [c1]; decide) (by decide) (lc_back C hS hL ht hR K)
  by_cases c2 : xs (6 * t) &&& 31 = 2
  · exact l_tabIn C (off := 193) 226 dL_law_33 (by rw [c2]; decide) (by rw [c2]; decide) (by rw [c2]; decide) (by decide) (lc_read C hS hL ht hR K)
  by_cases c3 : xs (6 * t) &&& 31 = 3
  · exact l_tabIn C (off := 206) 239 dL_law_33 (by rw [c3]; decide) (by rw [c3]; decide) (by rw [c3]; decide) (by decide) (lc_place C hS hL ht hR K)
  by_cases c4 : xs (6 * t) &&& 31 = 4
  · exact l_tabIn C (off := 219) 252 dL_law_33 (by rw [c4]; decide) (by rw [c4]; decide) (by rw [c4]; decide) (by decide) (lc_span C hS hL ht hR K)
  by_cases c5 : xs (6 * t) &&& 31 = 5
  · exact l_tabIn C (off := 262) 295 dL_law_33 (by rw [c5]; decide) (by rw [c5]; decide) (by rw [c5]; decide) (by decide) (lc_row C hS hL ht hR K)
  by_cases c6 : xs (6 * t) &&& 31 = 6
  · exact l_tabIn C (off := 305) 338 dL_law_33 (by rw [c6]; decide) (by rw [c6]; decide) (by rw [c6]; decide) (by decide) (lc_land C hS hL ht hR K)
  by_cases c7 : xs (6 * t) &&& 31 = 7
  · exact l_tabIn C (off := 328) 361 dL_law_33 (by rw [c7]; decide) (by rw [c7]; decide) (by rw [c7]; decide) (by decide) (lc_reader C hS hL ht hR K)
  by_cases c8 : xs (6 * t) &&& 31 = 8
  · exact l_tabIn C (off := 351) 384 dL_law_33 (by rw [c8]; decide) (by rw [c8]; decide) (by rw [c8]; decide) (by decide) (lc_rights C hS hL ht hR K)
  by_cases c9 : xs (6 * t) &&& 31 = 9
  · exact l_tabIn C (off := 384) 417 dL_law_33 (by rw [c9]; decide) (by rw [c9]; decide) (by rw [c9]; decide) (by decide) (lc_hold C hS hL ht hR K)
  by_cases c10 : xs (6 * t) &&& 31 = 10
  · exact l_tabIn C (off := 433) 466 dL_law_33 (by rw [c10]; decide) (by rw [c10]; decide) (by rw [c10]; decide) (by decide) (lc_reads C hS hL ht hR K)
  by_cases c11 : xs (6 * t) &&& 31 = 11
  · exact l_tabIn C (off := 466) 499 dL_law_33 (by rw [c11]; decide) (by rw [c11]; decide) (by rw [c11]; decide) (by decide) (lc_hosts C hS hL ht hR K)
  by_cases c12 : xs (6 * t) &&& 31 = 12
  · exact l_tabIn C (off := 489) 522 dL_law_33 (by rw [c12]; decide) (by rw [c12]; decide) (by rw [c12]; decide) (by decide) (lc_tick C hS hL ht hR K)
  by_cases c13 : xs (6 * t) &&& 31 = 13
  · exact l_tabIn C (off := 502) 535 dL_law_33 (by rw [c13]; decide) (by rw [c13]; decide) (by rw [c13]; decide) (by decide) (lc_plan C hS hL ht hR K)
  by_cases c14 : xs (6 * t) &&& 31 = 14
  · exact l_tabIn C (off := 515) 548 dL_law_33 (by rw [c14]; decide) (by rw [c14]; decide) (by rw [c14]; decide) (by decide) (lc_order C hS hL ht hR K)
  by_cases c15 : xs (6 * t) &&& 31 = 15
  · exact l_tabIn C (off := 538) 571 dL_law_33 (by rw [c15]; decide) (by rw [c15]; decide) (by rw [c15]; decide) (by decide) (lc_foreseen C hS hL ht hR K)
  by_cases c16 : xs (6 * t) &&& 31 = 16
  · exact l_tabIn C (off := 561) 594 dL_law_33 (by rw [c16]; decide) (by rw [c16]; decide) (by rw [c16]; decide) (by decide) (lc_sure C hS hL ht hR K)
  by_cases c17 : xs (6 * t) &&& 31 = 17
  · exact l_tabIn C (off := 584) 617 dL_law_33 (by rw [c17]; decide) (by rw [c17]; decide) (by rw [c17]; decide) (by decide) (lc_step C hS hL ht hR K)
  by_cases c18 : xs (6 * t) &&& 31 = 18
  · exact l_tabIn C (off := 617) 650 dL_law_33 (by rw [c18]; decide) (by rw [c18]; decide) (by rw [c18]; decide) (by decide) (lc_value C hS hL ht hR K)
  by_cases c19 : xs (6 * t) &&& 31 = 19
  · exact l_tabIn C (off := 651) 684 dL_law_33 (by rw [c19]; decide) (by rw [c19]; decide) (by rw [c19]; decide) (by decide) (lc_sent C hS hL ht hR K)
  by_cases c20 : xs (6 * t) &&& 31 = 20
  · exact l_tabIn C (off := 695) 728 dL_law_33 (by rw [c20]; decide) (by rw [c20]; decide) (by rw [c20]; decide) (by decide) (lc_marks C hS hL ht hR K)
  by_cases c21 : xs (6 * t) &&& 31 = 21
  · exact l_tabIn C (off := 728) 761 dL_law_33 (by rw [c21]; decide) (by rw [c21]; decide) (by rw [c21]; decide) (by decide) (lc_table C hS hL ht hR K)
  by_cases c22 : xs (6 * t) &&& 31 = 22
  · exact l_tabIn C (off := 761) 794 dL_law_33 (by rw [c22]; decide) (by rw [c22]; decide) (by rw [c22]; decide) (by decide) (lc_count C hS hL ht hR K)
  exact l_tabOut C 817 dL_law_33 (by have z0 := lv_neT c0 (a := 0) (by decide); have z1 := lv_neT c1 (a := 1) (by decide); have z2 := lv_neT c2 (a := 2) (by decide); have z3 := lv_neT c3 (a := 3) (by decide); have z4 := lv_neT c4 (a := 4) (by decide); have z5 := lv_neT c5 (a := 5) (by decide); have z6 := lv_neT c6 (a := 6) (by decide); have z7 := lv_neT c7 (a := 7) (by decide); have z8 := lv_neT c8 (a := 8) (by decide); have z9 := lv_neT c9 (a := 9) (by decide); have z10 := lv_neT c10 (a := 10) (by decide); have z11 := lv_neT c11 (a := 11) (by decide); have z12 := lv_neT c12 (a := 12) (by decide); have z13 := lv_neT c13 (a := 13) (by decide); have z14 := lv_neT c14 (a := 14) (by decide); have z15 := lv_neT c15 (a := 15) (by decide); have z16 := lv_neT c16 (a := 16) (by decide); have z17 := lv_neT c17 (a := 17) (by decide); have z18 := lv_neT c18 (a := 18) (by decide); have z19 := lv_neT c19 (a := 19) (by decide); have z20 := lv_neT c20 (a := 20) (by decide); have z21 := lv_neT c21 (a := 21) (by decide); have z22 := lv_neT c22 (a := 22) (by decide); omega) (by decide) (K σ τ (hS.2.1 t σ τ hR))
set_option maxHeartbeats 4000000 in
set_option maxRecDepth 100000 in
theorem law_loop (C : CtxL p s m args meth c D ad bd cI cJ cB cZ b L xs) (hS : Sim Rel) (hL : L ≤ 3072) (kexit : ∀ (σ τ : ST) (t : Nat), GL p l e s m args below meth c Q D ad bd cI cJ cB cZ σ τ 823 ([(0, .ref b), (1, .ref (ad 0)), (2, .ref (bd 0)), (3, .int (nI (6 * t)))]) []) : ∀ (n t : Nat) (σ τ : ST), Rel t σ τ → 6 * t ≤ L + 6 → L ≤ 6 * t + 6 * n → GL p l e s m args below meth c Q D ad bd cI cJ cB cZ σ τ 18 ([(0, .ref b), (1, .ref (ad 0)), (2, .ref (bd 0)), (3, .int (nI (6 * t)))]) [] := by
  intro n
  induction n with
  | zero =>
    intro t σ τ hR h1 h2
    refine l_iload_n C dL_law_18 rfl 3 rfl 19 rfl ?_
    refine l_aload_n C dL_law_19 rfl 0 rfl 20 rfl ?_
    refine l_slen C dL_law_20 rfl 21 rfl ?_
    refine l_bipush C (v := 6) dL_law_21 (by decide) 23 rfl ?_
    refine l_isub C dL_law_23 24 rfl ?_
    refine l_icmp_gt C 823 dL_law_24 (by decide) 27 rfl (fun _ => kexit σ τ t) (fun z => absurd ((lw_gt hL (by omega)).mpr (by omega)) z)
  | succ n ih =>
    intro t σ τ hR h1 h2
    refine l_iload_n C dL_law_18 rfl 3 rfl 19 rfl ?_
    refine l_aload_n C dL_law_19 rfl 0 rfl 20 rfl ?_
    refine l_slen C dL_law_20 rfl 21 rfl ?_
    refine l_bipush C (v := 6) dL_law_21 (by decide) 23 rfl ?_
    refine l_isub C dL_law_23 24 rfl ?_
    refine l_icmp_gt C 823 dL_law_24 (by decide) 27 rfl (fun _ => kexit σ τ t) (fun z => ?_)
    have h3 : 6 * t + 6 ≤ L := by
      rcases Nat.lt_or_ge L (6 * t + 6) with q | q
      · exact absurd ((lw_gt hL (by omega)).mpr q) z
      · exact q
    refine law_body C hS hL h3 hR (fun σ' τ' hR' => ?_)
    refine l_iinc C (v := nI (6 * (t + 1))) (lv' := [(3, .int (nI (6 * (t + 1)))), (0, .ref b), (1, .ref (ad 0)), (2, .ref (bd 0))]) dL_law_817 3 rfl (nI_add (6 * t) 6) (by decide) rfl 820 rfl ?_
    refine l_goto C 18 dL_law_820 (by decide) ?_
    exact l_sub C [1, 2, 3, 0] rfl (ih (t + 1) σ' τ' hR' (by omega) (by omega))
end LC
