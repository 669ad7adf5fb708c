theorem dL_188 : decode code 188 = .ok (.aload_n 1, 1) := by decide +kernel
theorem dL_189 : decode code 189 = .ok (.aload_n 0, 1) := by decide +kernel
theorem dL_190 : decode code 190 = .ok (.iload_n 3, 1) := by decide +kernel
theorem dL_191 : decode code 191 = .ok (.iconst 1, 1) := by decide +kernel
theorem dL_192 : decode code 192 = .ok (.iadd, 1) := by decide +kernel
theorem dL_193 : decode code 193 = .ok (.iaload, 1) := by decide +kernel
theorem dL_194 : decode code 194 = .ok (.aload_n 0, 1) := by decide +kernel
theorem dL_195 : decode code 195 = .ok (.iload_n 3, 1) := by decide +kernel
theorem dL_196 : decode code 196 = .ok (.iconst 2, 1) := by decide +kernel
theorem dL_197 : decode code 197 = .ok (.iadd, 1) := by decide +kernel
theorem dL_198 : decode code 198 = .ok (.iaload, 1) := by decide +kernel
theorem dL_199 : decode code 199 = .ok (.aload_n 0, 1) := by decide +kernel
theorem dL_200 : decode code 200 = .ok (.iload_n 3, 1) := by decide +kernel
theorem dL_201 : decode code 201 = .ok (.iconst 3, 1) := by decide +kernel
theorem dL_202 : decode code 202 = .ok (.iadd, 1) := by decide +kernel
theorem dL_203 : decode code 203 = .ok (.iaload, 1) := by decide +kernel
theorem dL_204 : decode code 204 = .ok (.aload_n 0, 1) := by decide +kernel
theorem dL_205 : decode code 205 = .ok (.iload_n 3, 1) := by decide +kernel
theorem dL_206 : decode code 206 = .ok (.iconst 4, 1) := by decide +kernel
theorem dL_207 : decode code 207 = .ok (.iadd, 1) := by decide +kernel
theorem dL_208 : decode code 208 = .ok (.iaload, 1) := by decide +kernel
theorem dL_209 : decode code 209 = .ok (.aload_n 0, 1) := by decide +kernel
theorem dL_210 : decode code 210 = .ok (.iload_n 3, 1) := by decide +kernel
theorem dL_211 : decode code 211 = .ok (.iconst 5, 1) := by decide +kernel
theorem dL_212 : decode code 212 = .ok (.iadd, 1) := by decide +kernel
theorem dL_213 : decode code 213 = .ok (.iaload, 1) := by decide +kernel
theorem dL_214 : decode code 214 = .ok (.invokevirtual 13, 3) := by decide +kernel
theorem dL_217 : decode code 217 = .ok (.aload_n 2, 1) := by decide +kernel
theorem dL_218 : decode code 218 = .ok (.aload_n 0, 1) := by decide +kernel
theorem dL_219 : decode code 219 = .ok (.iload_n 3, 1) := by decide +kernel
theorem dL_220 : decode code 220 = .ok (.iconst 1, 1) := by decide +kernel
theorem dL_221 : decode code 221 = .ok (.iadd, 1) := by decide +kernel
theorem dL_222 : decode code 222 = .ok (.iaload, 1) := by decide +kernel
theorem dL_223 : decode code 223 = .ok (.aload_n 0, 1) := by decide +kernel
theorem dL_224 : decode code 224 = .ok (.iload_n 3, 1) := by decide +kernel
theorem dL_225 : decode code 225 = .ok (.iconst 2, 1) := by decide +kernel
theorem dL_226 : decode code 226 = .ok (.iadd, 1) := by decide +kernel
theorem dL_227 : decode code 227 = .ok (.iaload, 1) := by decide +kernel
theorem dL_228 : decode code 228 = .ok (.aload_n 0, 1) := by decide +kernel
theorem dL_229 : decode code 229 = .ok (.iload_n 3, 1) := by decide +kernel
theorem dL_230 : decode code 230 = .ok (.iconst 3, 1) := by decide +kernel
theorem dL_231 : decode code 231 = .ok (.iadd, 1) := by decide +kernel
theorem dL_232 : decode code 232 = .ok (.iaload, 1) := by decide +kernel
theorem dL_233 : decode code 233 = .ok (.aload_n 0, 1) := by decide +kernel
theorem dL_234 : decode code 234 = .ok (.iload_n 3, 1) := by decide +kernel
theorem dL_235 : decode code 235 = .ok (.iconst 4, 1) := by decide +kernel
theorem dL_236 : decode code 236 = .ok (.iadd, 1) := by decide +kernel
theorem dL_237 : decode code 237 = .ok (.iaload, 1) := by decide +kernel
theorem dL_238 : decode code 238 = .ok (.aload_n 0, 1) := by decide +kernel
theorem dL_239 : decode code 239 = .ok (.iload_n 3, 1) := by decide +kernel
theorem dL_240 : decode code 240 = .ok (.iconst 5, 1) := by decide +kernel
theorem dL_241 : decode code 241 = .ok (.iadd, 1) := by decide +kernel
theorem dL_242 : decode code 242 = .ok (.iaload, 1) := by decide +kernel
theorem dL_243 : decode code 243 = .ok (.invokevirtual 17, 3) := by decide +kernel
theorem dL_246 : decode code 246 = .ok (.if_icmp .eq 1309, 3) := by decide +kernel
theorem ml_L_13 : Cond.methodLink R_law 13 yX11_feed ∈ AW := (aw_m2 199 (by decide +kernel) rfl)
theorem ml_L_17 : Cond.methodLink R_law 17 yX12_feed ∈ AW := (aw_m6 75 (by decide +kernel) rfl)
set_option maxHeartbeats 4000000 in
set_option maxRecDepth 100000 in
theorem lc_0 {p : Program} {l : Launch} {e : Env} {s : State} {m : MethodId} {below : List Frame} {meth : Method} {c : Code} {H : Heap} {locs : List Loc} {cells slots : Nat} {Q : State → Prop} {g : zG} {h : HF} {ls : Array Slot} {b L : Nat} {xs : Nat → Int32} {F : Nat} {Inv : HF → Prop} (hS : PS_feed F Inv) (lx : Lx p s m meth c b L xs g) (hcs : cells ≤ room_1.cells ∧ slots ≤ room_1.slots) {x : Int} (hx : 0 ≤ x ∧ x + 6 ≤ (L : Int)) (hI : Inv h) (hp : Hp g s.heap.size s h H locs) (hl : lv_has ls 4 [(0, .ref b), (1, .ref (s.heap.size + 0)), (2, .ref (s.heap.size + 181)), (3, .int (ii x))]) (kk : ∀ (h : HF) (H : Heap) (locs : List Loc), Inv h → Hp g s.heap.size s h H locs → W p l e room_1 s m #[Value.ref b] below meth c H locs cells slots Q (F0 m 1555 ls [])) : W p l e room_1 s m #[Value.ref b] below meth c H locs cells slots Q (F0 m 188 ls []) := by
  have cx := lx.1
  obtain ⟨s1, e1⟩ : ∃ z, z = (xs (x + 1).toNat).toInt := ⟨_, rfl⟩
  have rs1 : rng s1 := by rw [e1]; exact rng_ti _
  obtain ⟨s2, e2⟩ : ∃ z, z = (xs (x + 2).toNat).toInt := ⟨_, rfl⟩
  have rs2 : rng s2 := by rw [e2]; exact rng_ti _
  obtain ⟨s3, e3⟩ : ∃ z, z = (xs (x + 3).toNat).toInt := ⟨_, rfl⟩
  have rs3 : rng s3 := by rw [e3]; exact rng_ti _
  obtain ⟨s4, e4⟩ : ∃ z, z = (xs (x + 4).toNat).toInt := ⟨_, rfl⟩
  have rs4 : rng s4 := by rw [e4]; exact rng_ti _
  obtain ⟨s5, e5⟩ : ∃ z, z = (xs (x + 5).toNat).toInt := ⟨_, rfl⟩
  have rs5 : rng s5 := by rw [e5]; exact rng_ti _
  obtain ⟨r, h1, h2, f1, f2, hI2⟩ := hS h s1 s2 s3 s4 s5 hI rs1 rs2 rs3 rs4 rs5
  refine lv_aload_n cx.1 cx.2.1 dL_188 rfl (lv_at hl 1 rfl) ?_
  refine l_arg lx hp hl (j := 1) ⟨by omega, by omega⟩ dL_189 dL_190 dL_191 dL_192 dL_193 ?_
  rw [← e1]
  refine l_arg lx hp hl (j := 2) ⟨by omega, by omega⟩ dL_194 dL_195 dL_196 dL_197 dL_198 ?_
  rw [← e2]
  refine l_arg lx hp hl (j := 3) ⟨by omega, by omega⟩ dL_199 dL_200 dL_201 dL_202 dL_203 ?_
  rw [← e3]
  refine l_arg lx hp hl (j := 4) ⟨by omega, by omega⟩ dL_204 dL_205 dL_206 dL_207 dL_208 ?_
  rw [← e4]
  refine l_arg lx hp hl (j := 5) ⟨by omega, by omega⟩ dL_209 dL_210 dL_211 dL_212 dL_213 ?_
  rw [← e5]
  refine l_call (As := [.int (ii s1), .int (ii s2), .int (ii s3), .int (ii s4), .int (ii s5)]) (rest := []) cx hp (mX11_feed F l g s.heap.size h 0 s1 s2 s3 s4 s5 (by decide) rs1 rs2 rs3 rs4 rs5) 11 (by decide) (by decide) rfl vw_X11_feed ml_L_13 ⟨by decide, by decide⟩ hcs rfl hl.1 rfl (Nat.le_of_ble_eq_true rfl) dL_214 f1 (fun H locs rr hp => ?_)
  refine lv_aload_n cx.1 cx.2.1 dL_217 rfl (lv_at hl 2 rfl) ?_
  refine l_arg lx hp hl (j := 1) ⟨by omega, by omega⟩ dL_218 dL_219 dL_220 dL_221 dL_222 ?_
  rw [← e1]
  refine l_arg lx hp hl (j := 2) ⟨by omega, by omega⟩ dL_223 dL_224 dL_225 dL_226 dL_227 ?_
  rw [← e2]
  refine l_arg lx hp hl (j := 3) ⟨by omega, by omega⟩ dL_228 dL_229 dL_230 dL_231 dL_232 ?_
  rw [← e3]
  refine l_arg lx hp hl (j := 4) ⟨by omega, by omega⟩ dL_233 dL_234 dL_235 dL_236 dL_237 ?_
  rw [← e4]
  refine l_arg lx hp hl (j := 5) ⟨by omega, by omega⟩ dL_238 dL_239 dL_240 dL_241 dL_242 ?_
  rw [← e5]
  refine l_call (As := [.int (ii s1), .int (ii s2), .int (ii s3), .int (ii s4), .int (ii s5)]) (rest := [.int (ii r)]) cx hp (mX12_feed F l g s.heap.size h1 181 s1 s2 s3 s4 s5 (by decide) rs1 rs2 rs3 rs4 rs5) 12 (by decide) (by decide) rfl vw_X12_feed ml_L_17 ⟨by decide, by decide⟩ hcs rfl hl.1 rfl (Nat.le_of_ble_eq_true rfl) dL_243 f2 (fun H locs rr hp => ?_)
  refine lv_icmp_eq (tgt := 1555) cx.1 cx.2.1 dL_246 (by decide) (fun _ => ?_) (fun q => absurd rfl q)
  exact kk h2 _ _ hI2 hp
theorem dL_251 : decode code 251 = .ok (.aload_n 1, 1) := by decide +kernel
theorem dL_252 : decode code 252 = .ok (.aload_n 0, 1) := by decide +kernel
theorem dL_253 : decode code 253 = .ok (.iload_n 3, 1) := by decide +kernel
theorem dL_254 : decode code 254 = .ok (.iconst 1, 1) := by decide +kernel
theorem dL_255 : decode code 255 = .ok (.iadd, 1) := by decide +kernel
theorem dL_256 : decode code 256 = .ok (.iaload, 1) := by decide +kernel
theorem dL_257 : decode code 257 = .ok (.invokevirtual 18, 3) := by decide +kernel
theorem dL_260 : decode code 260 = .ok (.aload_n 2, 1) := by decide +kernel
theorem dL_261 : decode code 261 = .ok (.aload_n 0, 1) := by decide +kernel
theorem dL_262 : decode code 262 = .ok (.iload_n 3, 1) := by decide +kernel
theorem dL_263 : decode code 263 = .ok (.iconst 1, 1) := by decide +kernel
theorem dL_264 : decode code 264 = .ok (.iadd, 1) := by decide +kernel
theorem dL_265 : decode code 265 = .ok (.iaload, 1) := by decide +kernel
theorem dL_266 : decode code 266 = .ok (.invokevirtual 22, 3) := by decide +kernel
theorem dL_269 : decode code 269 = .ok (.if_icmp .eq 1286, 3) := by decide +kernel
theorem ml_L_18 : Cond.methodLink R_law 18 yX11_trim ∈ AW := (aw_m2 216 (by decide +kernel) rfl)
theorem ml_L_22 : Cond.methodLink R_law 22 yX12_trim ∈ AW := (aw_m6 83 (by decide +kernel) rfl)
set_option maxHeartbeats 4000000 in
set_option maxRecDepth 100000 in
theorem lc_1 {p : Program} {l : Launch} {e : Env} {s : State} {m : MethodId} {below : List Frame} {meth : Method} {c : Code} {H : Heap} {locs : List Loc} {cells slots : Nat} {Q : State → Prop} {g : zG} {h : HF} {ls : Array Slot} {b L : Nat} {xs : Nat → Int32} {F : Nat} {Inv : HF → Prop} (hS : PS_trim F Inv) (lx : Lx p s m meth c b L xs g) (hcs : cells ≤ room_1.cells ∧ slots ≤ room_1.slots) {x : Int} (hx : 0 ≤ x ∧ x + 6 ≤ (L : Int)) (hI : Inv h) (hp : Hp g s.heap.size s h H locs) (hl : lv_has ls 4 [(0, .ref b), (1, .ref (s.heap.size + 0)), (2, .ref (s.heap.size + 181)), (3, .int (ii x))]) (kk : ∀ (h : HF) (H : Heap) (locs : List Loc), Inv h → Hp g s.heap.size s h H locs → W p l e room_1 s m #[Value.ref b] below meth c H locs cells slots Q (F0 m 1555 ls [])) : W p l e room_1 s m #[Value.ref b] below meth c H locs cells slots Q (F0 m 251 ls []) := by
  have cx := lx.1
  obtain ⟨s1, e1⟩ : ∃ z, z = (xs (x + 1).toNat).toInt := ⟨_, rfl⟩
  have rs1 : rng s1 := by rw [e1]; exact rng_ti _
  obtain ⟨r, h1, h2, f1, f2, hI2⟩ := hS h s1 hI rs1
  refine lv_aload_n cx.1 cx.2.1 dL_251 rfl (lv_at hl 1 rfl) ?_
  refine l_arg lx hp hl (j := 1) ⟨by omega, by omega⟩ dL_252 dL_253 dL_254 dL_255 dL_256 ?_
  rw [← e1]
  refine l_call (As := [.int (ii s1)]) (rest := []) cx hp (mX11_trim F l g s.heap.size h 0 s1 (by decide) rs1) 11 (by decide) (by decide) rfl vw_X11_trim ml_L_18 ⟨by decide, by decide⟩ hcs rfl hl.1 rfl (Nat.le_of_ble_eq_true rfl) dL_257 f1 (fun H locs rr hp => ?_)
  refine lv_aload_n cx.1 cx.2.1 dL_260 rfl (lv_at hl 2 rfl) ?_
  refine l_arg lx hp hl (j := 1) ⟨by omega, by omega⟩ dL_261 dL_262 dL_263 dL_264 dL_265 ?_
  rw [← e1]
  refine l_call (As := [.int (ii s1)]) (rest := [.int (ii r)]) cx hp (mX12_trim F l g s.heap.size h1 181 s1 (by decide) rs1) 12 (by decide) (by decide) rfl vw_X12_trim ml_L_22 ⟨by decide, by decide⟩ hcs rfl hl.1 rfl (Nat.le_of_ble_eq_true rfl) dL_266 f2 (fun H locs rr hp => ?_)
  refine lv_icmp_eq (tgt := 1555) cx.1 cx.2.1 dL_269 (by decide) (fun _ => ?_) (fun q => absurd rfl q)
  exact kk h2 _ _ hI2 hp
theorem dL_274 : decode code 274 = .ok (.aload_n 1, 1) := by decide +kernel
theorem dL_275 : decode code 275 = .ok (.aload_n 0, 1) := by decide +kernel
theorem dL_276 : decode code 276 = .ok (.iload_n 3, 1) := by decide +kernel
theorem dL_277 : decode code 277 = .ok (.iconst 1, 1) := by decide +kernel
theorem dL_278 : decode code 278 = .ok (.iadd, 1) := by decide +kernel
theorem dL_279 : decode code 279 = .ok (.iaload, 1) := by decide +kernel
theorem dL_280 : decode code 280 = .ok (.invokevirtual 23, 3) := by decide +kernel
theorem dL_283 : decode code 283 = .ok (.aload_n 2, 1) := by decide +kernel
theorem dL_284 : decode code 284 = .ok (.aload_n 0, 1) := by decide +kernel
theorem dL_285 : decode code 285 = .ok (.iload_n 3, 1) := by decide +kernel
theorem dL_286 : decode code 286 = .ok (.iconst 1, 1) := by decide +kernel
theorem dL_287 : decode code 287 = .ok (.iadd, 1) := by decide +kernel
theorem dL_288 : decode code 288 = .ok (.iaload, 1) := by decide +kernel
theorem dL_289 : decode code 289 = .ok (.invokevirtual 26, 3) := by decide +kernel
theorem dL_292 : decode code 292 = .ok (.if_icmp .eq 1263, 3) := by decide +kernel
theorem ml_L_23 : Cond.methodLink R_law 23 yX11_out ∈ AW := (aw_m2 220 (by decide +kernel) rfl)
theorem ml_L_26 : Cond.methodLink R_law 26 yX12_out ∈ AW := (aw_m6 87 (by decide +kernel) rfl)
set_option maxHeartbeats 4000000 in
set_option maxRecDepth 100000 in
theorem lc_2 {p : Program} {l : Launch} {e : Env} {s : State} {m : MethodId} {below : List Frame} {meth : Method} {c : Code} {H : Heap} {locs : List Loc} {cells slots : Nat} {Q : State → Prop} {g : zG} {h : HF} {ls : Array Slot} {b L : Nat} {xs : Nat → Int32} {F : Nat} {Inv : HF → Prop} (hS : PS_out F Inv) (lx : Lx p s m meth c b L xs g) (hcs : cells ≤ room_1.cells ∧ slots ≤ room_1.slots) {x : Int} (hx : 0 ≤ x ∧ x + 6 ≤ (L : Int)) (hI : Inv h) (hp : Hp g s.heap.size s h H locs) (hl : lv_has ls 4 [(0, .ref b), (1, .ref (s.heap.size + 0)), (2, .ref (s.heap.size + 181)), (3, .int (ii x))]) (kk : ∀ (h : HF) (H : Heap) (locs : List Loc), Inv h → Hp g s.heap.size s h H locs → W p l e room_1 s m #[Value.ref b] below meth c H locs cells slots Q (F0 m 1555 ls [])) : W p l e room_1 s m #[Value.ref b] below meth c H locs cells slots Q (F0 m 274 ls []) := by
  have cx := lx.1
  obtain ⟨s1, e1⟩ : ∃ z, z = (xs (x + 1).toNat).toInt := ⟨_, rfl⟩
  have rs1 : rng s1 := by rw [e1]; exact rng_ti _
  obtain ⟨r, h1, h2, f1, f2, hI2⟩ := hS h s1 hI rs1
  refine lv_aload_n cx.1 cx.2.1 dL_274 rfl (lv_at hl 1 rfl) ?_
  refine l_arg lx hp hl (j := 1) ⟨by omega, by omega⟩ dL_275 dL_276 dL_277 dL_278 dL_279 ?_
  rw [← e1]
  refine l_call (As := [.int (ii s1)]) (rest := []) cx hp (mX11_out F l g s.heap.size h 0 s1 (by decide) rs1) 11 (by decide) (by decide) rfl vw_X11_out ml_L_23 ⟨by decide, by decide⟩ hcs rfl hl.1 rfl (Nat.le_of_ble_eq_true rfl) dL_280 f1 (fun H locs rr hp => ?_)
  refine lv_aload_n cx.1 cx.2.1 dL_283 rfl (lv_at hl 2 rfl) ?_
  refine l_arg lx hp hl (j := 1) ⟨by omega, by omega⟩ dL_284 dL_285 dL_286 dL_287 dL_288 ?_
  rw [← e1]
  refine l_call (As := [.int (ii s1)]) (rest := [.int (ii r)]) cx hp (mX12_out F l g s.heap.size h1 181 s1 (by decide) rs1) 12 (by decide) (by decide) rfl vw_X12_out ml_L_26 ⟨by decide, by decide⟩ hcs rfl hl.1 rfl (Nat.le_of_ble_eq_true rfl) dL_289 f2 (fun H locs rr hp => ?_)
  refine lv_icmp_eq (tgt := 1555) cx.1 cx.2.1 dL_292 (by decide) (fun _ => ?_) (fun q => absurd rfl q)
  exact kk h2 _ _ hI2 hp
theorem dL_297 : decode code 297 = .ok (.aload_n 1, 1) := by decide +kernel
theorem dL_298 : decode code 298 = .ok (.aload_n 0, 1) := by decide +kernel
theorem dL_299 : decode code 299 = .ok (.iload_n 3, 1) := by decide +kernel
theorem dL_300 : decode code 300 = .ok (.iconst 1, 1) := by decide +kernel
theorem dL_301 : decode code 301 = .ok (.iadd, 1) := by decide +kernel
theorem dL_302 : decode code 302 = .ok (.iaload, 1) := by decide +kernel
theorem dL_303 : decode code 303 = .ok (.aload_n 0, 1) := by decide +kernel
theorem dL_304 : decode code 304 = .ok (.iload_n 3, 1) := by decide +kernel
theorem dL_305 : decode code 305 = .ok (.iconst 2, 1) := by decide +kernel
theorem dL_306 : decode code 306 = .ok (.iadd, 1) := by decide +kernel
theorem dL_307 : decode code 307 = .ok (.iaload, 1) := by decide +kernel
theorem dL_308 : decode code 308 = .ok (.aload_n 0, 1) := by decide +kernel
theorem dL_309 : decode code 309 = .ok (.iload_n 3, 1) := by decide +kernel
theorem dL_310 : decode code 310 = .ok (.iconst 3, 1) := by decide +kernel
theorem dL_311 : decode code 311 = .ok (.iadd, 1) := by decide +kernel
theorem dL_312 : decode code 312 = .ok (.iaload, 1) := by decide +kernel
theorem dL_313 : decode code 313 = .ok (.invokevirtual 27, 3) := by decide +kernel
theorem dL_316 : decode code 316 = .ok (.aload_n 2, 1) := by decide +kernel
theorem dL_317 : decode code 317 = .ok (.aload_n 0, 1) := by decide +kernel
theorem dL_318 : decode code 318 = .ok (.iload_n 3, 1) := by decide +kernel
theorem dL_319 : decode code 319 = .ok (.iconst 1, 1) := by decide +kernel
theorem dL_320 : decode code 320 = .ok (.iadd, 1) := by decide +kernel
theorem dL_321 : decode code 321 = .ok (.iaload, 1) := by decide +kernel
theorem dL_322 : decode code 322 = .ok (.aload_n 0, 1) := by decide +kernel
theorem dL_323 : decode code 323 = .ok (.iload_n 3, 1) := by decide +kernel
theorem dL_324 : decode code 324 = .ok (.iconst 2, 1) := by decide +kernel
theorem dL_325 : decode code 325 = .ok (.iadd, 1) := by decide +kernel
theorem dL_326 : decode code 326 = .ok (.iaload, 1) := by decide +kernel
theorem dL_327 : decode code 327 = .ok (.aload_n 0, 1) := by decide +kernel
theorem dL_328 : decode code 328 = .ok (.iload_n 3, 1) := by decide +kernel
theorem dL_329 : decode code 329 = .ok (.iconst 3, 1) := by decide +kernel
theorem dL_330 : decode code 330 = .ok (.iadd, 1) := by decide +kernel
theorem dL_331 : decode code 331 = .ok (.iaload, 1) := by decide +kernel
theorem dL_332 : decode code 332 = .ok (.invokevirtual 31, 3) := by decide +kernel
theorem dL_335 : decode code 335 = .ok (.if_icmp .eq 1220, 3) := by decide +kernel
theorem ml_L_27 : Cond.methodLink R_law 27 yX11_make ∈ AW := (aw_m2 228 (by decide +kernel) rfl)
theorem ml_L_31 : Cond.methodLink R_law 31 yX12_make ∈ AW := (aw_m6 91 (by decide +kernel) rfl)
set_option maxHeartbeats 4000000 in
set_option maxRecDepth 100000 in
theorem lc_3 {p : Program} {l : Launch} {e : Env} {s : State} {m : MethodId} {below : List Frame} {meth : Method} {c : Code} {H : Heap} {locs : List Loc} {cells slots : Nat} {Q : State → Prop} {g : zG} {h : HF} {ls : Array Slot} {b L : Nat} {xs : Nat → Int32} {F : Nat} {Inv : HF → Prop} (hS : PS_make F Inv) (lx : Lx p s m meth c b L xs g) (hcs : cells ≤ room_1.cells ∧ slots ≤ room_1.slots) {x : Int} (hx : 0 ≤ x ∧ x + 6 ≤ (L : Int)) (hI : Inv h) (hp : Hp g s.heap.size s h H locs) (hl : lv_has ls 4 [(0, .ref b), (1, .ref (s.heap.size + 0)), (2, .ref (s.heap.size + 181)), (3, .int (ii x))]) (kk : ∀ (h : HF) (H : Heap) (locs : List Loc), Inv h → Hp g s.heap.size s h H locs → W p l e room_1 s m #[Value.ref b] below meth c H locs cells slots Q (F0 m 1555 ls [])) : W p l e room_1 s m #[Value.ref b] below meth c H locs cells slots Q (F0 m 297 ls []) := by
  have cx := lx.1
  obtain ⟨s1, e1⟩ : ∃ z, z = (xs (x + 1).toNat).toInt := ⟨_, rfl⟩
  have rs1 : rng s1 := by rw [e1]; exact rng_ti _
  obtain ⟨s2, e2⟩ : ∃ z, z = (xs (x + 2).toNat).toInt := ⟨_, rfl⟩
  have rs2 : rng s2 := by rw [e2]; exact rng_ti _
  obtain ⟨s3, e3⟩ : ∃ z, z = (xs (x + 3).toNat).toInt := ⟨_, rfl⟩
  have rs3 : rng s3 := by rw [e3]; exact rng_ti _
  obtain ⟨r, h1, h2, f1, f2, hI2⟩ := hS h s1 s2 s3 hI rs1 rs2 rs3
  refine lv_aload_n cx.1 cx.2.1 dL_297 rfl (lv_at hl 1 rfl) ?_
  refine l_arg lx hp hl (j := 1) ⟨by omega, by omega⟩ dL_298 dL_299 dL_300 dL_301 dL_302 ?_
  rw [← e1]
  refine l_arg lx hp hl (j := 2) ⟨by omega, by omega⟩ dL_303 dL_304 dL_305 dL_306 dL_307 ?_
  rw [← e2]
  refine l_arg lx hp hl (j := 3) ⟨by omega, by omega⟩ dL_308 dL_309 dL_310 dL_311 dL_312 ?_
  rw [← e3]
  refine l_call (As := [.int (ii s1), .int (ii s2), .int (ii s3)]) (rest := []) cx hp (mX11_make F l g s.heap.size h 0 s1 s2 s3 (by decide) rs1 rs2 rs3) 11 (by decide) (by decide) rfl vw_X11_make ml_L_27 ⟨by decide, by decide⟩ hcs rfl hl.1 rfl (Nat.le_of_ble_eq_true rfl) dL_313 f1 (fun H locs rr hp => ?_)
  refine lv_aload_n cx.1 cx.2.1 dL_316 rfl (lv_at hl 2 rfl) ?_
  refine l_arg lx hp hl (j := 1) ⟨by omega, by omega⟩ dL_317 dL_318 dL_319 dL_320 dL_321 ?_
  rw [← e1]
  refine l_arg lx hp hl (j := 2) ⟨by omega, by omega⟩ dL_322 dL_323 dL_324 dL_325 dL_326 ?_
  rw [← e2]
  refine l_arg lx hp hl (j := 3) ⟨by omega, by omega⟩ dL_327 dL_328 dL_329 dL_330 dL_331 ?_
  rw [← e3]
  refine l_call (As := [.int (ii s1), .int (ii s2), .int (ii s3)]) (rest := [.int (ii r)]) cx hp (mX12_make F l g s.heap.size h1 181 s1 s2 s3 (by decide) rs1 rs2 rs3) 12 (by decide) (by decide) rfl vw_X12_make ml_L_31 ⟨by decide, by decide⟩ hcs rfl hl.1 rfl (Nat.le_of_ble_eq_true rfl) dL_332 f2 (fun H locs rr hp => ?_)
  refine lv_icmp_eq (tgt := 1555) cx.1 cx.2.1 dL_335 (by decide) (fun _ => ?_) (fun q => absurd rfl q)
  exact kk h2 _ _ hI2 hp
theorem dL_340 : decode code 340 = .ok (.aload_n 1, 1) := by decide +kernel
theorem dL_341 : decode code 341 = .ok (.aload_n 0, 1) := by decide +kernel
theorem dL_342 : decode code 342 = .ok (.iload_n 3, 1) := by decide +kernel
theorem dL_343 : decode code 343 = .ok (.iconst 1, 1) := by decide +kernel
theorem dL_344 : decode code 344 = .ok (.iadd, 1) := by decide +kernel
theorem dL_345 : decode code 345 = .ok (.iaload, 1) := by decide +kernel
theorem dL_346 : decode code 346 = .ok (.aload_n 0, 1) := by decide +kernel
theorem dL_347 : decode code 347 = .ok (.iload_n 3, 1) := by decide +kernel
theorem dL_348 : decode code 348 = .ok (.iconst 2, 1) := by decide +kernel
theorem dL_349 : decode code 349 = .ok (.iadd, 1) := by decide +kernel
theorem dL_350 : decode code 350 = .ok (.iaload, 1) := by decide +kernel
theorem dL_351 : decode code 351 = .ok (.aload_n 0, 1) := by decide +kernel
theorem dL_352 : decode code 352 = .ok (.iload_n 3, 1) := by decide +kernel
theorem dL_353 : decode code 353 = .ok (.iconst 3, 1) := by decide +kernel
theorem dL_354 : decode code 354 = .ok (.iadd, 1) := by decide +kernel
theorem dL_355 : decode code 355 = .ok (.iaload, 1) := by decide +kernel
theorem dL_356 : decode code 356 = .ok (.aload_n 0, 1) := by decide +kernel
theorem dL_357 : decode code 357 = .ok (.iload_n 3, 1) := by decide +kernel
theorem dL_358 : decode code 358 = .ok (.iconst 4, 1) := by decide +kernel
theorem dL_359 : decode code 359 = .ok (.iadd, 1) := by decide +kernel
theorem dL_360 : decode code 360 = .ok (.iaload, 1) := by decide +kernel
theorem dL_361 : decode code 361 = .ok (.aload_n 0, 1) := by decide +kernel
theorem dL_362 : decode code 362 = .ok (.iload_n 3, 1) := by decide +kernel
theorem dL_363 : decode code 363 = .ok (.iconst 5, 1) := by decide +kernel
theorem dL_364 : decode code 364 = .ok (.iadd, 1) := by decide +kernel
theorem dL_365 : decode code 365 = .ok (.iaload, 1) := by decide +kernel
theorem dL_366 : decode code 366 = .ok (.invokevirtual 32, 3) := by decide +kernel
theorem dL_369 : decode code 369 = .ok (.aload_n 2, 1) := by decide +kernel
theorem dL_370 : decode code 370 = .ok (.aload_n 0, 1) := by decide +kernel
theorem dL_371 : decode code 371 = .ok (.iload_n 3, 1) := by decide +kernel
theorem dL_372 : decode code 372 = .ok (.iconst 1, 1) := by decide +kernel
theorem dL_373 : decode code 373 = .ok (.iadd, 1) := by decide +kernel
theorem dL_374 : decode code 374 = .ok (.iaload, 1) := by decide +kernel
theorem dL_375 : decode code 375 = .ok (.aload_n 0, 1) := by decide +kernel
theorem dL_376 : decode code 376 = .ok (.iload_n 3, 1) := by decide +kernel
theorem dL_377 : decode code 377 = .ok (.iconst 2, 1) := by decide +kernel
theorem dL_378 : decode code 378 = .ok (.iadd, 1) := by decide +kernel
theorem dL_379 : decode code 379 = .ok (.iaload, 1) := by decide +kernel
theorem dL_380 : decode code 380 = .ok (.aload_n 0, 1) := by decide +kernel
theorem dL_381 : decode code 381 = .ok (.iload_n 3, 1) := by decide +kernel
theorem dL_382 : decode code 382 = .ok (.iconst 3, 1) := by decide +kernel
theorem dL_383 : decode code 383 = .ok (.iadd, 1) := by decide +kernel
theorem dL_384 : decode code 384 = .ok (.iaload, 1) := by decide +kernel
theorem dL_385 : decode code 385 = .ok (.aload_n 0, 1) := by decide +kernel
theorem dL_386 : decode code 386 = .ok (.iload_n 3, 1) := by decide +kernel
theorem dL_387 : decode code 387 = .ok (.iconst 4, 1) := by decide +kernel
theorem dL_388 : decode code 388 = .ok (.iadd, 1) := by decide +kernel
theorem dL_389 : decode code 389 = .ok (.iaload, 1) := by decide +kernel
theorem dL_390 : decode code 390 = .ok (.aload_n 0, 1) := by decide +kernel
theorem dL_391 : decode code 391 = .ok (.iload_n 3, 1) := by decide +kernel
theorem dL_392 : decode code 392 = .ok (.iconst 5, 1) := by decide +kernel
theorem dL_393 : decode code 393 = .ok (.iadd, 1) := by decide +kernel
theorem dL_394 : decode code 394 = .ok (.iaload, 1) := by decide +kernel
theorem dL_395 : decode code 395 = .ok (.invokevirtual 35, 3) := by decide +kernel
theorem dL_398 : decode code 398 = .ok (.if_icmp .eq 1157, 3) := by decide +kernel
theorem ml_L_32 : Cond.methodLink R_law 32 yX11_set ∈ AW := (aw_m3 45 (by decide +kernel) rfl)
theorem ml_L_35 : Cond.methodLink R_law 35 yX12_set ∈ AW := (aw_m6 122 (by decide +kernel) rfl)
set_option maxHeartbeats 4000000 in
set_option maxRecDepth 100000 in
theorem lc_4 {p : Program} {l : Launch} {e : Env} {s : State} {m : MethodId} {below : List Frame} {meth : Method} {c : Code} {H : Heap} {locs : List Loc} {cells slots : Nat} {Q : State → Prop} {g : zG} {h : HF} {ls : Array Slot} {b L : Nat} {xs : Nat → Int32} {F : Nat} {Inv : HF → Prop} (hS : PS_set F Inv) (lx : Lx p s m meth c b L xs g) (hcs : cells ≤ room_1.cells ∧ slots ≤ room_1.slots) {x : Int} (hx : 0 ≤ x ∧ x + 6 ≤ (L : Int)) (hI : Inv h) (hp : Hp g s.heap.size s h H locs) (hl : lv_has ls 4 [(0, .ref b), (1, .ref (s.heap.size + 0)), (2, .ref (s.heap.size + 181)), (3, .int (ii x))]) (kk : ∀ (h : HF) (H : Heap) (locs : List Loc), Inv h → Hp g s.heap.size s h H locs → W p l e room_1 s m #[Value.ref b] below meth c H locs cells slots Q (F0 m 1555 ls [])) : W p l e room_1 s m #[Value.ref b] below meth c H locs cells slots Q (F0 m 340 ls []) := by
  have cx := lx.1
  obtain ⟨s1, e1⟩ : ∃ z, z = (xs (x + 1).toNat).toInt := ⟨_, rfl⟩
  have rs1 : rng s1 := by rw [e1]; exact rng_ti _
  obtain ⟨s2, e2⟩ : ∃ z, z = (xs (x + 2).toNat).toInt := ⟨_, rfl⟩
  have rs2 : rng s2 := by rw [e2]; exact rng_ti _
  obtain ⟨s3, e3⟩ : ∃ z, z = (xs (x + 3).toNat).toInt := ⟨_, rfl⟩
  have rs3 : rng s3 := by rw [e3]; exact rng_ti _
  obtain ⟨s4, e4⟩ : ∃ z, z = (xs (x + 4).toNat).toInt := ⟨_, rfl⟩
  have rs4 : rng s4 := by rw [e4]; exact rng_ti _
  obtain ⟨s5, e5⟩ : ∃ z, z = (xs (x + 5).toNat).toInt := ⟨_, rfl⟩
  have rs5 : rng s5 := by rw [e5]; exact rng_ti _
  obtain ⟨r, h1, h2, f1, f2, hI2⟩ := hS h s1 s2 s3 s4 s5 hI rs1 rs2 rs3 rs4 rs5
  refine lv_aload_n cx.1 cx.2.1 dL_340 rfl (lv_at hl 1 rfl) ?_
  refine l_arg lx hp hl (j := 1) ⟨by omega, by omega⟩ dL_341 dL_342 dL_343 dL_344 dL_345 ?_
  rw [← e1]
  refine l_arg lx hp hl (j := 2) ⟨by omega, by omega⟩ dL_346 dL_347 dL_348 dL_349 dL_350 ?_
  rw [← e2]
  refine l_arg lx hp hl (j := 3) ⟨by omega, by omega⟩ dL_351 dL_352 dL_353 dL_354 dL_355 ?_
  rw [← e3]
  refine l_arg lx hp hl (j := 4) ⟨by omega, by omega⟩ dL_356 dL_357 dL_358 dL_359 dL_360 ?_
  rw [← e4]
  refine l_arg lx hp hl (j := 5) ⟨by omega, by omega⟩ dL_361 dL_362 dL_363 dL_364 dL_365 ?_
  rw [← e5]
  refine l_call (As := [.int (ii s1), .int (ii s2), .int (ii s3), .int (ii s4), .int (ii s5)]) (rest := []) cx hp (mX11_set F l g s.heap.size h 0 s1 s2 s3 s4 s5 (by decide) rs1 rs2 rs3 rs4 rs5) 11 (by decide) (by decide) rfl vw_X11_set ml_L_32 ⟨by decide, by decide⟩ hcs rfl hl.1 rfl (Nat.le_of_ble_eq_true rfl) dL_366 f1 (fun H locs rr hp => ?_)
  refine lv_aload_n cx.1 cx.2.1 dL_369 rfl (lv_at hl 2 rfl) ?_
  refine l_arg lx hp hl (j := 1) ⟨by omega, by omega⟩ dL_370 dL_371 dL_372 dL_373 dL_374 ?_
  rw [← e1]
  refine l_arg lx hp hl (j := 2) ⟨by omega, by omega⟩ dL_375 dL_376 dL_377 dL_378 dL_379 ?_
  rw [← e2]
  refine l_arg lx hp hl (j := 3) ⟨by omega, by omega⟩ dL_380 dL_381 dL_382 dL_383 dL_384 ?_
  rw [← e3]
  refine l_arg lx hp hl (j := 4) ⟨by omega, by omega⟩ dL_385 dL_386 dL_387 dL_388 dL_389 ?_
  rw [← e4]
  refine l_arg lx hp hl (j := 5) ⟨by omega, by omega⟩ dL_390 dL_391 dL_392 dL_393 dL_394 ?_
  rw [← e5]
  refine l_call (As := [.int (ii s1), .int (ii s2), .int (ii s3), .int (ii s4), .int (ii s5)]) (rest := [.int (ii r)]) cx hp (mX12_set F l g s.heap.size h1 181 s1 s2 s3 s4 s5 (by decide) rs1 rs2 rs3 rs4 rs5) 12 (by decide) (by decide) rfl vw_X12_set ml_L_35 ⟨by decide, by decide⟩ hcs rfl hl.1 rfl (Nat.le_of_ble_eq_true rfl) dL_395 f2 (fun H locs rr hp => ?_)
  refine lv_icmp_eq (tgt := 1555) cx.1 cx.2.1 dL_398 (by decide) (fun _ => ?_) (fun q => absurd rfl q)
  exact kk h2 _ _ hI2 hp
theorem dL_403 : decode code 403 = .ok (.aload_n 1, 1) := by decide +kernel
theorem dL_404 : decode code 404 = .ok (.aload_n 0, 1) := by decide +kernel
theorem dL_405 : decode code 405 = .ok (.iload_n 3, 1) := by decide +kernel
theorem dL_406 : decode code 406 = .ok (.iconst 1, 1) := by decide +kernel
theorem dL_407 : decode code 407 = .ok (.iadd, 1) := by decide +kernel
theorem dL_408 : decode code 408 = .ok (.iaload, 1) := by decide +kernel
theorem dL_409 : decode code 409 = .ok (.aload_n 0, 1) := by decide +kernel
theorem dL_410 : decode code 410 = .ok (.iload_n 3, 1) := by decide +kernel
theorem dL_411 : decode code 411 = .ok (.iconst 2, 1) := by decide +kernel
theorem dL_412 : decode code 412 = .ok (.iadd, 1) := by decide +kernel
theorem dL_413 : decode code 413 = .ok (.iaload, 1) := by decide +kernel
theorem dL_414 : decode code 414 = .ok (.aload_n 0, 1) := by decide +kernel
theorem dL_415 : decode code 415 = .ok (.iload_n 3, 1) := by decide +kernel
theorem dL_416 : decode code 416 = .ok (.iconst 3, 1) := by decide +kernel
theorem dL_417 : decode code 417 = .ok (.iadd, 1) := by decide +kernel
theorem dL_418 : decode code 418 = .ok (.iaload, 1) := by decide +kernel
theorem dL_419 : decode code 419 = .ok (.aload_n 0, 1) := by decide +kernel
theorem dL_420 : decode code 420 = .ok (.iload_n 3, 1) := by decide +kernel
theorem dL_421 : decode code 421 = .ok (.iconst 4, 1) := by decide +kernel
theorem dL_422 : decode code 422 = .ok (.iadd, 1) := by decide +kernel
theorem dL_423 : decode code 423 = .ok (.iaload, 1) := by decide +kernel
theorem dL_424 : decode code 424 = .ok (.aload_n 0, 1) := by decide +kernel
theorem dL_425 : decode code 425 = .ok (.iload_n 3, 1) := by decide +kernel
theorem dL_426 : decode code 426 = .ok (.iconst 5, 1) := by decide +kernel
theorem dL_427 : decode code 427 = .ok (.iadd, 1) := by decide +kernel
theorem dL_428 : decode code 428 = .ok (.iaload, 1) := by decide +kernel
theorem dL_429 : decode code 429 = .ok (.invokevirtual 36, 3) := by decide +kernel
theorem dL_432 : decode code 432 = .ok (.aload_n 2, 1) := by decide +kernel
theorem dL_433 : decode code 433 = .ok (.aload_n 0, 1) := by decide +kernel
theorem dL_434 : decode code 434 = .ok (.iload_n 3, 1) := by decide +kernel
theorem dL_435 : decode code 435 = .ok (.iconst 1, 1) := by decide +kernel
theorem dL_436 : decode code 436 = .ok (.iadd, 1) := by decide +kernel
theorem dL_437 : decode code 437 = .ok (.iaload, 1) := by decide +kernel
theorem dL_438 : decode code 438 = .ok (.aload_n 0, 1) := by decide +kernel
theorem dL_439 : decode code 439 = .ok (.iload_n 3, 1) := by decide +kernel
theorem dL_440 : decode code 440 = .ok (.iconst 2, 1) := by decide +kernel
theorem dL_441 : decode code 441 = .ok (.iadd, 1) := by decide +kernel
theorem dL_442 : decode code 442 = .ok (.iaload, 1) := by decide +kernel
theorem dL_443 : decode code 443 = .ok (.aload_n 0, 1) := by decide +kernel
theorem dL_444 : decode code 444 = .ok (.iload_n 3, 1) := by decide +kernel
theorem dL_445 : decode code 445 = .ok (.iconst 3, 1) := by decide +kernel
theorem dL_446 : decode code 446 = .ok (.iadd, 1) := by decide +kernel
theorem dL_447 : decode code 447 = .ok (.iaload, 1) := by decide +kernel
theorem dL_448 : decode code 448 = .ok (.aload_n 0, 1) := by decide +kernel
theorem dL_449 : decode code 449 = .ok (.iload_n 3, 1) := by decide +kernel
theorem dL_450 : decode code 450 = .ok (.iconst 4, 1) := by decide +kernel
theorem dL_451 : decode code 451 = .ok (.iadd, 1) := by decide +kernel
theorem dL_452 : decode code 452 = .ok (.iaload, 1) := by decide +kernel
theorem dL_453 : decode code 453 = .ok (.aload_n 0, 1) := by decide +kernel
theorem dL_454 : decode code 454 = .ok (.iload_n 3, 1) := by decide +kernel
theorem dL_455 : decode code 455 = .ok (.iconst 5, 1) := by decide +kernel
theorem dL_456 : decode code 456 = .ok (.iadd, 1) := by decide +kernel
theorem dL_457 : decode code 457 = .ok (.iaload, 1) := by decide +kernel
theorem dL_458 : decode code 458 = .ok (.invokevirtual 39, 3) := by decide +kernel
theorem dL_461 : decode code 461 = .ok (.if_icmp .eq 1094, 3) := by decide +kernel
theorem ml_L_36 : Cond.methodLink R_law 36 yX11_cell ∈ AW := (aw_m3 74 (by decide +kernel) rfl)
theorem ml_L_39 : Cond.methodLink R_law 39 yX12_cell ∈ AW := (aw_m6 146 (by decide +kernel) rfl)
set_option maxHeartbeats 4000000 in
set_option maxRecDepth 100000 in
theorem lc_5 {p : Program} {l : Launch} {e : Env} {s : State} {m : MethodId} {below : List Frame} {meth : Method} {c : Code} {H : Heap} {locs : List Loc} {cells slots : Nat} {Q : State → Prop} {g : zG} {h : HF} {ls : Array Slot} {b L : Nat} {xs : Nat → Int32} {F : Nat} {Inv : HF → Prop} (hS : PS_cell F Inv) (lx : Lx p s m meth c b L xs g) (hcs : cells ≤ room_1.cells ∧ slots ≤ room_1.slots) {x : Int} (hx : 0 ≤ x ∧ x + 6 ≤ (L : Int)) (hI : Inv h) (hp : Hp g s.heap.size s h H locs) (hl : lv_has ls 4 [(0, .ref b), (1, .ref (s.heap.size + 0)), (2, .ref (s.heap.size + 181)), (3, .int (ii x))]) (kk : ∀ (h : HF) (H : Heap) (locs : List Loc), Inv h → Hp g s.heap.size s h H locs → W p l e room_1 s m #[Value.ref b] below meth c H locs cells slots Q (F0 m 1555 ls [])) : W p l e room_1 s m #[Value.ref b] below meth c H locs cells slots Q (F0 m 403 ls []) := by
  have cx := lx.1
  obtain ⟨s1, e1⟩ : ∃ z, z = (xs (x + 1).toNat).toInt := ⟨_, rfl⟩
  have rs1 : rng s1 := by rw [e1]; exact rng_ti _
  obtain ⟨s2, e2⟩ : ∃ z, z = (xs (x + 2).toNat).toInt := ⟨_, rfl⟩
  have rs2 : rng s2 := by rw [e2]; exact rng_ti _
  obtain ⟨s3, e3⟩ : ∃ z, z = (xs (x + 3).toNat).toInt := ⟨_, rfl⟩
  have rs3 : rng s3 := by rw [e3]; exact rng_ti _
  obtain ⟨s4, e4⟩ : ∃ z, z = (xs (x + 4).toNat).toInt := ⟨_, rfl⟩
  have rs4 : rng s4 := by rw [e4]; exact rng_ti _
  obtain ⟨s5, e5⟩ : ∃ z, z = (xs (x + 5).toNat).toInt := ⟨_, rfl⟩
  have rs5 : rng s5 := by rw [e5]; exact rng_ti _
  obtain ⟨r, h1, h2, f1, f2, hI2⟩ := hS h s1 s2 s3 s4 s5 hI rs1 rs2 rs3 rs4 rs5
  refine lv_aload_n cx.1 cx.2.1 dL_403 rfl (lv_at hl 1 rfl) ?_
  refine l_arg lx hp hl (j := 1) ⟨by omega, by omega⟩ dL_404 dL_405 dL_406 dL_407 dL_408 ?_
  rw [← e1]
  refine l_arg lx hp hl (j := 2) ⟨by omega, by omega⟩ dL_409 dL_410 dL_411 dL_412 dL_413 ?_
  rw [← e2]
  refine l_arg lx hp hl (j := 3) ⟨by omega, by omega⟩ dL_414 dL_415 dL_416 dL_417 dL_418 ?_
  rw [← e3]
  refine l_arg lx hp hl (j := 4) ⟨by omega, by omega⟩ dL_419 dL_420 dL_421 dL_422 dL_423 ?_
  rw [← e4]
  refine l_arg lx hp hl (j := 5) ⟨by omega, by omega⟩ dL_424 dL_425 dL_426 dL_427 dL_428 ?_
  rw [← e5]
  refine l_call (As := [.int (ii s1), .int (ii s2), .int (ii s3), .int (ii s4), .int (ii s5)]) (rest := []) cx hp (mX11_cell F l g s.heap.size h 0 s1 s2 s3 s4 s5 (by decide) rs1 rs2 rs3 rs4 rs5) 11 (by decide) (by decide) rfl vw_X11_cell ml_L_36 ⟨by decide, by decide⟩ hcs rfl hl.1 rfl (Nat.le_of_ble_eq_true rfl) dL_429 f1 (fun H locs rr hp => ?_)
  refine lv_aload_n cx.1 cx.2.1 dL_432 rfl (lv_at hl 2 rfl) ?_
  refine l_arg lx hp hl (j := 1) ⟨by omega, by omega⟩ dL_433 dL_434 dL_435 dL_436 dL_437 ?_
  rw [← e1]
  refine l_arg lx hp hl (j := 2) ⟨by omega, by omega⟩ dL_438 dL_439 dL_440 dL_441 dL_442 ?_
  rw [← e2]
  refine l_arg lx hp hl (j := 3) ⟨by omega, by omega⟩ dL_443 dL_444 dL_445 dL_446 dL_447 ?_
  rw [← e3]
  refine l_arg lx hp hl (j := 4) ⟨by omega, by omega⟩ dL_448 dL_449 dL_450 dL_451 dL_452 ?_
  rw [← e4]
  refine l_arg lx hp hl (j := 5) ⟨by omega, by omega⟩ dL_453 dL_454 dL_455 dL_456 dL_457 ?_
  rw [← e5]
  refine l_call (As := [.int (ii s1), .int (ii s2), .int (ii s3), .int (ii s4), .int (ii s5)]) (rest := [.int (ii r)]) cx hp (mX12_cell F l g s.heap.size h1 181 s1 s2 s3 s4 s5 (by decide) rs1 rs2 rs3 rs4 rs5) 12 (by decide) (by decide) rfl vw_X12_cell ml_L_39 ⟨by decide, by decide⟩ hcs rfl hl.1 rfl (Nat.le_of_ble_eq_true rfl) dL_458 f2 (fun H locs rr hp => ?_)
  refine lv_icmp_eq (tgt := 1555) cx.1 cx.2.1 dL_461 (by decide) (fun _ => ?_) (fun q => absurd rfl q)
  exact kk h2 _ _ hI2 hp
theorem dL_466 : decode code 466 = .ok (.aload_n 1, 1) := by decide +kernel
theorem dL_467 : decode code 467 = .ok (.aload_n 0, 1) := by decide +kernel
theorem dL_468 : decode code 468 = .ok (.iload_n 3, 1) := by decide +kernel
theorem dL_469 : decode code 469 = .ok (.iconst 1, 1) := by decide +kernel
theorem dL_470 : decode code 470 = .ok (.iadd, 1) := by decide +kernel
theorem dL_471 : decode code 471 = .ok (.iaload, 1) := by decide +kernel
theorem dL_472 : decode code 472 = .ok (.aload_n 0, 1) := by decide +kernel
theorem dL_473 : decode code 473 = .ok (.iload_n 3, 1) := by decide +kernel
theorem dL_474 : decode code 474 = .ok (.iconst 2, 1) := by decide +kernel
theorem dL_475 : decode code 475 = .ok (.iadd, 1) := by decide +kernel
theorem dL_476 : decode code 476 = .ok (.iaload, 1) := by decide +kernel
theorem dL_477 : decode code 477 = .ok (.aload_n 0, 1) := by decide +kernel
theorem dL_478 : decode code 478 = .ok (.iload_n 3, 1) := by decide +kernel
theorem dL_479 : decode code 479 = .ok (.iconst 3, 1) := by decide +kernel
theorem dL_480 : decode code 480 = .ok (.iadd, 1) := by decide +kernel
theorem dL_481 : decode code 481 = .ok (.iaload, 1) := by decide +kernel
theorem dL_482 : decode code 482 = .ok (.aload_n 0, 1) := by decide +kernel
theorem dL_483 : decode code 483 = .ok (.iload_n 3, 1) := by decide +kernel
theorem dL_484 : decode code 484 = .ok (.iconst 4, 1) := by decide +kernel
theorem dL_485 : decode code 485 = .ok (.iadd, 1) := by decide +kernel
theorem dL_486 : decode code 486 = .ok (.iaload, 1) := by decide +kernel
theorem dL_487 : decode code 487 = .ok (.aload_n 0, 1) := by decide +kernel
theorem dL_488 : decode code 488 = .ok (.iload_n 3, 1) := by decide +kernel
theorem dL_489 : decode code 489 = .ok (.iconst 5, 1) := by decide +kernel
theorem dL_490 : decode code 490 = .ok (.iadd, 1) := by decide +kernel
theorem dL_491 : decode code 491 = .ok (.iaload, 1) := by decide +kernel
theorem dL_492 : decode code 492 = .ok (.invokevirtual 40, 3) := by decide +kernel
theorem dL_495 : decode code 495 = .ok (.aload_n 2, 1) := by decide +kernel
theorem dL_496 : decode code 496 = .ok (.aload_n 0, 1) := by decide +kernel
theorem dL_497 : decode code 497 = .ok (.iload_n 3, 1) := by decide +kernel
theorem dL_498 : decode code 498 = .ok (.iconst 1, 1) := by decide +kernel
theorem dL_499 : decode code 499 = .ok (.iadd, 1) := by decide +kernel
theorem dL_500 : decode code 500 = .ok (.iaload, 1) := by decide +kernel
theorem dL_501 : decode code 501 = .ok (.aload_n 0, 1) := by decide +kernel
theorem dL_502 : decode code 502 = .ok (.iload_n 3, 1) := by decide +kernel
theorem dL_503 : decode code 503 = .ok (.iconst 2, 1) := by decide +kernel
theorem dL_504 : decode code 504 = .ok (.iadd, 1) := by decide +kernel
theorem dL_505 : decode code 505 = .ok (.iaload, 1) := by decide +kernel
theorem dL_506 : decode code 506 = .ok (.aload_n 0, 1) := by decide +kernel
theorem dL_507 : decode code 507 = .ok (.iload_n 3, 1) := by decide +kernel
theorem dL_508 : decode code 508 = .ok (.iconst 3, 1) := by decide +kernel
theorem dL_509 : decode code 509 = .ok (.iadd, 1) := by decide +kernel
theorem dL_510 : decode code 510 = .ok (.iaload, 1) := by decide +kernel
theorem dL_511 : decode code 511 = .ok (.aload_n 0, 1) := by decide +kernel
theorem dL_512 : decode code 512 = .ok (.iload_n 3, 1) := by decide +kernel
theorem dL_513 : decode code 513 = .ok (.iconst 4, 1) := by decide +kernel
theorem dL_514 : decode code 514 = .ok (.iadd, 1) := by decide +kernel
theorem dL_515 : decode code 515 = .ok (.iaload, 1) := by decide +kernel
theorem dL_516 : decode code 516 = .ok (.aload_n 0, 1) := by decide +kernel
theorem dL_517 : decode code 517 = .ok (.iload_n 3, 1) := by decide +kernel
theorem dL_518 : decode code 518 = .ok (.iconst 5, 1) := by decide +kernel
theorem dL_519 : decode code 519 = .ok (.iadd, 1) := by decide +kernel
theorem dL_520 : decode code 520 = .ok (.iaload, 1) := by decide +kernel
theorem dL_521 : decode code 521 = .ok (.invokevirtual 43, 3) := by decide +kernel
theorem dL_524 : decode code 524 = .ok (.if_icmp .eq 1031, 3) := by decide +kernel
theorem ml_L_40 : Cond.methodLink R_law 40 yX11_stamp ∈ AW := (aw_m3 83 (by decide +kernel) rfl)
theorem ml_L_43 : Cond.methodLink R_law 43 yX12_stamp ∈ AW := (aw_m6 154 (by decide +kernel) rfl)
set_option maxHeartbeats 4000000 in
set_option maxRecDepth 100000 in
theorem lc_6 {p : Program} {l : Launch} {e : Env} {s : State} {m : MethodId} {below : List Frame} {meth : Method} {c : Code} {H : Heap} {locs : List Loc} {cells slots : Nat} {Q : State → Prop} {g : zG} {h : HF} {ls : Array Slot} {b L : Nat} {xs : Nat → Int32} {F : Nat} {Inv : HF → Prop} (hS : PS_stamp F Inv) (lx : Lx p s m meth c b L xs g) (hcs : cells ≤ room_1.cells ∧ slots ≤ room_1.slots) {x : Int} (hx : 0 ≤ x ∧ x + 6 ≤ (L : Int)) (hI : Inv h) (hp : Hp g s.heap.size s h H locs) (hl : lv_has ls 4 [(0, .ref b), (1, .ref (s.heap.size + 0)), (2, .ref (s.heap.size + 181)), (3, .int (ii x))]) (kk : ∀ (h : HF) (H : Heap) (locs : List Loc), Inv h → Hp g s.heap.size s h H locs → W p l e room_1 s m #[Value.ref b] below meth c H locs cells slots Q (F0 m 1555 ls [])) : W p l e room_1 s m #[Value.ref b] below meth c H locs cells slots Q (F0 m 466 ls []) := by
  have cx := lx.1
  obtain ⟨s1, e1⟩ : ∃ z, z = (xs (x + 1).toNat).toInt := ⟨_, rfl⟩
  have rs1 : rng s1 := by rw [e1]; exact rng_ti _
  obtain ⟨s2, e2⟩ : ∃ z, z = (xs (x + 2).toNat).toInt := ⟨_, rfl⟩
  have rs2 : rng s2 := by rw [e2]; exact rng_ti _
  obtain ⟨s3, e3⟩ : ∃ z, z = (xs (x + 3).toNat).toInt := ⟨_, rfl⟩
  have rs3 : rng s3 := by rw [e3]; exact rng_ti _
  obtain ⟨s4, e4⟩ : ∃ z, z = (xs (x + 4).toNat).toInt := ⟨_, rfl⟩
  have rs4 : rng s4 := by rw [e4]; exact rng_ti _
  obtain ⟨s5, e5⟩ : ∃ z, z = (xs (x + 5).toNat).toInt := ⟨_, rfl⟩
  have rs5 : rng s5 := by rw [e5]; exact rng_ti _
  obtain ⟨r, h1, h2, f1, f2, hI2⟩ := hS h s1 s2 s3 s4 s5 hI rs1 rs2 rs3 rs4 rs5
  refine lv_aload_n cx.1 cx.2.1 dL_466 rfl (lv_at hl 1 rfl) ?_
  refine l_arg lx hp hl (j := 1) ⟨by omega, by omega⟩ dL_467 dL_468 dL_469 dL_470 dL_471 ?_
  rw [← e1]
  refine l_arg lx hp hl (j := 2) ⟨by omega, by omega⟩ dL_472 dL_473 dL_474 dL_475 dL_476 ?_
  rw [← e2]
  refine l_arg lx hp hl (j := 3) ⟨by omega, by omega⟩ dL_477 dL_478 dL_479 dL_480 dL_481 ?_
  rw [← e3]
  refine l_arg lx hp hl (j := 4) ⟨by omega, by omega⟩ dL_482 dL_483 dL_484 dL_485 dL_486 ?_
  rw [← e4]
  refine l_arg lx hp hl (j := 5) ⟨by omega, by omega⟩ dL_487 dL_488 dL_489 dL_490 dL_491 ?_
  rw [← e5]
  refine l_call (As := [.int (ii s1), .int (ii s2), .int (ii s3), .int (ii s4), .int (ii s5)]) (rest := []) cx hp (mX11_stamp F l g s.heap.size h 0 s1 s2 s3 s4 s5 (by decide) rs1 rs2 rs3 rs4 rs5) 11 (by decide) (by decide) rfl vw_X11_stamp ml_L_40 ⟨by decide, by decide⟩ hcs rfl hl.1 rfl (Nat.le_of_ble_eq_true rfl) dL_492 f1 (fun H locs rr hp => ?_)
  refine lv_aload_n cx.1 cx.2.1 dL_495 rfl (lv_at hl 2 rfl) ?_
  refine l_arg lx hp hl (j := 1) ⟨by omega, by omega⟩ dL_496 dL_497 dL_498 dL_499 dL_500 ?_
  rw [← e1]
  refine l_arg lx hp hl (j := 2) ⟨by omega, by omega⟩ dL_501 dL_502 dL_503 dL_504 dL_505 ?_
  rw [← e2]
  refine l_arg lx hp hl (j := 3) ⟨by omega, by omega⟩ dL_506 dL_507 dL_508 dL_509 dL_510 ?_
  rw [← e3]
  refine l_arg lx hp hl (j := 4) ⟨by omega, by omega⟩ dL_511 dL_512 dL_513 dL_514 dL_515 ?_
  rw [← e4]
  refine l_arg lx hp hl (j := 5) ⟨by omega, by omega⟩ dL_516 dL_517 dL_518 dL_519 dL_520 ?_
  rw [← e5]
  refine l_call (As := [.int (ii s1), .int (ii s2), .int (ii s3), .int (ii s4), .int (ii s5)]) (rest := [.int (ii r)]) cx hp (mX12_stamp F l g s.heap.size h1 181 s1 s2 s3 s4 s5 (by decide) rs1 rs2 rs3 rs4 rs5) 12 (by decide) (by decide) rfl vw_X12_stamp ml_L_43 ⟨by decide, by decide⟩ hcs rfl hl.1 rfl (Nat.le_of_ble_eq_true rfl) dL_521 f2 (fun H locs rr hp => ?_)
  refine lv_icmp_eq (tgt := 1555) cx.1 cx.2.1 dL_524 (by decide) (fun _ => ?_) (fun q => absurd rfl q)
  exact kk h2 _ _ hI2 hp
