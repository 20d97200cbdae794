theorem mz_tagS (a : Nat) : mz_tag mz_S0 a = mz_tag (mz_SH, fun _ _ => none) a := by
  unfold mz_tag
  rw [mz_S0_eq, mz_r2_sh]
theorem mz_lenS (a : Nat) : mz_len mz_S0 a = mz_len (mz_SH, fun _ _ => none) a := by
  unfold mz_len
  rw [mz_S0_eq, mz_r2_sh]
def mz_rf (a k : Nat) : Option Nat := (mz_RT.find? fun q => Nat.beq q.1 a && Nat.beq q.2.1 k).map fun q => q.2.2
theorem mz_rfS {a k r : Nat} (h : mz_rf a k = some r) : mz_S0.2 a k = some r := by
  unfold mz_rf at h
  cases hf : mz_RT.find? (fun q => Nat.beq q.1 a && Nat.beq q.2.1 k) with
  | none => rw [hf] at h; cases h
  | some q =>
    rw [hf] at h
    cases h
    have h1 := List.find?_some hf
    simp only [Bool.and_eq_true] at h1
    have h2 := of_decide_eq_true (List.all_eq_true.mp mz_r2_rf q (List.mem_of_find?_eq_some hf))
    rw [mz_S0_eq, ← Nat.eq_of_beq_eq_true h1.1, ← Nat.eq_of_beq_eq_true h1.2]
    exact h2
theorem tg_1 : mz_tag mz_S0 1 = 17 := (mz_tagS 1).trans (by decide +kernel)
theorem ln_1 : mz_len mz_S0 1 = 14 := (mz_lenS 1).trans (by decide +kernel)
theorem tg_2 : mz_tag mz_S0 2 = 13 := (mz_tagS 2).trans (by decide +kernel)
theorem ln_2 : mz_len mz_S0 2 = 2 := (mz_lenS 2).trans (by decide +kernel)
theorem tg_3 : mz_tag mz_S0 3 = 2 := (mz_tagS 3).trans (by decide +kernel)
theorem ln_3 : mz_len mz_S0 3 = 2000 := (mz_lenS 3).trans (by decide +kernel)
theorem tg_4 : mz_tag mz_S0 4 = 14 := (mz_tagS 4).trans (by decide +kernel)
theorem ln_4 : mz_len mz_S0 4 = 9 := (mz_lenS 4).trans (by decide +kernel)
theorem tg_5 : mz_tag mz_S0 5 = 4 := (mz_tagS 5).trans (by decide +kernel)
theorem ln_5 : mz_len mz_S0 5 = 6 := (mz_lenS 5).trans (by decide +kernel)
theorem tg_6 : mz_tag mz_S0 6 = 0 := (mz_tagS 6).trans (by decide +kernel)
theorem ln_6 : mz_len mz_S0 6 = 24 := (mz_lenS 6).trans (by decide +kernel)
theorem tg_7 : mz_tag mz_S0 7 = 0 := (mz_tagS 7).trans (by decide +kernel)
theorem ln_7 : mz_len mz_S0 7 = 32 := (mz_lenS 7).trans (by decide +kernel)
theorem tg_8 : mz_tag mz_S0 8 = 8 := (mz_tagS 8).trans (by decide +kernel)
theorem ln_8 : mz_len mz_S0 8 = 6 := (mz_lenS 8).trans (by decide +kernel)
theorem tg_9 : mz_tag mz_S0 9 = 0 := (mz_tagS 9).trans (by decide +kernel)
theorem ln_9 : mz_len mz_S0 9 = 404 := (mz_lenS 9).trans (by decide +kernel)
theorem tg_10 : mz_tag mz_S0 10 = 0 := (mz_tagS 10).trans (by decide +kernel)
theorem ln_10 : mz_len mz_S0 10 = 56 := (mz_lenS 10).trans (by decide +kernel)
theorem tg_11 : mz_tag mz_S0 11 = 0 := (mz_tagS 11).trans (by decide +kernel)
theorem ln_11 : mz_len mz_S0 11 = 4 := (mz_lenS 11).trans (by decide +kernel)
theorem tg_12 : mz_tag mz_S0 12 = 0 := (mz_tagS 12).trans (by decide +kernel)
theorem ln_12 : mz_len mz_S0 12 = 32 := (mz_lenS 12).trans (by decide +kernel)
theorem tg_13 : mz_tag mz_S0 13 = 14 := (mz_tagS 13).trans (by decide +kernel)
theorem ln_13 : mz_len mz_S0 13 = 9 := (mz_lenS 13).trans (by decide +kernel)
theorem tg_14 : mz_tag mz_S0 14 = 4 := (mz_tagS 14).trans (by decide +kernel)
theorem ln_14 : mz_len mz_S0 14 = 6 := (mz_lenS 14).trans (by decide +kernel)
theorem tg_15 : mz_tag mz_S0 15 = 0 := (mz_tagS 15).trans (by decide +kernel)
theorem ln_15 : mz_len mz_S0 15 = 24 := (mz_lenS 15).trans (by decide +kernel)
theorem tg_16 : mz_tag mz_S0 16 = 0 := (mz_tagS 16).trans (by decide +kernel)
theorem ln_16 : mz_len mz_S0 16 = 32 := (mz_lenS 16).trans (by decide +kernel)
theorem tg_17 : mz_tag mz_S0 17 = 8 := (mz_tagS 17).trans (by decide +kernel)
theorem ln_17 : mz_len mz_S0 17 = 6 := (mz_lenS 17).trans (by decide +kernel)
theorem tg_18 : mz_tag mz_S0 18 = 0 := (mz_tagS 18).trans (by decide +kernel)
theorem ln_18 : mz_len mz_S0 18 = 404 := (mz_lenS 18).trans (by decide +kernel)
theorem tg_19 : mz_tag mz_S0 19 = 0 := (mz_tagS 19).trans (by decide +kernel)
theorem ln_19 : mz_len mz_S0 19 = 56 := (mz_lenS 19).trans (by decide +kernel)
theorem tg_20 : mz_tag mz_S0 20 = 0 := (mz_tagS 20).trans (by decide +kernel)
theorem ln_20 : mz_len mz_S0 20 = 4 := (mz_lenS 20).trans (by decide +kernel)
theorem tg_21 : mz_tag mz_S0 21 = 0 := (mz_tagS 21).trans (by decide +kernel)
theorem ln_21 : mz_len mz_S0 21 = 32 := (mz_lenS 21).trans (by decide +kernel)
theorem tg_22 : mz_tag mz_S0 22 = 10 := (mz_tagS 22).trans (by decide +kernel)
theorem ln_22 : mz_len mz_S0 22 = 8 := (mz_lenS 22).trans (by decide +kernel)
theorem tg_23 : mz_tag mz_S0 23 = 15 := (mz_tagS 23).trans (by decide +kernel)
theorem ln_23 : mz_len mz_S0 23 = 6 := (mz_lenS 23).trans (by decide +kernel)
theorem tg_24 : mz_tag mz_S0 24 = 2 := (mz_tagS 24).trans (by decide +kernel)
theorem ln_24 : mz_len mz_S0 24 = 402 := (mz_lenS 24).trans (by decide +kernel)
theorem tg_25 : mz_tag mz_S0 25 = 3 := (mz_tagS 25).trans (by decide +kernel)
theorem ln_25 : mz_len mz_S0 25 = 402 := (mz_lenS 25).trans (by decide +kernel)
theorem tg_26 : mz_tag mz_S0 26 = 4 := (mz_tagS 26).trans (by decide +kernel)
theorem ln_26 : mz_len mz_S0 26 = 402 := (mz_lenS 26).trans (by decide +kernel)
theorem tg_27 : mz_tag mz_S0 27 = 9 := (mz_tagS 27).trans (by decide +kernel)
theorem ln_27 : mz_len mz_S0 27 = 2 := (mz_lenS 27).trans (by decide +kernel)
theorem tg_28 : mz_tag mz_S0 28 = 0 := (mz_tagS 28).trans (by decide +kernel)
theorem ln_28 : mz_len mz_S0 28 = 9 := (mz_lenS 28).trans (by decide +kernel)
theorem tg_37 : mz_tag mz_S0 37 = 7 := (mz_tagS 37).trans (by decide +kernel)
theorem ln_37 : mz_len mz_S0 37 = 3 := (mz_lenS 37).trans (by decide +kernel)
theorem tg_38 : mz_tag mz_S0 38 = 5 := (mz_tagS 38).trans (by decide +kernel)
theorem ln_38 : mz_len mz_S0 38 = 40 := (mz_lenS 38).trans (by decide +kernel)
theorem tg_199 : mz_tag mz_S0 199 = 5 := (mz_tagS 199).trans (by decide +kernel)
theorem ln_199 : mz_len mz_S0 199 = 3 := (mz_lenS 199).trans (by decide +kernel)
theorem tg_200 : mz_tag mz_S0 200 = 1 := (mz_tagS 200).trans (by decide +kernel)
theorem ln_200 : mz_len mz_S0 200 = 3 := (mz_lenS 200).trans (by decide +kernel)
theorem tg_201 : mz_tag mz_S0 201 = 11 := (mz_tagS 201).trans (by decide +kernel)
theorem ln_201 : mz_len mz_S0 201 = 10 := (mz_lenS 201).trans (by decide +kernel)
theorem tg_202 : mz_tag mz_S0 202 = 5 := (mz_tagS 202).trans (by decide +kernel)
theorem ln_202 : mz_len mz_S0 202 = 4 := (mz_lenS 202).trans (by decide +kernel)
theorem tg_203 : mz_tag mz_S0 203 = 0 := (mz_tagS 203).trans (by decide +kernel)
theorem ln_203 : mz_len mz_S0 203 = 3 := (mz_lenS 203).trans (by decide +kernel)
theorem tg_220 : mz_tag mz_S0 220 = 6 := (mz_tagS 220).trans (by decide +kernel)
theorem ln_220 : mz_len mz_S0 220 = 3 := (mz_lenS 220).trans (by decide +kernel)
theorem tg_221 : mz_tag mz_S0 221 = 0 := (mz_tagS 221).trans (by decide +kernel)
theorem ln_221 : mz_len mz_S0 221 = 6 := (mz_lenS 221).trans (by decide +kernel)
theorem tg_222 : mz_tag mz_S0 222 = 16 := (mz_tagS 222).trans (by decide +kernel)
theorem ln_222 : mz_len mz_S0 222 = 7 := (mz_lenS 222).trans (by decide +kernel)
theorem tg_223 : mz_tag mz_S0 223 = 0 := (mz_tagS 223).trans (by decide +kernel)
theorem ln_223 : mz_len mz_S0 223 = 20 := (mz_lenS 223).trans (by decide +kernel)
theorem tg_224 : mz_tag mz_S0 224 = 0 := (mz_tagS 224).trans (by decide +kernel)
theorem ln_224 : mz_len mz_S0 224 = 20 := (mz_lenS 224).trans (by decide +kernel)
theorem tg_225 : mz_tag mz_S0 225 = 0 := (mz_tagS 225).trans (by decide +kernel)
theorem ln_225 : mz_len mz_S0 225 = 20 := (mz_lenS 225).trans (by decide +kernel)
theorem tg_226 : mz_tag mz_S0 226 = 1 := (mz_tagS 226).trans (by decide +kernel)
theorem ln_226 : mz_len mz_S0 226 = 20 := (mz_lenS 226).trans (by decide +kernel)
theorem tg_239 : mz_tag mz_S0 239 = 18 := (mz_tagS 239).trans (by decide +kernel)
theorem ln_239 : mz_len mz_S0 239 = 70 := (mz_lenS 239).trans (by decide +kernel)
theorem tg_240 : mz_tag mz_S0 240 = 2 := (mz_tagS 240).trans (by decide +kernel)
theorem ln_240 : mz_len mz_S0 240 = 2000 := (mz_lenS 240).trans (by decide +kernel)
theorem tg_241 : mz_tag mz_S0 241 = 2 := (mz_tagS 241).trans (by decide +kernel)
theorem ln_241 : mz_len mz_S0 241 = 2000 := (mz_lenS 241).trans (by decide +kernel)
theorem tg_242 : mz_tag mz_S0 242 = 0 := (mz_tagS 242).trans (by decide +kernel)
theorem ln_242 : mz_len mz_S0 242 = 403 := (mz_lenS 242).trans (by decide +kernel)
theorem tg_243 : mz_tag mz_S0 243 = 0 := (mz_tagS 243).trans (by decide +kernel)
theorem ln_243 : mz_len mz_S0 243 = 403 := (mz_lenS 243).trans (by decide +kernel)
theorem tg_244 : mz_tag mz_S0 244 = 0 := (mz_tagS 244).trans (by decide +kernel)
theorem ln_244 : mz_len mz_S0 244 = 403 := (mz_lenS 244).trans (by decide +kernel)
theorem tg_245 : mz_tag mz_S0 245 = 4 := (mz_tagS 245).trans (by decide +kernel)
theorem ln_245 : mz_len mz_S0 245 = 403 := (mz_lenS 245).trans (by decide +kernel)
theorem tg_246 : mz_tag mz_S0 246 = 4 := (mz_tagS 246).trans (by decide +kernel)
theorem ln_246 : mz_len mz_S0 246 = 21 := (mz_lenS 246).trans (by decide +kernel)
theorem tg_247 : mz_tag mz_S0 247 = 4 := (mz_tagS 247).trans (by decide +kernel)
theorem ln_247 : mz_len mz_S0 247 = 6 := (mz_lenS 247).trans (by decide +kernel)
theorem tg_248 : mz_tag mz_S0 248 = 0 := (mz_tagS 248).trans (by decide +kernel)
theorem ln_248 : mz_len mz_S0 248 = 2 := (mz_lenS 248).trans (by decide +kernel)
theorem tg_249 : mz_tag mz_S0 249 = 0 := (mz_tagS 249).trans (by decide +kernel)
theorem ln_249 : mz_len mz_S0 249 = 48 := (mz_lenS 249).trans (by decide +kernel)
theorem tg_250 : mz_tag mz_S0 250 = 0 := (mz_tagS 250).trans (by decide +kernel)
theorem ln_250 : mz_len mz_S0 250 = 2 := (mz_lenS 250).trans (by decide +kernel)
theorem tg_251 : mz_tag mz_S0 251 = 0 := (mz_tagS 251).trans (by decide +kernel)
theorem ln_251 : mz_len mz_S0 251 = 16 := (mz_lenS 251).trans (by decide +kernel)
theorem tg_252 : mz_tag mz_S0 252 = 0 := (mz_tagS 252).trans (by decide +kernel)
theorem ln_252 : mz_len mz_S0 252 = 16 := (mz_lenS 252).trans (by decide +kernel)
theorem tg_253 : mz_tag mz_S0 253 = 0 := (mz_tagS 253).trans (by decide +kernel)
theorem ln_253 : mz_len mz_S0 253 = 16 := (mz_lenS 253).trans (by decide +kernel)
theorem tg_254 : mz_tag mz_S0 254 = 0 := (mz_tagS 254).trans (by decide +kernel)
theorem ln_254 : mz_len mz_S0 254 = 16 := (mz_lenS 254).trans (by decide +kernel)
theorem tg_255 : mz_tag mz_S0 255 = 0 := (mz_tagS 255).trans (by decide +kernel)
theorem ln_255 : mz_len mz_S0 255 = 2 := (mz_lenS 255).trans (by decide +kernel)
theorem tg_256 : mz_tag mz_S0 256 = 0 := (mz_tagS 256).trans (by decide +kernel)
theorem ln_256 : mz_len mz_S0 256 = 2 := (mz_lenS 256).trans (by decide +kernel)
theorem tg_257 : mz_tag mz_S0 257 = 0 := (mz_tagS 257).trans (by decide +kernel)
theorem ln_257 : mz_len mz_S0 257 = 2 := (mz_lenS 257).trans (by decide +kernel)
theorem tg_258 : mz_tag mz_S0 258 = 0 := (mz_tagS 258).trans (by decide +kernel)
theorem ln_258 : mz_len mz_S0 258 = 8 := (mz_lenS 258).trans (by decide +kernel)
theorem tg_259 : mz_tag mz_S0 259 = 0 := (mz_tagS 259).trans (by decide +kernel)
theorem ln_259 : mz_len mz_S0 259 = 8 := (mz_lenS 259).trans (by decide +kernel)
theorem tg_260 : mz_tag mz_S0 260 = 1 := (mz_tagS 260).trans (by decide +kernel)
theorem ln_260 : mz_len mz_S0 260 = 260 := (mz_lenS 260).trans (by decide +kernel)
theorem tg_261 : mz_tag mz_S0 261 = 0 := (mz_tagS 261).trans (by decide +kernel)
theorem ln_261 : mz_len mz_S0 261 = 260 := (mz_lenS 261).trans (by decide +kernel)
theorem tg_262 : mz_tag mz_S0 262 = 0 := (mz_tagS 262).trans (by decide +kernel)
theorem ln_262 : mz_len mz_S0 262 = 260 := (mz_lenS 262).trans (by decide +kernel)
theorem tg_263 : mz_tag mz_S0 263 = 0 := (mz_tagS 263).trans (by decide +kernel)
theorem ln_263 : mz_len mz_S0 263 = 260 := (mz_lenS 263).trans (by decide +kernel)
theorem tg_264 : mz_tag mz_S0 264 = 0 := (mz_tagS 264).trans (by decide +kernel)
theorem ln_264 : mz_len mz_S0 264 = 260 := (mz_lenS 264).trans (by decide +kernel)
theorem tg_265 : mz_tag mz_S0 265 = 0 := (mz_tagS 265).trans (by decide +kernel)
theorem ln_265 : mz_len mz_S0 265 = 840 := (mz_lenS 265).trans (by decide +kernel)
theorem tg_266 : mz_tag mz_S0 266 = 0 := (mz_tagS 266).trans (by decide +kernel)
theorem ln_266 : mz_len mz_S0 266 = 840 := (mz_lenS 266).trans (by decide +kernel)
theorem tg_267 : mz_tag mz_S0 267 = 0 := (mz_tagS 267).trans (by decide +kernel)
theorem ln_267 : mz_len mz_S0 267 = 64 := (mz_lenS 267).trans (by decide +kernel)
theorem tg_268 : mz_tag mz_S0 268 = 0 := (mz_tagS 268).trans (by decide +kernel)
theorem ln_268 : mz_len mz_S0 268 = 9 := (mz_lenS 268).trans (by decide +kernel)
theorem tg_269 : mz_tag mz_S0 269 = 0 := (mz_tagS 269).trans (by decide +kernel)
theorem ln_269 : mz_len mz_S0 269 = 400 := (mz_lenS 269).trans (by decide +kernel)
theorem tg_270 : mz_tag mz_S0 270 = 0 := (mz_tagS 270).trans (by decide +kernel)
theorem ln_270 : mz_len mz_S0 270 = 39 := (mz_lenS 270).trans (by decide +kernel)
theorem tg_271 : mz_tag mz_S0 271 = 0 := (mz_tagS 271).trans (by decide +kernel)
theorem ln_271 : mz_len mz_S0 271 = 39 := (mz_lenS 271).trans (by decide +kernel)
theorem tg_272 : mz_tag mz_S0 272 = 0 := (mz_tagS 272).trans (by decide +kernel)
theorem ln_272 : mz_len mz_S0 272 = 4 := (mz_lenS 272).trans (by decide +kernel)
theorem tg_273 : mz_tag mz_S0 273 = 0 := (mz_tagS 273).trans (by decide +kernel)
theorem ln_273 : mz_len mz_S0 273 = 1560 := (mz_lenS 273).trans (by decide +kernel)
theorem tg_274 : mz_tag mz_S0 274 = 0 := (mz_tagS 274).trans (by decide +kernel)
theorem ln_274 : mz_len mz_S0 274 = 15 := (mz_lenS 274).trans (by decide +kernel)
theorem tg_275 : mz_tag mz_S0 275 = 0 := (mz_tagS 275).trans (by decide +kernel)
theorem ln_275 : mz_len mz_S0 275 = 6 := (mz_lenS 275).trans (by decide +kernel)
theorem tg_276 : mz_tag mz_S0 276 = 0 := (mz_tagS 276).trans (by decide +kernel)
theorem ln_276 : mz_len mz_S0 276 = 64 := (mz_lenS 276).trans (by decide +kernel)
theorem tg_277 : mz_tag mz_S0 277 = 0 := (mz_tagS 277).trans (by decide +kernel)
theorem ln_277 : mz_len mz_S0 277 = 20 := (mz_lenS 277).trans (by decide +kernel)
theorem tg_278 : mz_tag mz_S0 278 = 0 := (mz_tagS 278).trans (by decide +kernel)
theorem ln_278 : mz_len mz_S0 278 = 20 := (mz_lenS 278).trans (by decide +kernel)
theorem tg_279 : mz_tag mz_S0 279 = 1 := (mz_tagS 279).trans (by decide +kernel)
theorem ln_279 : mz_len mz_S0 279 = 20 := (mz_lenS 279).trans (by decide +kernel)
theorem tg_280 : mz_tag mz_S0 280 = 1 := (mz_tagS 280).trans (by decide +kernel)
theorem ln_280 : mz_len mz_S0 280 = 15 := (mz_lenS 280).trans (by decide +kernel)
theorem tg_281 : mz_tag mz_S0 281 = 0 := (mz_tagS 281).trans (by decide +kernel)
theorem ln_281 : mz_len mz_S0 281 = 360 := (mz_lenS 281).trans (by decide +kernel)
theorem tg_282 : mz_tag mz_S0 282 = 1 := (mz_tagS 282).trans (by decide +kernel)
theorem ln_282 : mz_len mz_S0 282 = 3 := (mz_lenS 282).trans (by decide +kernel)
theorem tg_283 : mz_tag mz_S0 283 = 0 := (mz_tagS 283).trans (by decide +kernel)
theorem ln_283 : mz_len mz_S0 283 = 117 := (mz_lenS 283).trans (by decide +kernel)
def mz_SL : List Nat := [29, 33, 39, 43, 47, 51, 55, 59, 63, 67, 71, 75, 79, 83, 87, 91, 95, 99, 103, 107, 111, 115, 119, 123, 127, 131, 135, 139, 143, 147, 151, 155, 159, 163, 167, 171, 175, 179, 183, 187, 191, 195, 204, 208, 212, 216, 227, 231, 235]
def mz_isS (s : Nat) : Bool := mz_SL.contains s
def mz_stB (s : Nat) : Bool := Nat.beq (mz_tag (mz_SH, fun _ _ => none) s) 12 && Nat.beq (mz_len (mz_SH, fun _ _ => none) s) 8 && Nat.beq (mz_tag (mz_SH, fun _ _ => none) (s + 1)) 0 && Nat.beq (mz_len (mz_SH, fun _ _ => none) (s + 1)) 24 && Nat.beq (mz_tag (mz_SH, fun _ _ => none) (s + 2)) 0 && Nat.beq (mz_len (mz_SH, fun _ _ => none) (s + 2)) 4 && Nat.beq (mz_tag (mz_SH, fun _ _ => none) (s + 3)) 0 && Nat.beq (mz_len (mz_SH, fun _ _ => none) (s + 3)) 6 && decide (mz_rf s 0 = some (s + 1)) && decide (mz_rf s 1 = some (s + 2)) && decide (mz_rf s 2 = some (s + 3))
theorem mz_stB_ok : mz_SL.all mz_stB = true := by decide +kernel
theorem mz_stX {s : Nat} (hs : mz_isS s = true) : mz_stB s = true := List.all_eq_true.mp mz_stB_ok s (List.contains_iff_mem.mp hs)
theorem st_t {s : Nat} (hs : mz_isS s = true) : mz_tag mz_S0 s = 12 := by
  have h := mz_stX hs
  unfold mz_stB at h
  simp only [Bool.and_eq_true] at h
  replace h := h.1.1.1.1.1.1.1.1.1.1
  exact (mz_tagS _).trans (Nat.eq_of_beq_eq_true h)
theorem st_l {s : Nat} (hs : mz_isS s = true) : mz_len mz_S0 s = 8 := by
  have h := mz_stX hs
  unfold mz_stB at h
  simp only [Bool.and_eq_true] at h
  replace h := h.1.1.1.1.1.1.1.1.1.2
  exact (mz_lenS _).trans (Nat.eq_of_beq_eq_true h)
theorem st_ct {s : Nat} (hs : mz_isS s = true) : mz_tag mz_S0 (s + 1) = 0 := by
  have h := mz_stX hs
  unfold mz_stB at h
  simp only [Bool.and_eq_true] at h
  replace h := h.1.1.1.1.1.1.1.1.2
  exact (mz_tagS _).trans (Nat.eq_of_beq_eq_true h)
theorem st_cl {s : Nat} (hs : mz_isS s = true) : mz_len mz_S0 (s + 1) = 24 := by
  have h := mz_stX hs
  unfold mz_stB at h
  simp only [Bool.and_eq_true] at h
  replace h := h.1.1.1.1.1.1.1.2
  exact (mz_lenS _).trans (Nat.eq_of_beq_eq_true h)
theorem st_wt {s : Nat} (hs : mz_isS s = true) : mz_tag mz_S0 (s + 2) = 0 := by
  have h := mz_stX hs
  unfold mz_stB at h
  simp only [Bool.and_eq_true] at h
  replace h := h.1.1.1.1.1.1.2
  exact (mz_tagS _).trans (Nat.eq_of_beq_eq_true h)
theorem st_wl {s : Nat} (hs : mz_isS s = true) : mz_len mz_S0 (s + 2) = 4 := by
  have h := mz_stX hs
  unfold mz_stB at h
  simp only [Bool.and_eq_true] at h
  replace h := h.1.1.1.1.1.2
  exact (mz_lenS _).trans (Nat.eq_of_beq_eq_true h)
theorem st_pt {s : Nat} (hs : mz_isS s = true) : mz_tag mz_S0 (s + 3) = 0 := by
  have h := mz_stX hs
  unfold mz_stB at h
  simp only [Bool.and_eq_true] at h
  replace h := h.1.1.1.1.2
  exact (mz_tagS _).trans (Nat.eq_of_beq_eq_true h)
theorem st_pl {s : Nat} (hs : mz_isS s = true) : mz_len mz_S0 (s + 3) = 6 := by
  have h := mz_stX hs
  unfold mz_stB at h
  simp only [Bool.and_eq_true] at h
  replace h := h.1.1.1.2
  exact (mz_lenS _).trans (Nat.eq_of_beq_eq_true h)
theorem st_c {s : Nat} (hs : mz_isS s = true) : mz_S0.2 s 0 = some (s + 1) := by
  have h := mz_stX hs
  unfold mz_stB at h
  simp only [Bool.and_eq_true] at h
  replace h := h.1.1.2
  exact mz_rfS (of_decide_eq_true h)
theorem st_w {s : Nat} (hs : mz_isS s = true) : mz_S0.2 s 1 = some (s + 2) := by
  have h := mz_stX hs
  unfold mz_stB at h
  simp only [Bool.and_eq_true] at h
  replace h := h.1.2
  exact mz_rfS (of_decide_eq_true h)
theorem st_p {s : Nat} (hs : mz_isS s = true) : mz_S0.2 s 2 = some (s + 3) := by
  have h := mz_stX hs
  unfold mz_stB at h
  simp only [Bool.and_eq_true] at h
  replace h := h.2
  exact mz_rfS (of_decide_eq_true h)
def mz_isT (t : Nat) : Bool := Nat.beq t 4 || Nat.beq t 13
theorem tx_t {t : Nat} (h : mz_isT t = true) : mz_tag mz_S0 t = 14 := by
  unfold mz_isT at h
  rw [Bool.or_eq_true] at h
  rcases h with h | h
  · rw [Nat.eq_of_beq_eq_true h]; exact (mz_tagS _).trans (by decide +kernel)
  · rw [Nat.eq_of_beq_eq_true h]; exact (mz_tagS _).trans (by decide +kernel)
theorem tx_l {t : Nat} (h : mz_isT t = true) : mz_len mz_S0 t = 9 := by
  unfold mz_isT at h
  rw [Bool.or_eq_true] at h
  rcases h with h | h
  · rw [Nat.eq_of_beq_eq_true h]; exact (mz_lenS _).trans (by decide +kernel)
  · rw [Nat.eq_of_beq_eq_true h]; exact (mz_lenS _).trans (by decide +kernel)
theorem tx_nt {t : Nat} (h : mz_isT t = true) : mz_tag mz_S0 (t + 1) = 4 := by
  unfold mz_isT at h
  rw [Bool.or_eq_true] at h
  rcases h with h | h
  · rw [Nat.eq_of_beq_eq_true h]; exact (mz_tagS _).trans (by decide +kernel)
  · rw [Nat.eq_of_beq_eq_true h]; exact (mz_tagS _).trans (by decide +kernel)
theorem tx_nl {t : Nat} (h : mz_isT t = true) : mz_len mz_S0 (t + 1) = 6 := by
  unfold mz_isT at h
  rw [Bool.or_eq_true] at h
  rcases h with h | h
  · rw [Nat.eq_of_beq_eq_true h]; exact (mz_lenS _).trans (by decide +kernel)
  · rw [Nat.eq_of_beq_eq_true h]; exact (mz_lenS _).trans (by decide +kernel)
theorem tx_ct {t : Nat} (h : mz_isT t = true) : mz_tag mz_S0 (t + 2) = 0 := by
  unfold mz_isT at h
  rw [Bool.or_eq_true] at h
  rcases h with h | h
  · rw [Nat.eq_of_beq_eq_true h]; exact (mz_tagS _).trans (by decide +kernel)
  · rw [Nat.eq_of_beq_eq_true h]; exact (mz_tagS _).trans (by decide +kernel)
theorem tx_cl {t : Nat} (h : mz_isT t = true) : mz_len mz_S0 (t + 2) = 24 := by
  unfold mz_isT at h
  rw [Bool.or_eq_true] at h
  rcases h with h | h
  · rw [Nat.eq_of_beq_eq_true h]; exact (mz_lenS _).trans (by decide +kernel)
  · rw [Nat.eq_of_beq_eq_true h]; exact (mz_lenS _).trans (by decide +kernel)
theorem tx_st {t : Nat} (h : mz_isT t = true) : mz_tag mz_S0 (t + 3) = 0 := by
  unfold mz_isT at h
  rw [Bool.or_eq_true] at h
  rcases h with h | h
  · rw [Nat.eq_of_beq_eq_true h]; exact (mz_tagS _).trans (by decide +kernel)
  · rw [Nat.eq_of_beq_eq_true h]; exact (mz_tagS _).trans (by decide +kernel)
theorem tx_sl {t : Nat} (h : mz_isT t = true) : mz_len mz_S0 (t + 3) = 32 := by
  unfold mz_isT at h
  rw [Bool.or_eq_true] at h
  rcases h with h | h
  · rw [Nat.eq_of_beq_eq_true h]; exact (mz_lenS _).trans (by decide +kernel)
  · rw [Nat.eq_of_beq_eq_true h]; exact (mz_lenS _).trans (by decide +kernel)
theorem tx_r0 {t : Nat} (h : mz_isT t = true) : mz_S0.2 t 0 = some (t + 1) := by
  unfold mz_isT at h
  rw [Bool.or_eq_true] at h
  rcases h with h | h
  · rw [Nat.eq_of_beq_eq_true h]; exact mz_rfS (by decide +kernel)
  · rw [Nat.eq_of_beq_eq_true h]; exact mz_rfS (by decide +kernel)
theorem tx_r1 {t : Nat} (h : mz_isT t = true) : mz_S0.2 t 1 = some (t + 2) := by
  unfold mz_isT at h
  rw [Bool.or_eq_true] at h
  rcases h with h | h
  · rw [Nat.eq_of_beq_eq_true h]; exact mz_rfS (by decide +kernel)
  · rw [Nat.eq_of_beq_eq_true h]; exact mz_rfS (by decide +kernel)
theorem tx_r2 {t : Nat} (h : mz_isT t = true) : mz_S0.2 t 2 = some (t + 3) := by
  unfold mz_isT at h
  rw [Bool.or_eq_true] at h
  rcases h with h | h
  · rw [Nat.eq_of_beq_eq_true h]; exact mz_rfS (by decide +kernel)
  · rw [Nat.eq_of_beq_eq_true h]; exact mz_rfS (by decide +kernel)
theorem tx_r3 {t : Nat} (h : mz_isT t = true) : mz_S0.2 t 3 = some (t + 4) := by
  unfold mz_isT at h
  rw [Bool.or_eq_true] at h
  rcases h with h | h
  · rw [Nat.eq_of_beq_eq_true h]; exact mz_rfS (by decide +kernel)
  · rw [Nat.eq_of_beq_eq_true h]; exact mz_rfS (by decide +kernel)
def mz_isW (w : Nat) : Bool := Nat.beq w 8 || Nat.beq w 17
theorem ls_t {w : Nat} (h : mz_isW w = true) : mz_tag mz_S0 w = 8 := by
  unfold mz_isW at h
  rw [Bool.or_eq_true] at h
  rcases h with h | h
  · rw [Nat.eq_of_beq_eq_true h]; exact (mz_tagS _).trans (by decide +kernel)
  · rw [Nat.eq_of_beq_eq_true h]; exact (mz_tagS _).trans (by decide +kernel)
theorem ls_l {w : Nat} (h : mz_isW w = true) : mz_len mz_S0 w = 6 := by
  unfold mz_isW at h
  rw [Bool.or_eq_true] at h
  rcases h with h | h
  · rw [Nat.eq_of_beq_eq_true h]; exact (mz_lenS _).trans (by decide +kernel)
  · rw [Nat.eq_of_beq_eq_true h]; exact (mz_lenS _).trans (by decide +kernel)
theorem ls_ct {w : Nat} (h : mz_isW w = true) : mz_tag mz_S0 (w + 1) = 0 := by
  unfold mz_isW at h
  rw [Bool.or_eq_true] at h
  rcases h with h | h
  · rw [Nat.eq_of_beq_eq_true h]; exact (mz_tagS _).trans (by decide +kernel)
  · rw [Nat.eq_of_beq_eq_true h]; exact (mz_tagS _).trans (by decide +kernel)
theorem ls_cl {w : Nat} (h : mz_isW w = true) : mz_len mz_S0 (w + 1) = 404 := by
  unfold mz_isW at h
  rw [Bool.or_eq_true] at h
  rcases h with h | h
  · rw [Nat.eq_of_beq_eq_true h]; exact (mz_lenS _).trans (by decide +kernel)
  · rw [Nat.eq_of_beq_eq_true h]; exact (mz_lenS _).trans (by decide +kernel)
theorem ls_r0 {w : Nat} (h : mz_isW w = true) : mz_S0.2 w 0 = some (w + 1) := by
  unfold mz_isW at h
  rw [Bool.or_eq_true] at h
  rcases h with h | h
  · rw [Nat.eq_of_beq_eq_true h]; exact mz_rfS (by decide +kernel)
  · rw [Nat.eq_of_beq_eq_true h]; exact mz_rfS (by decide +kernel)
theorem ls_et {w : Nat} (h : mz_isW w = true) : mz_tag mz_S0 (w + 2) = 0 := by
  unfold mz_isW at h
  rw [Bool.or_eq_true] at h
  rcases h with h | h
  · rw [Nat.eq_of_beq_eq_true h]; exact (mz_tagS _).trans (by decide +kernel)
  · rw [Nat.eq_of_beq_eq_true h]; exact (mz_tagS _).trans (by decide +kernel)
theorem ls_el {w : Nat} (h : mz_isW w = true) : mz_len mz_S0 (w + 2) = 56 := by
  unfold mz_isW at h
  rw [Bool.or_eq_true] at h
  rcases h with h | h
  · rw [Nat.eq_of_beq_eq_true h]; exact (mz_lenS _).trans (by decide +kernel)
  · rw [Nat.eq_of_beq_eq_true h]; exact (mz_lenS _).trans (by decide +kernel)
theorem ls_r1 {w : Nat} (h : mz_isW w = true) : mz_S0.2 w 1 = some (w + 2) := by
  unfold mz_isW at h
  rw [Bool.or_eq_true] at h
  rcases h with h | h
  · rw [Nat.eq_of_beq_eq_true h]; exact mz_rfS (by decide +kernel)
  · rw [Nat.eq_of_beq_eq_true h]; exact mz_rfS (by decide +kernel)
theorem ls_pt {w : Nat} (h : mz_isW w = true) : mz_tag mz_S0 (w + 3) = 0 := by
  unfold mz_isW at h
  rw [Bool.or_eq_true] at h
  rcases h with h | h
  · rw [Nat.eq_of_beq_eq_true h]; exact (mz_tagS _).trans (by decide +kernel)
  · rw [Nat.eq_of_beq_eq_true h]; exact (mz_tagS _).trans (by decide +kernel)
theorem ls_pl {w : Nat} (h : mz_isW w = true) : mz_len mz_S0 (w + 3) = 4 := by
  unfold mz_isW at h
  rw [Bool.or_eq_true] at h
  rcases h with h | h
  · rw [Nat.eq_of_beq_eq_true h]; exact (mz_lenS _).trans (by decide +kernel)
  · rw [Nat.eq_of_beq_eq_true h]; exact (mz_lenS _).trans (by decide +kernel)
theorem ls_r2 {w : Nat} (h : mz_isW w = true) : mz_S0.2 w 2 = some (w + 3) := by
  unfold mz_isW at h
  rw [Bool.or_eq_true] at h
  rcases h with h | h
  · rw [Nat.eq_of_beq_eq_true h]; exact mz_rfS (by decide +kernel)
  · rw [Nat.eq_of_beq_eq_true h]; exact mz_rfS (by decide +kernel)
theorem ls_kt {w : Nat} (h : mz_isW w = true) : mz_tag mz_S0 (w + 4) = 0 := by
  unfold mz_isW at h
  rw [Bool.or_eq_true] at h
  rcases h with h | h
  · rw [Nat.eq_of_beq_eq_true h]; exact (mz_tagS _).trans (by decide +kernel)
  · rw [Nat.eq_of_beq_eq_true h]; exact (mz_tagS _).trans (by decide +kernel)
theorem ls_kl {w : Nat} (h : mz_isW w = true) : mz_len mz_S0 (w + 4) = 32 := by
  unfold mz_isW at h
  rw [Bool.or_eq_true] at h
  rcases h with h | h
  · rw [Nat.eq_of_beq_eq_true h]; exact (mz_lenS _).trans (by decide +kernel)
  · rw [Nat.eq_of_beq_eq_true h]; exact (mz_lenS _).trans (by decide +kernel)
theorem ls_r3 {w : Nat} (h : mz_isW w = true) : mz_S0.2 w 3 = some (w + 4) := by
  unfold mz_isW at h
  rw [Bool.or_eq_true] at h
  rcases h with h | h
  · rw [Nat.eq_of_beq_eq_true h]; exact mz_rfS (by decide +kernel)
  · rw [Nat.eq_of_beq_eq_true h]; exact mz_rfS (by decide +kernel)
theorem mz_isW_T {t : Nat} (h : mz_isT t = true) : mz_isW (t + 4) = true := by
  unfold mz_isT at h
  rw [Bool.or_eq_true] at h
  rcases h with h | h
  · rw [Nat.eq_of_beq_eq_true h]; decide
  · rw [Nat.eq_of_beq_eq_true h]; decide
theorem rf_ring : ∀ j, j < 40 → mz_S0.2 38 j = some (39 + 4 * j) := by
  have h : ((List.range 40).all fun j => decide (mz_rf 38 j = some (39 + 4 * j))) = true := by decide +kernel
  exact fun j hj => mz_rfS (of_decide_eq_true (List.all_eq_true.mp h j (List.mem_range.mpr hj)))
theorem isS_ring : ∀ j, j < 40 → mz_isS (39 + 4 * j) = true := by
  have h : ((List.range 40).all fun j => mz_isS (39 + 4 * j)) = true := by decide +kernel
  exact fun j hj => List.all_eq_true.mp h j (List.mem_range.mpr hj)
theorem rf_slots : ∀ j, j < 3 → mz_S0.2 199 j = some (227 + 4 * j) := by
  have h : ((List.range 3).all fun j => decide (mz_rf 199 j = some (227 + 4 * j))) = true := by decide +kernel
  exact fun j hj => mz_rfS (of_decide_eq_true (List.all_eq_true.mp h j (List.mem_range.mpr hj)))
theorem isS_slots : ∀ j, j < 3 → mz_isS (227 + 4 * j) = true := by
  have h : ((List.range 3).all fun j => mz_isS (227 + 4 * j)) = true := by decide +kernel
  exact fun j hj => List.all_eq_true.mp h j (List.mem_range.mpr hj)
theorem rf_behind : ∀ j, j < 4 → mz_S0.2 202 j = some (204 + 4 * j) := by
  have h : ((List.range 4).all fun j => decide (mz_rf 202 j = some (204 + 4 * j))) = true := by decide +kernel
  exact fun j hj => mz_rfS (of_decide_eq_true (List.all_eq_true.mp h j (List.mem_range.mpr hj)))
theorem isS_behind : ∀ j, j < 4 → mz_isS (204 + 4 * j) = true := by
  have h : ((List.range 4).all fun j => mz_isS (204 + 4 * j)) = true := by decide +kernel
  exact fun j hj => List.all_eq_true.mp h j (List.mem_range.mpr hj)
theorem mz_okL {i : Int32} {n : Nat} (h : mz_ok i n = true) : i.toNatClampNeg < n := Nat.not_le.mp fun z => mz_ok_inv h (Or.inr z)
def mz_eqE (a b : MzE) : Bool := Nat.beq a.1 b.1 && decide (a.2.1 = b.2.1) && Nat.beq a.2.2.1 b.2.2.1 && Nat.beq a.2.2.2.1.1 b.2.2.2.1.1 && Nat.beq a.2.2.2.1.2.1 b.2.2.2.1.2.1 && Nat.beq a.2.2.2.1.2.2 b.2.2.2.1.2.2 && decide (a.2.2.2.2 = b.2.2.2.2)
theorem mz_eqE_ok {a b : MzE} (h : mz_eqE a b = true) : a = b := by
  obtain ⟨a1, a2, a3, ⟨a4, a5, a6⟩, a7⟩ := a
  obtain ⟨b1, b2, b3, ⟨b4, b5, b6⟩, b7⟩ := b
  unfold mz_eqE at h
  simp only [Bool.and_eq_true] at h
  obtain ⟨⟨⟨⟨⟨⟨h1, h2⟩, h3⟩, h4⟩, h5⟩, h6⟩, h7⟩ := h
  have e1 := Nat.eq_of_beq_eq_true h1
  have e2 := of_decide_eq_true h2
  have e3 := Nat.eq_of_beq_eq_true h3
  have e4 := Nat.eq_of_beq_eq_true h4
  have e5 := Nat.eq_of_beq_eq_true h5
  have e6 := Nat.eq_of_beq_eq_true h6
  have e7 := of_decide_eq_true h7
  subst e1; subst e2; subst e3; subst e4; subst e5; subst e6; subst e7
  rfl
def mz_isE (M pc : Nat) (e : MzE) : Bool := match mz_fd (mz_code M) pc with
  | some e2 => mz_eqE e2 e
  | none => false
theorem mz_fe {M pc : Nat} {e : MzE} (h : mz_isE M pc e = true) : mz_fd (mz_code M) pc = some e := by
  unfold mz_isE at h
  split at h
  next e2 he => rw [he, mz_eqE_ok h]
  next => cases h
theorem mz_inv_stat {N k : Nat} {st rest vs : List Value} {h : MzH} (h1 : st.take k = vs.reverse) (h2 : st.drop k = rest) (h3 : k ≤ st.length) (h4 : (rest.map fun v => v.category).sum ≤ 8) : mz_inv N k 1000 st h = some (.inr (.inl (N, vs, rest))) := by
  unfold mz_inv
  rw [h2, h1, List.reverse_reverse, if_pos ⟨h3, h4⟩]
  rfl
theorem mz_At_msk {X : MzX} {d M pc : Nat} {L L2 : MzL} {st : List Value} {h : MzH} {e : MzE} (he : mz_fd (mz_code M) pc = some e) (h1 : mz_mask e.2.2.2.2 L = L2) (h2 : mz_mask e.2.2.2.2 L2 = L2) : mz_At X d M pc L st h = mz_At X d M pc L2 st h := by
  apply mz_At_ext
  intro r
  constructor
  · rintro ⟨n, hn⟩
    refine ⟨n, ?_⟩
    cases n with
    | zero => simp [mz_ex] at hn
    | succ n =>
      rw [mz_ex, he] at hn ⊢
      dsimp only at hn ⊢
      rw [h1] at hn
      rw [h2]
      exact hn
  · rintro ⟨n, hn⟩
    refine ⟨n, ?_⟩
    cases n with
    | zero => simp [mz_ex] at hn
    | succ n =>
      rw [mz_ex, he] at hn ⊢
      dsimp only at hn ⊢
      rw [h2] at hn
      rw [h1]
      exact hn
def mz_swt (pc : Nat) (d lo hi : Int) (offs : Array Int) (x : Int32) : Option Nat := if x.toInt < lo ∨ hi < x.toInt then mz_tg pc d else match offs[(x.toInt - lo).toNat]? with
  | some off => mz_tg pc off
  | none => none
theorem mz_sw_eq {pc : Nat} {d lo hi : Int} {offs : Array Int} {x : Int32} {L : MzL} {st : List Value} {h : MzH} {t : Nat} (ht : mz_swt pc d lo hi offs x = some t) : mz_sw pc d lo hi offs x L st h = mz_nx t L st h := by
  unfold mz_swt at ht
  unfold mz_sw
  split at ht
  next hc => rw [if_pos hc]; unfold mz_jp; rw [ht]
  next hc =>
    rw [if_neg hc]
    split at ht
    next off ho => rw [ho]; dsimp only; unfold mz_jp; rw [ht]
    next => cases ht
def mz_swc (pc : Nat) (d lo hi : Int) (offs : Array Int) (ks : List Int32) (t : Nat) : Bool := decide (mz_tg pc d = some t) && (List.range (hi - lo + 1).toNat).all fun j => ks.contains (Int32.ofInt (lo + j)) || decide (mz_swt pc d lo hi offs (Int32.ofInt (lo + j)) = some t)
theorem mz_swd {pc : Nat} {d lo hi : Int} {offs : Array Int} {t : Nat} (ks : List Int32) (hc : mz_swc pc d lo hi offs ks t = true) {x : Int32} (hx : ∀ k ∈ ks, ¬ x = k) : mz_swt pc d lo hi offs x = some t := by
  unfold mz_swc at hc
  simp only [Bool.and_eq_true] at hc
  by_cases hr : x.toInt < lo ∨ hi < x.toInt
  · unfold mz_swt
    rw [if_pos hr]
    exact of_decide_eq_true hc.1
  · have h1 := List.all_eq_true.mp hc.2 (x.toInt - lo).toNat (List.mem_range.mpr (by omega))
    have h2 : Int32.ofInt (lo + ((x.toInt - lo).toNat : Int)) = x := by
      rw [show lo + ((x.toInt - lo).toNat : Int) = x.toInt by omega]
      exact Int32.ofInt_toInt x
    rw [h2] at h1
    rcases (Bool.or_eq_true _ _).mp h1 with h | h
    · exact absurd rfl (hx x (List.contains_iff_mem.mp h))
    · exact of_decide_eq_true h
theorem mz_ite {α : Type} {P : Prop} {hP : Decidable P} {u a b : α} (h1 : P → u = a) (h2 : ¬ P → u = b) : u = if P then a else b := by
  by_cases h : P
  · rw [if_pos h]; exact h1 h
  · rw [if_neg h]; exact h2 h
theorem q_sw {γ : Type} {cv : MzR → Option γ} {d M pc ln t : Nat} {L L2 : MzL} {st : List Value} {m : MzM} {r : Option γ} {mk : List Bool} {x : Int32} {df lo hi : Int} {offs : Array Int} (he : mz_fd (mz_code M) pc = some (pc, .tableswitch df lo hi offs, ln, (0, 0, 0), mk)) (hm : mz_mask mk L = L2) (ht : mz_swt pc df lo hi offs x = some t) (kk : cv (mz_T d M t L2 st m) = r) : cv (mz_T d M pc L (.int x :: st) m) = r := by
  refine q_s he (pc' := t) (L' := L2) (st' := st) (m' := m) ?_ kk
  show mz_sw pc df lo hi offs x (mz_mask mk L) st (mz_S0, m) = _
  rw [mz_sw_eq ht, hm]
  rfl
def mz_lkt (pc : Nat) (d : Int) (ps : Array (Int × Int)) (x : Int32) : Option Nat := if (ps.toList.zip (ps.toList.drop 1)).all (fun (a, next) => a.1 < next.1) = true then mz_tg pc (Op.lookupswitch.offset ps.toList d x.toInt) else none
theorem mz_lk_eq {pc : Nat} {d : Int} {ps : Array (Int × Int)} {x : Int32} {L : MzL} {st : List Value} {h : MzH} {t : Nat} (ht : mz_lkt pc d ps x = some t) : mz_lk pc d ps x L st h = mz_nx t L st h := by
  unfold mz_lkt at ht
  unfold mz_lk
  split at ht
  next hc => rw [if_pos hc]; unfold mz_jp; rw [ht]
  next hc => cases ht
theorem q_lk {γ : Type} {cv : MzR → Option γ} {d M pc ln t : Nat} {L L2 : MzL} {st : List Value} {m : MzM} {r : Option γ} {mk : List Bool} {x : Int32} {df : Int} {ps : Array (Int × Int)} (he : mz_fd (mz_code M) pc = some (pc, .lookupswitch df ps, ln, (0, 0, 0), mk)) (hm : mz_mask mk L = L2) (ht : mz_lkt pc df ps x = some t) (kk : cv (mz_T d M t L2 st m) = r) : cv (mz_T d M pc L (.int x :: st) m) = r := by
  refine q_s he (pc' := t) (L' := L2) (st' := st) (m' := m) ?_ kk
  show mz_lk pc df ps x (mz_mask mk L) st (mz_S0, m) = _
  rw [mz_lk_eq ht, hm]
  rfl
theorem mz_lkd {pc : Nat} {d a1 b1 a2 b2 : Int} {t : Nat} {x k1 k2 : Int32} (hk : k1.toInt = a1 ∧ k2.toInt = a2) (hlt : a1 < a2) (ht : mz_tg pc d = some t) (h1 : ¬ x = k1) (h2 : ¬ x = k2) : mz_lkt pc d #[(a1, b1), (a2, b2)] x = some t := by
  have n1 : ¬ x.toInt = a1 := fun z => h1 (Int32.toInt_inj.mp (z.trans hk.1.symm))
  have n2 : ¬ x.toInt = a2 := fun z => h2 (Int32.toInt_inj.mp (z.trans hk.2.symm))
  have e : Op.lookupswitch.offset [(a1, b1), (a2, b2)] d x.toInt = d := by
    simp [Op.lookupswitch.offset, n1, n2, Ne.symm n1, Ne.symm n2]
  unfold mz_lkt
  rw [if_pos (by simp [hlt])]
  show mz_tg pc (Op.lookupswitch.offset [(a1, b1), (a2, b2)] d x.toInt) = some t
  rw [e]
  exact ht
section MzQ3
variable {γ : Type} {cv : MzR → Option γ} {d M pc : Nat} {L L2 : MzL} {st : List Value} {m : MzM} {r : Option γ} {ln : Nat} {mk : List Bool}
theorem q_o {ins : Instr} {rr : Nat × Nat × Nat} (he : mz_fd (mz_code M) pc = some (pc, ins, ln, rr, [])) {pc2 : Nat} {st2 : List Value} {m2 : MzM} (ha : mz_act none ins rr pc L st (mz_S0, m) = some (.inl (pc2, L, st2, (mz_S0, m2)))) (k : cv (mz_T d M pc2 L st2 m2) = r) : cv (mz_T d M pc L st m) = r :=
  q_s he (by cases L <;> exact ha) k
theorem q_sln {i a n : Nat} (he : mz_fd (mz_code M) pc = some (pc, .invokevirtual i, ln, (9990, 0, 0), [])) (ha : a = 1000001 ∨ a = 1000002) (hn : (mz_sb a).length = n) (h3 : (st.map fun v => v.category).sum ≤ 8) (kk : cv (mz_T d M (pc + 3) L (.int (nI n) :: st) m) = r) : cv (mz_T d M pc L (.ref a :: st) m) = r := by
  subst hn
  refine q_o he ?_ kk
  show (if (a = 1000001 ∨ a = 1000002) ∧ (st.map fun v => v.category).sum ≤ 8 then mz_nx (pc + 3) L (.int (nI (mz_sb a).length) :: st) (mz_S0, m) else none) = _
  rw [if_pos ⟨ha, h3⟩]
  rfl
theorem q_schg {i a n : Nat} {x : Int32} (h0 : cv none = none) (he : mz_fd (mz_code M) pc = some (pc, .invokevirtual i, ln, (9991, 0, 0), [])) (ha : a = 1000001 ∨ a = 1000002) (hn : (mz_sb a).length = n) (h3 : (st.map fun v => v.category).sum ≤ 8) (kk : mz_ok x n = true → cv (mz_T d M (pc + 3) L (.int ((mz_sb a).getD x.toNatClampNeg 0) :: st) m) = r) : cv (mz_T d M pc L (.int x :: .ref a :: st) m) = mz_g (mz_ok x n) r := by
  subst hn
  have e : mz_act none (.invokevirtual i) (9991, 0, 0) pc L (.int x :: .ref a :: st) (mz_S0, m) = (if (a = 1000001 ∨ a = 1000002) ∧ mz_ok x (mz_sb a).length = true ∧ (st.map fun v => v.category).sum ≤ 8 then mz_nx (pc + 3) L (.int ((mz_sb a).getD x.toNatClampNeg 0) :: st) (mz_S0, m) else none) := rfl
  refine mz_gT (y := r) h0 (fun h => q_o he ?_ (kk h)) (fun h => mz_At_no none he ?_)
  · rw [e, if_pos ⟨ha, h, h3⟩]
    rfl
  · show mz_act none (.invokevirtual i) (9991, 0, 0) pc (mz_mask [] L) (.int x :: .ref a :: st) (mz_S0, m) = _
    rw [show mz_mask [] L = L from by cases L <;> rfl, e, if_neg (fun z => by rw [h] at z; cases z.2.1)]
theorem q_six {i a : Nat} {x : Int32} (he : mz_fd (mz_code M) pc = some (pc, .invokevirtual i, ln, (9992, 0, 0), [])) (ha : a = 1000001 ∨ a = 1000002) (h3 : (st.map fun v => v.category).sum ≤ 8) (kk : cv (mz_T d M (pc + 3) L (.int (mz_ixF x (mz_sb a) 0) :: st) m) = r) : cv (mz_T d M pc L (.int x :: .ref a :: st) m) = r := by
  refine q_o he ?_ kk
  show (if (a = 1000001 ∨ a = 1000002) ∧ (st.map fun v => v.category).sum ≤ 8 then mz_nx (pc + 3) L (.int (mz_ixF x (mz_sb a) 0) :: st) (mz_S0, m) else none) = _
  rw [if_pos ⟨ha, h3⟩]
  rfl
theorem q_iinc {i : Nat} {n : Int} {v c : Int32} (he : mz_fd (mz_code M) pc = some (pc, .iinc i n, ln, (0, 0, 0), mk)) (hm : mz_mask mk L = L2) (hg : mz_gl L2 i = some (.int v)) (hc : Int32.ofInt n = c) {L3 : MzL} (hs : mz_sl L2 i (.int (v + c)) = some L3) (kk : cv (mz_T d M (pc + 3) L3 st m) = r) : cv (mz_T d M pc L st m) = r := by
  subst hc; subst hm
  refine q_s he (pc' := pc + 3) (L' := L3) (st' := st) (m' := m) ?_ kk
  show (match mz_gl (mz_mask mk L) i with
    | some (.int v) => mz_sto (pc + 3) (mz_sl (mz_mask mk L) i (.int (v + Int32.ofInt n))) st (mz_S0, m)
    | _ => none) = _
  rw [hg]
  show mz_sto (pc + 3) (mz_sl (mz_mask mk L) i (.int (v + Int32.ofInt n))) st (mz_S0, m) = _
  rw [hs]
  rfl
theorem q_ic {n : Int} {v : Int32} (he : mz_fd (mz_code M) pc = some (pc, .iconst n, ln, (0, 0, 0), [])) (hc : Int32.ofInt n = v) (kk : cv (mz_T d M (pc + 1) L (.int v :: st) m) = r) : cv (mz_T d M pc L st m) = r := by
  subst hc
  exact q_o he rfl kk
theorem q_bi {n : Int} {v : Int32} (he : mz_fd (mz_code M) pc = some (pc, .bipush n, ln, (0, 0, 0), [])) (hc : (Int8.ofInt n).toInt32 = v) (kk : cv (mz_T d M (pc + 2) L (.int v :: st) m) = r) : cv (mz_T d M pc L st m) = r := by
  subst hc
  exact q_o he rfl kk
theorem q_si {n : Int} {v : Int32} (he : mz_fd (mz_code M) pc = some (pc, .sipush n, ln, (0, 0, 0), [])) (hc : (Int16.ofInt n).toInt32 = v) (kk : cv (mz_T d M (pc + 3) L (.int v :: st) m) = r) : cv (mz_T d M pc L st m) = r := by
  subst hc
  exact q_o he rfl kk
theorem q_ld {i a : Nat} {v : Int32} (he : mz_fd (mz_code M) pc = some (pc, .ldc i, ln, (a, 0, 0), [])) (hc : Int32.ofNat a = v) (kk : cv (mz_T d M (pc + 2) L (.int v :: st) m) = r) : cv (mz_T d M pc L st m) = r := by
  subst hc
  exact q_o he rfl kk
theorem q_ldw {i a : Nat} {v : Int32} (he : mz_fd (mz_code M) pc = some (pc, .ldc_w i, ln, (a, 0, 0), [])) (hc : Int32.ofNat a = v) (kk : cv (mz_T d M (pc + 3) L (.int v :: st) m) = r) : cv (mz_T d M pc L st m) = r := by
  subst hc
  exact q_o he rfl kk
theorem q_ld2 {i a : Nat} {v : Int64} (he : mz_fd (mz_code M) pc = some (pc, .ldc2_w i, ln, (a, 0, 0), [])) (hc : Int64.ofNat a = v) (kk : cv (mz_T d M (pc + 3) L (.long v :: st) m) = r) : cv (mz_T d M pc L st m) = r := by
  subst hc
  exact q_o he rfl kk
end MzQ3
