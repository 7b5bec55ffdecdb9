/-! facts of the layout -/
theorem mm_lays_of (t : Nat) (ls : List Cond) (e : u_ws (mm_cl.getD t (RX0, TX0, 0)).1 (mm_cl.getD t (RX0, TX0, 0)).2.1 (mm_cl.getD t (RX0, TX0, 0)).2.2 = ls) (h : ∀ w ∈ ls, w ∈ mm_gw) : mm_lays t := by
  unfold mm_lays
  rw [e]
  exact h
theorem al_262 : mm_tg 262 = 20 ∧ mm_ln 262 = 1000 := ⟨by decide +kernel, by decide +kernel⟩
theorem al_263 : mm_tg 263 = 20 ∧ mm_ln 263 = 8 := ⟨by decide +kernel, by decide +kernel⟩
theorem al_264 : mm_tg 264 = 21 ∧ mm_ln 264 = 12 := ⟨by decide +kernel, by decide +kernel⟩
theorem al_265 : mm_tg 265 = 21 ∧ mm_ln 265 = 20 := ⟨by decide +kernel, by decide +kernel⟩
theorem al_266 : mm_tg 266 = 20 ∧ mm_ln 266 = 12 := ⟨by decide +kernel, by decide +kernel⟩
theorem al_267 : mm_tg 267 = 20 ∧ mm_ln 267 = 12 := ⟨by decide +kernel, by decide +kernel⟩
theorem al_268 : mm_tg 268 = 20 ∧ mm_ln 268 = 12 := ⟨by decide +kernel, by decide +kernel⟩
theorem al_269 : mm_tg 269 = 20 ∧ mm_ln 269 = 20 := ⟨by decide +kernel, by decide +kernel⟩
theorem al_270 : mm_tg 270 = 20 ∧ mm_ln 270 = 20 := ⟨by decide +kernel, by decide +kernel⟩
theorem al_271 : mm_tg 271 = 20 ∧ mm_ln 271 = 20 := ⟨by decide +kernel, by decide +kernel⟩
theorem al_272 : mm_tg 272 = 20 ∧ mm_ln 272 = 20 := ⟨by decide +kernel, by decide +kernel⟩
theorem al_273 : mm_tg 273 = 20 ∧ mm_ln 273 = 20 := ⟨by decide +kernel, by decide +kernel⟩
theorem al_274 : mm_tg 274 = 20 ∧ mm_ln 274 = 20 := ⟨by decide +kernel, by decide +kernel⟩
theorem al_275 : mm_tg 275 = 20 ∧ mm_ln 275 = 60 := ⟨by decide +kernel, by decide +kernel⟩
theorem al_276 : mm_tg 276 = 20 ∧ mm_ln 276 = 60 := ⟨by decide +kernel, by decide +kernel⟩
theorem al_277 : mm_tg 277 = 20 ∧ mm_ln 277 = 60 := ⟨by decide +kernel, by decide +kernel⟩
theorem al_278 : mm_tg 278 = 20 ∧ mm_ln 278 = 2 := ⟨by decide +kernel, by decide +kernel⟩
theorem al_279 : mm_tg 279 = 20 ∧ mm_ln 279 = 2 := ⟨by decide +kernel, by decide +kernel⟩
theorem al_280 : mm_tg 280 = 20 ∧ mm_ln 280 = 2000 := ⟨by decide +kernel, by decide +kernel⟩
theorem al_281 : mm_tg 281 = 20 ∧ mm_ln 281 = 7 := ⟨by decide +kernel, by decide +kernel⟩
theorem al_282 : mm_tg 282 = 23 ∧ mm_ln 282 = 7 := ⟨by decide +kernel, by decide +kernel⟩
theorem al_283 : mm_tg 283 = 20 ∧ mm_ln 283 = 7 := ⟨by decide +kernel, by decide +kernel⟩
theorem al_284 : mm_tg 284 = 20 ∧ mm_ln 284 = 7 := ⟨by decide +kernel, by decide +kernel⟩
theorem al_285 : mm_tg 285 = 20 ∧ mm_ln 285 = 7 := ⟨by decide +kernel, by decide +kernel⟩
theorem al_286 : mm_tg 286 = 20 ∧ mm_ln 286 = 7 := ⟨by decide +kernel, by decide +kernel⟩
theorem al_287 : mm_tg 287 = 20 ∧ mm_ln 287 = 7 := ⟨by decide +kernel, by decide +kernel⟩
theorem al_288 : mm_tg 288 = 20 ∧ mm_ln 288 = 7 := ⟨by decide +kernel, by decide +kernel⟩
theorem al_289 : mm_tg 289 = 20 ∧ mm_ln 289 = 7 := ⟨by decide +kernel, by decide +kernel⟩
theorem al_290 : mm_tg 290 = 20 ∧ mm_ln 290 = 7 := ⟨by decide +kernel, by decide +kernel⟩
theorem al_291 : mm_tg 291 = 20 ∧ mm_ln 291 = 7 := ⟨by decide +kernel, by decide +kernel⟩
theorem al_292 : mm_tg 292 = 20 ∧ mm_ln 292 = 20 := ⟨by decide +kernel, by decide +kernel⟩
theorem al_293 : mm_tg 293 = 20 ∧ mm_ln 293 = 6 := ⟨by decide +kernel, by decide +kernel⟩
theorem al_294 : mm_tg 294 = 20 ∧ mm_ln 294 = 180 := ⟨by decide +kernel, by decide +kernel⟩
theorem al_295 : mm_tg 295 = 20 ∧ mm_ln 295 = 180 := ⟨by decide +kernel, by decide +kernel⟩
theorem al_296 : mm_tg 296 = 20 ∧ mm_ln 296 = 180 := ⟨by decide +kernel, by decide +kernel⟩
theorem al_297 : mm_tg 297 = 20 ∧ mm_ln 297 = 180 := ⟨by decide +kernel, by decide +kernel⟩
theorem al_298 : mm_tg 298 = 20 ∧ mm_ln 298 = 5 := ⟨by decide +kernel, by decide +kernel⟩
theorem al_299 : mm_tg 299 = 20 ∧ mm_ln 299 = 50 := ⟨by decide +kernel, by decide +kernel⟩
theorem al_2_0f : ∀ {a : Nat}, mm_tg a = 2 → mm_tg (a + 1) = 20 ∧ mm_ln (a + 1) = 1000 := fun {a} h => (by decide +kernel : ∀ a, a < 317 → mm_tg a = 2 → mm_tg (a + 1) = 20 ∧ mm_ln (a + 1) = 1000) a (mm_tg_lt h (by decide)).2 h
theorem al_2_1f : ∀ {a : Nat}, mm_tg a = 2 → mm_tg (a + 2) = 20 ∧ mm_ln (a + 2) = 24 := fun {a} h => (by decide +kernel : ∀ a, a < 317 → mm_tg a = 2 → mm_tg (a + 2) = 20 ∧ mm_ln (a + 2) = 24) a (mm_tg_lt h (by decide)).2 h
theorem al_300 : mm_tg 300 = 23 ∧ mm_ln 300 = 50 := ⟨by decide +kernel, by decide +kernel⟩
theorem al_301 : mm_tg 301 = 20 ∧ mm_ln 301 = 123 := ⟨by decide +kernel, by decide +kernel⟩
theorem al_302 : mm_tg 302 = 20 ∧ mm_ln 302 = 246 := ⟨by decide +kernel, by decide +kernel⟩
theorem al_303 : mm_tg 303 = 20 ∧ mm_ln 303 = 492 := ⟨by decide +kernel, by decide +kernel⟩
theorem al_304 : mm_tg 304 = 20 ∧ mm_ln 304 = 1968 := ⟨by decide +kernel, by decide +kernel⟩
theorem al_305 : mm_tg 305 = 23 ∧ mm_ln 305 = 4 := ⟨by decide +kernel, by decide +kernel⟩
theorem al_306 : mm_tg 306 = 23 ∧ mm_ln 306 = 65536 := ⟨by decide +kernel, by decide +kernel⟩
theorem al_307 : mm_tg 307 = 23 ∧ mm_ln 307 = 6144 := ⟨by decide +kernel, by decide +kernel⟩
theorem al_308 : mm_tg 308 = 20 ∧ mm_ln 308 = 2 := ⟨by decide +kernel, by decide +kernel⟩
theorem al_309 : mm_tg 309 = 20 ∧ mm_ln 309 = 2 := ⟨by decide +kernel, by decide +kernel⟩
theorem al_310 : mm_tg 310 = 20 ∧ mm_ln 310 = 64 := ⟨by decide +kernel, by decide +kernel⟩
theorem al_311 : mm_tg 311 = 20 ∧ mm_ln 311 = 64 := ⟨by decide +kernel, by decide +kernel⟩
theorem al_312 : mm_tg 312 = 20 ∧ mm_ln 312 = 6 := ⟨by decide +kernel, by decide +kernel⟩
theorem al_313 : mm_tg 313 = 20 ∧ mm_ln 313 = 64 := ⟨by decide +kernel, by decide +kernel⟩
theorem al_314 : mm_tg 314 = 20 ∧ mm_ln 314 = 3 := ⟨by decide +kernel, by decide +kernel⟩
theorem al_315 : mm_tg 315 = 20 ∧ mm_ln 315 = 3 := ⟨by decide +kernel, by decide +kernel⟩
theorem al_34 : mm_tg 34 = 22 ∧ mm_ln 34 = 1000 := ⟨by decide +kernel, by decide +kernel⟩
theorem al_36 : mm_tg 36 = 20 ∧ mm_ln 36 = 10 := ⟨by decide +kernel, by decide +kernel⟩
theorem al_38 : mm_tg 38 = 20 ∧ mm_ln 38 = 6 := ⟨by decide +kernel, by decide +kernel⟩
theorem al_39 : mm_tg 39 = 20 ∧ mm_ln 39 = 6 := ⟨by decide +kernel, by decide +kernel⟩
theorem al_40 : mm_tg 40 = 20 ∧ mm_ln 40 = 6 := ⟨by decide +kernel, by decide +kernel⟩
theorem al_42 : mm_tg 42 = 20 ∧ mm_ln 42 = 10 := ⟨by decide +kernel, by decide +kernel⟩
theorem al_44 : mm_tg 44 = 20 ∧ mm_ln 44 = 6 := ⟨by decide +kernel, by decide +kernel⟩
theorem al_48 : mm_tg 48 = 20 ∧ mm_ln 48 = 30 := ⟨by decide +kernel, by decide +kernel⟩
theorem al_49 : mm_tg 49 = 20 ∧ mm_ln 49 = 30 := ⟨by decide +kernel, by decide +kernel⟩
theorem al_4_0f : ∀ {a : Nat}, mm_tg a = 4 → mm_tg (a + 1) = 20 ∧ mm_ln (a + 1) = 10 := fun {a} h => (by decide +kernel : ∀ a, a < 317 → mm_tg a = 4 → mm_tg (a + 1) = 20 ∧ mm_ln (a + 1) = 10) a (mm_tg_lt h (by decide)).2 h
theorem al_4_1f : ∀ {a : Nat}, mm_tg a = 4 → mm_tg (a + 2) = 21 ∧ mm_ln (a + 2) = 6 := fun {a} h => (by decide +kernel : ∀ a, a < 317 → mm_tg a = 4 → mm_tg (a + 2) = 21 ∧ mm_ln (a + 2) = 6) a (mm_tg_lt h (by decide)).2 h
theorem al_4_2f : ∀ {a : Nat}, mm_tg a = 4 → mm_tg (a + 3) = 20 ∧ mm_ln (a + 3) = 6 := fun {a} h => (by decide +kernel : ∀ a, a < 317 → mm_tg a = 4 → mm_tg (a + 3) = 20 ∧ mm_ln (a + 3) = 6) a (mm_tg_lt h (by decide)).2 h
theorem al_4_3f : ∀ {a : Nat}, mm_tg a = 4 → mm_tg (a + 4) = 20 ∧ mm_ln (a + 4) = 6 := fun {a} h => (by decide +kernel : ∀ a, a < 317 → mm_tg a = 4 → mm_tg (a + 4) = 20 ∧ mm_ln (a + 4) = 6) a (mm_tg_lt h (by decide)).2 h
theorem al_4_4f : ∀ {a : Nat}, mm_tg a = 4 → mm_tg (a + 5) = 20 ∧ mm_ln (a + 5) = 6 := fun {a} h => (by decide +kernel : ∀ a, a < 317 → mm_tg a = 4 → mm_tg (a + 5) = 20 ∧ mm_ln (a + 5) = 6) a (mm_tg_lt h (by decide)).2 h
theorem al_50 : mm_tg 50 = 20 ∧ mm_ln 50 = 30 := ⟨by decide +kernel, by decide +kernel⟩
theorem al_51 : mm_tg 51 = 20 ∧ mm_ln 51 = 30 := ⟨by decide +kernel, by decide +kernel⟩
theorem al_52 : mm_tg 52 = 20 ∧ mm_ln 52 = 10 := ⟨by decide +kernel, by decide +kernel⟩
theorem al_53 : mm_tg 53 = 20 ∧ mm_ln 53 = 10 := ⟨by decide +kernel, by decide +kernel⟩
theorem al_5_1f : ∀ {a : Nat}, mm_tg a = 5 → mm_tg (a + 1) = 20 ∧ mm_ln (a + 1) = 30 := fun {a} h => (by decide +kernel : ∀ a, a < 317 → mm_tg a = 5 → mm_tg (a + 1) = 20 ∧ mm_ln (a + 1) = 30) a (mm_tg_lt h (by decide)).2 h
theorem al_5_2f : ∀ {a : Nat}, mm_tg a = 5 → mm_tg (a + 2) = 20 ∧ mm_ln (a + 2) = 30 := fun {a} h => (by decide +kernel : ∀ a, a < 317 → mm_tg a = 5 → mm_tg (a + 2) = 20 ∧ mm_ln (a + 2) = 30) a (mm_tg_lt h (by decide)).2 h
theorem al_5_3f : ∀ {a : Nat}, mm_tg a = 5 → mm_tg (a + 3) = 20 ∧ mm_ln (a + 3) = 30 := fun {a} h => (by decide +kernel : ∀ a, a < 317 → mm_tg a = 5 → mm_tg (a + 3) = 20 ∧ mm_ln (a + 3) = 30) a (mm_tg_lt h (by decide)).2 h
theorem al_5_4f : ∀ {a : Nat}, mm_tg a = 5 → mm_tg (a + 4) = 20 ∧ mm_ln (a + 4) = 30 := fun {a} h => (by decide +kernel : ∀ a, a < 317 → mm_tg a = 5 → mm_tg (a + 4) = 20 ∧ mm_ln (a + 4) = 30) a (mm_tg_lt h (by decide)).2 h
theorem al_5_6f : ∀ {a : Nat}, mm_tg a = 5 → mm_tg (a + 5) = 20 ∧ mm_ln (a + 5) = 10 := fun {a} h => (by decide +kernel : ∀ a, a < 317 → mm_tg a = 5 → mm_tg (a + 5) = 20 ∧ mm_ln (a + 5) = 10) a (mm_tg_lt h (by decide)).2 h
theorem al_5_7f : ∀ {a : Nat}, mm_tg a = 5 → mm_tg (a + 6) = 20 ∧ mm_ln (a + 6) = 10 := fun {a} h => (by decide +kernel : ∀ a, a < 317 → mm_tg a = 5 → mm_tg (a + 6) = 20 ∧ mm_ln (a + 6) = 10) a (mm_tg_lt h (by decide)).2 h
theorem al_61 : mm_tg 61 = 24 ∧ mm_ln 61 = 16 := ⟨by decide +kernel, by decide +kernel⟩
theorem al_62 : mm_tg 62 = 24 ∧ mm_ln 62 = 4 := ⟨by decide +kernel, by decide +kernel⟩
theorem al_63 : mm_tg 63 = 25 ∧ mm_ln 63 = 4 := ⟨by decide +kernel, by decide +kernel⟩
theorem al_65 : mm_tg 65 = 20 ∧ mm_ln 65 = 1024 := ⟨by decide +kernel, by decide +kernel⟩
theorem al_66 : mm_tg 66 = 21 ∧ mm_ln 66 = 1024 := ⟨by decide +kernel, by decide +kernel⟩
theorem al_67 : mm_tg 67 = 20 ∧ mm_ln 67 = 64 := ⟨by decide +kernel, by decide +kernel⟩
theorem al_69 : mm_tg 69 = 20 ∧ mm_ln 69 = 3 := ⟨by decide +kernel, by decide +kernel⟩
theorem al_70 : mm_tg 70 = 20 ∧ mm_ln 70 = 3 := ⟨by decide +kernel, by decide +kernel⟩
theorem al_72 : mm_tg 72 = 21 ∧ mm_ln 72 = 64 := ⟨by decide +kernel, by decide +kernel⟩
theorem al_73 : mm_tg 73 = 21 ∧ mm_ln 73 = 64 := ⟨by decide +kernel, by decide +kernel⟩
theorem al_74 : mm_tg 74 = 21 ∧ mm_ln 74 = 6 := ⟨by decide +kernel, by decide +kernel⟩
theorem al_75 : mm_tg 75 = 20 ∧ mm_ln 75 = 7 := ⟨by decide +kernel, by decide +kernel⟩
theorem al_76 : mm_tg 76 = 20 ∧ mm_ln 76 = 10 := ⟨by decide +kernel, by decide +kernel⟩
theorem al_77 : mm_tg 77 = 20 ∧ mm_ln 77 = 70 := ⟨by decide +kernel, by decide +kernel⟩
theorem al_78 : mm_tg 78 = 20 ∧ mm_ln 78 = 4 := ⟨by decide +kernel, by decide +kernel⟩
theorem al_7_10f : ∀ {a : Nat}, mm_tg a = 7 → mm_tg (a + 7) = 20 ∧ mm_ln (a + 7) = 10 := fun {a} h => (by decide +kernel : ∀ a, a < 317 → mm_tg a = 7 → mm_tg (a + 7) = 20 ∧ mm_ln (a + 7) = 10) a (mm_tg_lt h (by decide)).2 h
theorem al_7_11f : ∀ {a : Nat}, mm_tg a = 7 → mm_tg (a + 8) = 20 ∧ mm_ln (a + 8) = 10 := fun {a} h => (by decide +kernel : ∀ a, a < 317 → mm_tg a = 7 → mm_tg (a + 8) = 20 ∧ mm_ln (a + 8) = 10) a (mm_tg_lt h (by decide)).2 h
theorem al_7_12f : ∀ {a : Nat}, mm_tg a = 7 → mm_tg (a + 9) = 20 ∧ mm_ln (a + 9) = 10 := fun {a} h => (by decide +kernel : ∀ a, a < 317 → mm_tg a = 7 → mm_tg (a + 9) = 20 ∧ mm_ln (a + 9) = 10) a (mm_tg_lt h (by decide)).2 h
theorem al_7_14f : ∀ {a : Nat}, mm_tg a = 7 → mm_tg (a + 10) = 20 ∧ mm_ln (a + 10) = 30 := fun {a} h => (by decide +kernel : ∀ a, a < 317 → mm_tg a = 7 → mm_tg (a + 10) = 20 ∧ mm_ln (a + 10) = 30) a (mm_tg_lt h (by decide)).2 h
theorem al_7_15f : ∀ {a : Nat}, mm_tg a = 7 → mm_tg (a + 11) = 20 ∧ mm_ln (a + 11) = 30 := fun {a} h => (by decide +kernel : ∀ a, a < 317 → mm_tg a = 7 → mm_tg (a + 11) = 20 ∧ mm_ln (a + 11) = 30) a (mm_tg_lt h (by decide)).2 h
theorem al_7_16f : ∀ {a : Nat}, mm_tg a = 7 → mm_tg (a + 12) = 20 ∧ mm_ln (a + 12) = 36 := fun {a} h => (by decide +kernel : ∀ a, a < 317 → mm_tg a = 7 → mm_tg (a + 12) = 20 ∧ mm_ln (a + 12) = 36) a (mm_tg_lt h (by decide)).2 h
theorem al_7_18f : ∀ {a : Nat}, mm_tg a = 7 → mm_tg (a + 13) = 20 ∧ mm_ln (a + 13) = 10 := fun {a} h => (by decide +kernel : ∀ a, a < 317 → mm_tg a = 7 → mm_tg (a + 13) = 20 ∧ mm_ln (a + 13) = 10) a (mm_tg_lt h (by decide)).2 h
theorem al_7_1f : ∀ {a : Nat}, mm_tg a = 7 → mm_tg (a + 1) = 21 ∧ mm_ln (a + 1) = 6 := fun {a} h => (by decide +kernel : ∀ a, a < 317 → mm_tg a = 7 → mm_tg (a + 1) = 21 ∧ mm_ln (a + 1) = 6) a (mm_tg_lt h (by decide)).2 h
theorem al_7_2f : ∀ {a : Nat}, mm_tg a = 7 → mm_tg (a + 2) = 20 ∧ mm_ln (a + 2) = 6 := fun {a} h => (by decide +kernel : ∀ a, a < 317 → mm_tg a = 7 → mm_tg (a + 2) = 20 ∧ mm_ln (a + 2) = 6) a (mm_tg_lt h (by decide)).2 h
theorem al_7_3f : ∀ {a : Nat}, mm_tg a = 7 → mm_tg (a + 3) = 20 ∧ mm_ln (a + 3) = 6 := fun {a} h => (by decide +kernel : ∀ a, a < 317 → mm_tg a = 7 → mm_tg (a + 3) = 20 ∧ mm_ln (a + 3) = 6) a (mm_tg_lt h (by decide)).2 h
theorem al_7_4f : ∀ {a : Nat}, mm_tg a = 7 → mm_tg (a + 4) = 20 ∧ mm_ln (a + 4) = 6 := fun {a} h => (by decide +kernel : ∀ a, a < 317 → mm_tg a = 7 → mm_tg (a + 4) = 20 ∧ mm_ln (a + 4) = 6) a (mm_tg_lt h (by decide)).2 h
theorem al_7_7f : ∀ {a : Nat}, mm_tg a = 7 → mm_tg (a + 5) = 21 ∧ mm_ln (a + 5) = 10 := fun {a} h => (by decide +kernel : ∀ a, a < 317 → mm_tg a = 7 → mm_tg (a + 5) = 21 ∧ mm_ln (a + 5) = 10) a (mm_tg_lt h (by decide)).2 h
theorem al_7_9f : ∀ {a : Nat}, mm_tg a = 7 → mm_tg (a + 6) = 20 ∧ mm_ln (a + 6) = 10 := fun {a} h => (by decide +kernel : ∀ a, a < 317 → mm_tg a = 7 → mm_tg (a + 6) = 20 ∧ mm_ln (a + 6) = 10) a (mm_tg_lt h (by decide)).2 h
theorem bp_10 : (Int8.ofInt 10).toInt32 = 10 := by decide +kernel
theorem bp_100 : (Int8.ofInt 100).toInt32 = 100 := by decide +kernel
theorem bp_11 : (Int8.ofInt 11).toInt32 = 11 := by decide +kernel
theorem bp_12 : (Int8.ofInt 12).toInt32 = 12 := by decide +kernel
theorem bp_122 : (Int8.ofInt 122).toInt32 = 122 := by decide +kernel
theorem bp_123 : (Int8.ofInt 123).toInt32 = 123 := by decide +kernel
theorem bp_126 : (Int8.ofInt 126).toInt32 = 126 := by decide +kernel
theorem bp_16 : (Int8.ofInt 16).toInt32 = 16 := by decide +kernel
theorem bp_20 : (Int8.ofInt 20).toInt32 = 20 := by decide +kernel
theorem bp_21 : (Int8.ofInt 21).toInt32 = 21 := by decide +kernel
theorem bp_22 : (Int8.ofInt 22).toInt32 = 22 := by decide +kernel
theorem bp_24 : (Int8.ofInt 24).toInt32 = 24 := by decide +kernel
theorem bp_25 : (Int8.ofInt 25).toInt32 = 25 := by decide +kernel
theorem bp_26 : (Int8.ofInt 26).toInt32 = 26 := by decide +kernel
theorem bp_27 : (Int8.ofInt 27).toInt32 = 27 := by decide +kernel
theorem bp_28 : (Int8.ofInt 28).toInt32 = 28 := by decide +kernel
theorem bp_29 : (Int8.ofInt 29).toInt32 = 29 := by decide +kernel
theorem bp_30 : (Int8.ofInt 30).toInt32 = 30 := by decide +kernel
theorem bp_32 : (Int8.ofInt 32).toInt32 = 32 := by decide +kernel
theorem bp_40 : (Int8.ofInt 40).toInt32 = 40 := by decide +kernel
theorem bp_41 : (Int8.ofInt 41).toInt32 = 41 := by decide +kernel
theorem bp_42 : (Int8.ofInt 42).toInt32 = 42 := by decide +kernel
theorem bp_43 : (Int8.ofInt 43).toInt32 = 43 := by decide +kernel
theorem bp_45 : (Int8.ofInt 45).toInt32 = 45 := by decide +kernel
theorem bp_48 : (Int8.ofInt 48).toInt32 = 48 := by decide +kernel
theorem bp_56 : (Int8.ofInt 56).toInt32 = 56 := by decide +kernel
theorem bp_57 : (Int8.ofInt 57).toInt32 = 57 := by decide +kernel
theorem bp_59 : (Int8.ofInt 59).toInt32 = 59 := by decide +kernel
theorem bp_6 : (Int8.ofInt 6).toInt32 = 6 := by decide +kernel
theorem bp_60 : (Int8.ofInt 60).toInt32 = 60 := by decide +kernel
theorem bp_61 : (Int8.ofInt 61).toInt32 = 61 := by decide +kernel
theorem bp_63 : (Int8.ofInt 63).toInt32 = 63 := by decide +kernel
theorem bp_64 : (Int8.ofInt 64).toInt32 = 64 := by decide +kernel
theorem bp_7 : (Int8.ofInt 7).toInt32 = 7 := by decide +kernel
theorem bp_70 : (Int8.ofInt 70).toInt32 = 70 := by decide +kernel
theorem bp_76 : (Int8.ofInt 76).toInt32 = 76 := by decide +kernel
theorem bp_77 : (Int8.ofInt 77).toInt32 = 77 := by decide +kernel
theorem bp_78 : (Int8.ofInt 78).toInt32 = 78 := by decide +kernel
theorem bp_79 : (Int8.ofInt 79).toInt32 = 79 := by decide +kernel
theorem bp_8 : (Int8.ofInt 8).toInt32 = 8 := by decide +kernel
theorem bp_85 : (Int8.ofInt 85).toInt32 = 85 := by decide +kernel
theorem bp_86 : (Int8.ofInt 86).toInt32 = 86 := by decide +kernel
theorem bp_9 : (Int8.ofInt 9).toInt32 = 9 := by decide +kernel
theorem bp_97 : (Int8.ofInt 97).toInt32 = 97 := by decide +kernel
theorem bp_99 : (Int8.ofInt 99).toInt32 = 99 := by decide +kernel
theorem bp_m10 : (Int8.ofInt (-10)).toInt32 = (-10) := by decide +kernel
theorem bp_m100 : (Int8.ofInt (-100)).toInt32 = (-100) := by decide +kernel
theorem bp_m11 : (Int8.ofInt (-11)).toInt32 = (-11) := by decide +kernel
theorem bp_m12 : (Int8.ofInt (-12)).toInt32 = (-12) := by decide +kernel
theorem bp_m2 : (Int8.ofInt (-2)).toInt32 = (-2) := by decide +kernel
theorem bp_m4 : (Int8.ofInt (-4)).toInt32 = (-4) := by decide +kernel
theorem bp_m5 : (Int8.ofInt (-5)).toInt32 = (-5) := by decide +kernel
theorem bp_m6 : (Int8.ofInt (-6)).toInt32 = (-6) := by decide +kernel
theorem bp_m7 : (Int8.ofInt (-7)).toInt32 = (-7) := by decide +kernel
theorem bp_m8 : (Int8.ofInt (-8)).toInt32 = (-8) := by decide +kernel
theorem bp_m9 : (Int8.ofInt (-9)).toInt32 = (-9) := by decide +kernel
theorem ct_0 : 0 < 10 ∧ (mm_cl.getD 0 (RX0, TX0, 0)).1 = RX0 := ⟨by decide, rfl⟩
theorem ct_1 : 1 < 10 ∧ (mm_cl.getD 1 (RX0, TX0, 0)).1 = RX1 := ⟨by decide, rfl⟩
theorem ct_2 : 2 < 10 ∧ (mm_cl.getD 2 (RX0, TX0, 0)).1 = RX3 := ⟨by decide, rfl⟩
theorem ct_3 : 3 < 10 ∧ (mm_cl.getD 3 (RX0, TX0, 0)).1 = RX4 := ⟨by decide, rfl⟩
theorem ct_4 : 4 < 10 ∧ (mm_cl.getD 4 (RX0, TX0, 0)).1 = RX5 := ⟨by decide, rfl⟩
theorem ct_5 : 5 < 10 ∧ (mm_cl.getD 5 (RX0, TX0, 0)).1 = RX6 := ⟨by decide, rfl⟩
theorem ct_6 : 6 < 10 ∧ (mm_cl.getD 6 (RX0, TX0, 0)).1 = RX7 := ⟨by decide, rfl⟩
theorem ct_7 : 7 < 10 ∧ (mm_cl.getD 7 (RX0, TX0, 0)).1 = RX8 := ⟨by decide, rfl⟩
theorem ct_8 : 8 < 10 ∧ (mm_cl.getD 8 (RX0, TX0, 0)).1 = RX11 := ⟨by decide, rfl⟩
theorem ct_9 : 9 < 10 ∧ (mm_cl.getD 9 (RX0, TX0, 0)).1 = RX12 := ⟨by decide, rfl⟩
theorem gq_1_2 : 1 < 10 ∧ 2 < mm_nf 1 ∧ mm_kd (mm_ty 1 2) = 0 := ⟨by decide, by decide +kernel, by decide +kernel⟩
theorem gq_2_2 : 2 < 10 ∧ 2 < mm_nf 2 ∧ mm_kd (mm_ty 2 2) = 0 := ⟨by decide, by decide +kernel, by decide +kernel⟩
theorem gq_4_5 : 4 < 10 ∧ 5 < mm_nf 4 ∧ mm_kd (mm_ty 4 5) = 0 := ⟨by decide, by decide +kernel, by decide +kernel⟩
theorem gq_4_6 : 4 < 10 ∧ 6 < mm_nf 4 ∧ mm_kd (mm_ty 4 6) = 0 := ⟨by decide, by decide +kernel, by decide +kernel⟩
theorem gq_4_7 : 4 < 10 ∧ 7 < mm_nf 4 ∧ mm_kd (mm_ty 4 7) = 0 := ⟨by decide, by decide +kernel, by decide +kernel⟩
theorem gq_4_8 : 4 < 10 ∧ 8 < mm_nf 4 ∧ mm_kd (mm_ty 4 8) = 0 := ⟨by decide, by decide +kernel, by decide +kernel⟩
theorem gq_4_9 : 4 < 10 ∧ 9 < mm_nf 4 ∧ mm_kd (mm_ty 4 9) = 0 := ⟨by decide, by decide +kernel, by decide +kernel⟩
theorem gq_5_0 : 5 < 10 ∧ 0 < mm_nf 5 ∧ mm_kd (mm_ty 5 0) = 0 := ⟨by decide, by decide +kernel, by decide +kernel⟩
theorem gq_5_5 : 5 < 10 ∧ 5 < mm_nf 5 ∧ mm_kd (mm_ty 5 5) = 0 := ⟨by decide, by decide +kernel, by decide +kernel⟩
theorem gq_6_1 : 6 < 10 ∧ 1 < mm_nf 6 ∧ mm_kd (mm_ty 6 1) = 0 := ⟨by decide, by decide +kernel, by decide +kernel⟩
theorem gq_6_2 : 6 < 10 ∧ 2 < mm_nf 6 ∧ mm_kd (mm_ty 6 2) = 0 := ⟨by decide, by decide +kernel, by decide +kernel⟩
theorem gq_6_3 : 6 < 10 ∧ 3 < mm_nf 6 ∧ mm_kd (mm_ty 6 3) = 0 := ⟨by decide, by decide +kernel, by decide +kernel⟩
theorem gq_6_4 : 6 < 10 ∧ 4 < mm_nf 6 ∧ mm_kd (mm_ty 6 4) = 0 := ⟨by decide, by decide +kernel, by decide +kernel⟩
theorem gq_6_5 : 6 < 10 ∧ 5 < mm_nf 6 ∧ mm_kd (mm_ty 6 5) = 0 := ⟨by decide, by decide +kernel, by decide +kernel⟩
theorem gq_6_6 : 6 < 10 ∧ 6 < mm_nf 6 ∧ mm_kd (mm_ty 6 6) = 1 := ⟨by decide, by decide +kernel, by decide +kernel⟩
theorem gq_6_8 : 6 < 10 ∧ 8 < mm_nf 6 ∧ mm_kd (mm_ty 6 8) = 0 := ⟨by decide, by decide +kernel, by decide +kernel⟩
theorem gq_6_9 : 6 < 10 ∧ 9 < mm_nf 6 ∧ mm_kd (mm_ty 6 9) = 0 := ⟨by decide, by decide +kernel, by decide +kernel⟩
theorem gq_7_0 : 7 < 10 ∧ 0 < mm_nf 7 ∧ mm_kd (mm_ty 7 0) = 0 := ⟨by decide, by decide +kernel, by decide +kernel⟩
theorem gq_7_13 : 7 < 10 ∧ 13 < mm_nf 7 ∧ mm_kd (mm_ty 7 13) = 0 := ⟨by decide, by decide +kernel, by decide +kernel⟩
theorem gq_7_17 : 7 < 10 ∧ 17 < mm_nf 7 ∧ mm_kd (mm_ty 7 17) = 0 := ⟨by decide, by decide +kernel, by decide +kernel⟩
theorem gq_7_5 : 7 < 10 ∧ 5 < mm_nf 7 ∧ mm_kd (mm_ty 7 5) = 0 := ⟨by decide, by decide +kernel, by decide +kernel⟩
theorem gq_7_6 : 7 < 10 ∧ 6 < mm_nf 7 ∧ mm_kd (mm_ty 7 6) = 0 := ⟨by decide, by decide +kernel, by decide +kernel⟩
theorem gq_7_8 : 7 < 10 ∧ 8 < mm_nf 7 ∧ mm_kd (mm_ty 7 8) = 0 := ⟨by decide, by decide +kernel, by decide +kernel⟩
theorem gq_8_16 : 8 < 10 ∧ 16 < mm_nf 8 ∧ mm_kd (mm_ty 8 16) = 0 := ⟨by decide, by decide +kernel, by decide +kernel⟩
theorem gq_8_17 : 8 < 10 ∧ 17 < mm_nf 8 ∧ mm_kd (mm_ty 8 17) = 0 := ⟨by decide, by decide +kernel, by decide +kernel⟩
theorem gq_8_18 : 8 < 10 ∧ 18 < mm_nf 8 ∧ mm_kd (mm_ty 8 18) = 0 := ⟨by decide, by decide +kernel, by decide +kernel⟩
theorem gq_8_19 : 8 < 10 ∧ 19 < mm_nf 8 ∧ mm_kd (mm_ty 8 19) = 1 := ⟨by decide, by decide +kernel, by decide +kernel⟩
theorem gq_9_0 : 9 < 10 ∧ 0 < mm_nf 9 ∧ mm_kd (mm_ty 9 0) = 0 := ⟨by decide, by decide +kernel, by decide +kernel⟩
theorem gq_9_1 : 9 < 10 ∧ 1 < mm_nf 9 ∧ mm_kd (mm_ty 9 1) = 0 := ⟨by decide, by decide +kernel, by decide +kernel⟩
theorem gq_9_28 : 9 < 10 ∧ 28 < mm_nf 9 ∧ mm_kd (mm_ty 9 28) = 0 := ⟨by decide, by decide +kernel, by decide +kernel⟩
theorem gq_9_3 : 9 < 10 ∧ 3 < mm_nf 9 ∧ mm_kd (mm_ty 9 3) = 0 := ⟨by decide, by decide +kernel, by decide +kernel⟩
theorem gq_9_4 : 9 < 10 ∧ 4 < mm_nf 9 ∧ mm_kd (mm_ty 9 4) = 0 := ⟨by decide, by decide +kernel, by decide +kernel⟩
theorem gq_9_41 : 9 < 10 ∧ 41 < mm_nf 9 ∧ mm_kd (mm_ty 9 41) = 0 := ⟨by decide, by decide +kernel, by decide +kernel⟩
theorem gq_9_5 : 9 < 10 ∧ 5 < mm_nf 9 ∧ mm_kd (mm_ty 9 5) = 0 := ⟨by decide, by decide +kernel, by decide +kernel⟩
theorem gq_9_55 : 9 < 10 ∧ 55 < mm_nf 9 ∧ mm_kd (mm_ty 9 55) = 0 := ⟨by decide, by decide +kernel, by decide +kernel⟩
theorem gq_9_6 : 9 < 10 ∧ 6 < mm_nf 9 ∧ mm_kd (mm_ty 9 6) = 0 := ⟨by decide, by decide +kernel, by decide +kernel⟩
theorem gq_9_60 : 9 < 10 ∧ 60 < mm_nf 9 ∧ mm_kd (mm_ty 9 60) = 0 := ⟨by decide, by decide +kernel, by decide +kernel⟩
theorem gq_9_61 : 9 < 10 ∧ 61 < mm_nf 9 ∧ mm_kd (mm_ty 9 61) = 0 := ⟨by decide, by decide +kernel, by decide +kernel⟩
theorem gq_9_68 : 9 < 10 ∧ 68 < mm_nf 9 ∧ mm_kd (mm_ty 9 68) = 0 := ⟨by decide, by decide +kernel, by decide +kernel⟩
theorem gq_9_69 : 9 < 10 ∧ 69 < mm_nf 9 ∧ mm_kd (mm_ty 9 69) = 1 := ⟨by decide, by decide +kernel, by decide +kernel⟩
theorem gq_9_7 : 9 < 10 ∧ 7 < mm_nf 9 ∧ mm_kd (mm_ty 9 7) = 1 := ⟨by decide, by decide +kernel, by decide +kernel⟩
theorem gq_9_8 : 9 < 10 ∧ 8 < mm_nf 9 ∧ mm_kd (mm_ty 9 8) = 0 := ⟨by decide, by decide +kernel, by decide +kernel⟩
theorem gq_9_9 : 9 < 10 ∧ 9 < mm_nf 9 ∧ mm_kd (mm_ty 9 9) = 0 := ⟨by decide, by decide +kernel, by decide +kernel⟩
theorem ic_0 : Int32.ofInt 0 = 0 := by decide +kernel
theorem ic_1 : Int32.ofInt 1 = 1 := by decide +kernel
theorem ic_2 : Int32.ofInt 2 = 2 := by decide +kernel
theorem ic_3 : Int32.ofInt 3 = 3 := by decide +kernel
theorem ic_4 : Int32.ofInt 4 = 4 := by decide +kernel
theorem ic_5 : Int32.ofInt 5 = 5 := by decide +kernel
theorem ic_m1 : Int32.ofInt (-1) = (-1) := by decide +kernel
theorem ic_m8 : Int32.ofInt (-8) = (-8) := by decide +kernel
theorem ix_0_1024 : mm_ix 0 1024 = some 0 := by decide +kernel
theorem ix_0_2 : mm_ix 0 2 = some 0 := by decide +kernel
theorem ix_0_24 : mm_ix 0 24 = some 0 := by decide +kernel
theorem ix_0_4 : mm_ix 0 4 = some 0 := by decide +kernel
theorem ix_0_5 : mm_ix 0 5 = some 0 := by decide +kernel
theorem ix_0_6 : mm_ix 0 6 = some 0 := by decide +kernel
theorem ix_0_64 : mm_ix 0 64 = some 0 := by decide +kernel
theorem ix_0_7 : mm_ix 0 7 = some 0 := by decide +kernel
theorem ix_0_8 : mm_ix 0 8 = some 0 := by decide +kernel
theorem ix_122_123 : mm_ix 122 123 = some 122 := by decide +kernel
theorem ix_1_2 : mm_ix 1 2 = some 1 := by decide +kernel
theorem ix_1_20 : mm_ix 1 20 = some 1 := by decide +kernel
theorem ix_1_4 : mm_ix 1 4 = some 1 := by decide +kernel
theorem ix_1_8 : mm_ix 1 8 = some 1 := by decide +kernel
theorem ix_2_20 : mm_ix 2 20 = some 2 := by decide +kernel
theorem ix_2_4 : mm_ix 2 4 = some 2 := by decide +kernel
theorem ix_2_8 : mm_ix 2 8 = some 2 := by decide +kernel
theorem ix_3_20 : mm_ix 3 20 = some 3 := by decide +kernel
theorem ix_3_4 : mm_ix 3 4 = some 3 := by decide +kernel
theorem ix_4_20 : mm_ix 4 20 = some 4 := by decide +kernel
theorem ix_4_8 : mm_ix 4 8 = some 4 := by decide +kernel
theorem ix_5_6 : mm_ix 5 6 = some 5 := by decide +kernel
theorem ix_5_8 : mm_ix 5 8 = some 5 := by decide +kernel
theorem ix_6_8 : mm_ix 6 8 = some 6 := by decide +kernel
theorem ix_76_123 : mm_ix 76 123 = some 76 := by decide +kernel
theorem ix_77_123 : mm_ix 77 123 = some 77 := by decide +kernel
theorem ix_78_123 : mm_ix 78 123 = some 78 := by decide +kernel
theorem ix_7_8 : mm_ix 7 8 = some 7 := by decide +kernel
theorem ix_85_123 : mm_ix 85 123 = some 85 := by decide +kernel
theorem lays_0 : mm_lays 0 := mm_lays_of 0 [Cond.laysFinal RX0 "PaidSecrets$Collector" "sums" "[I", Cond.laysFinal RX0 "PaidSecrets$Collector" "payable" "[J", Cond.laysFinal RX0 "PaidSecrets$Collector" "groups" "[I"] (by decide +kernel) (List.forall_mem_cons.mpr ⟨ww_296, List.forall_mem_cons.mpr ⟨ww_298, List.forall_mem_cons.mpr ⟨ww_300, fun _ h => absurd h List.not_mem_nil⟩⟩⟩)
theorem lays_1 : mm_lays 1 := mm_lays_of 1 [Cond.laysFinal RX1 "PaidSecrets$Feast" "known" "[I", Cond.laysFinal RX1 "PaidSecrets$Feast" "choice" "[I", Cond.lays RX1 "PaidSecrets$Feast" "guests" "I"] (by decide +kernel) (List.forall_mem_cons.mpr ⟨ww_312, List.forall_mem_cons.mpr ⟨ww_314, List.forall_mem_cons.mpr ⟨ww_316, fun _ h => absurd h List.not_mem_nil⟩⟩⟩)
theorem lays_2 : mm_lays 2 := mm_lays_of 2 [Cond.laysFinal RX3 "PaidSecrets$Law" "steps" "[I", Cond.laysFinal RX3 "PaidSecrets$Law" "stack" "[I", Cond.lays RX3 "PaidSecrets$Law" "size" "I"] (by decide +kernel) (List.forall_mem_cons.mpr ⟨ww_356, List.forall_mem_cons.mpr ⟨ww_358, List.forall_mem_cons.mpr ⟨ww_360, fun _ h => absurd h List.not_mem_nil⟩⟩⟩)
theorem lays_3 : mm_lays 3 := mm_lays_of 3 [Cond.laysFinal RX4 "PaidSecrets$Nights" "chances" "[J", Cond.laysFinal RX4 "PaidSecrets$Nights" "next" "[J", Cond.laysFinal RX4 "PaidSecrets$Nights" "hearing" "[J", Cond.laysFinal RX4 "PaidSecrets$Nights" "byKnowers" "[I"] (by decide +kernel) (List.forall_mem_cons.mpr ⟨ww_329, List.forall_mem_cons.mpr ⟨ww_331, List.forall_mem_cons.mpr ⟨ww_333, List.forall_mem_cons.mpr ⟨ww_335, fun _ h => absurd h List.not_mem_nil⟩⟩⟩⟩)
theorem lays_4 : mm_lays 4 := mm_lays_of 4 [Cond.laysFinal RX5 "PaidSecrets$State" "knowing" "[I", Cond.laysFinal RX5 "PaidSecrets$State" "awareness" "[J", Cond.laysFinal RX5 "PaidSecrets$State" "rank" "[I", Cond.laysFinal RX5 "PaidSecrets$State" "fined" "[I", Cond.laysFinal RX5 "PaidSecrets$State" "net" "[I", Cond.lays RX5 "PaidSecrets$State" "met" "I", Cond.lays RX5 "PaidSecrets$State" "paidSecrets" "I", Cond.lays RX5 "PaidSecrets$State" "paidPeople" "I", Cond.lays RX5 "PaidSecrets$State" "loans" "I", Cond.lays RX5 "PaidSecrets$State" "quarters" "I"] (by decide +kernel) (List.forall_mem_cons.mpr ⟨ww_222, List.forall_mem_cons.mpr ⟨ww_224, List.forall_mem_cons.mpr ⟨ww_226, List.forall_mem_cons.mpr ⟨ww_228, List.forall_mem_cons.mpr ⟨ww_230, List.forall_mem_cons.mpr ⟨ww_232, List.forall_mem_cons.mpr ⟨ww_234, List.forall_mem_cons.mpr ⟨ww_236, List.forall_mem_cons.mpr ⟨ww_238, List.forall_mem_cons.mpr ⟨ww_240, fun _ h => absurd h List.not_mem_nil⟩⟩⟩⟩⟩⟩⟩⟩⟩⟩)
theorem lays_5 : mm_lays 5 := mm_lays_of 5 [Cond.lays RX6 "PaidSecrets$Talk" "lines" "I", Cond.laysFinal RX6 "PaidSecrets$Talk" "deed" "[I", Cond.laysFinal RX6 "PaidSecrets$Talk" "who" "[I", Cond.laysFinal RX6 "PaidSecrets$Talk" "whom" "[I", Cond.laysFinal RX6 "PaidSecrets$Talk" "what" "[I", Cond.lays RX6 "PaidSecrets$Talk" "seen" "I", Cond.laysFinal RX6 "PaidSecrets$Talk" "seenSecret" "[I", Cond.laysFinal RX6 "PaidSecrets$Talk" "seenFell" "[I"] (by decide +kernel) (List.forall_mem_cons.mpr ⟨ww_268, List.forall_mem_cons.mpr ⟨ww_270, List.forall_mem_cons.mpr ⟨ww_272, List.forall_mem_cons.mpr ⟨ww_274, List.forall_mem_cons.mpr ⟨ww_276, List.forall_mem_cons.mpr ⟨ww_278, List.forall_mem_cons.mpr ⟨ww_280, List.forall_mem_cons.mpr ⟨ww_282, fun _ h => absurd h List.not_mem_nil⟩⟩⟩⟩⟩⟩⟩⟩)
theorem lays_6 : mm_lays 6 := mm_lays_of 6 [Cond.laysFinal RX7 "PaidSecrets$Tape" "signs" "[C", Cond.lays RX7 "PaidSecrets$Tape" "length" "I", Cond.lays RX7 "PaidSecrets$Tape" "at" "I", Cond.lays RX7 "PaidSecrets$Tape" "place" "I", Cond.lays RX7 "PaidSecrets$Tape" "kind" "I", Cond.lays RX7 "PaidSecrets$Tape" "number" "I", Cond.lays RX7 "PaidSecrets$Tape" "code" "J", Cond.lays RX7 "PaidSecrets$Tape" "word" "LPaidSecrets$Word;", Cond.lays RX7 "PaidSecrets$Tape" "sign" "C", Cond.lays RX7 "PaidSecrets$Tape" "fault" "I"] (by decide +kernel) (List.forall_mem_cons.mpr ⟨ww_173, List.forall_mem_cons.mpr ⟨ww_175, List.forall_mem_cons.mpr ⟨ww_177, List.forall_mem_cons.mpr ⟨ww_179, List.forall_mem_cons.mpr ⟨ww_181, List.forall_mem_cons.mpr ⟨ww_183, List.forall_mem_cons.mpr ⟨ww_185, List.forall_mem_cons.mpr ⟨ww_187, List.forall_mem_cons.mpr ⟨ww_189, List.forall_mem_cons.mpr ⟨ww_191, fun _ h => absurd h List.not_mem_nil⟩⟩⟩⟩⟩⟩⟩⟩⟩⟩)
theorem lays_7 : mm_lays 7 := mm_lays_of 7 [Cond.lays RX8 "PaidSecrets$Town" "people" "I", Cond.laysFinal RX8 "PaidSecrets$Town" "personName" "[J", Cond.laysFinal RX8 "PaidSecrets$Town" "kind" "[I", Cond.laysFinal RX8 "PaidSecrets$Town" "rank" "[I", Cond.laysFinal RX8 "PaidSecrets$Town" "tax" "[I", Cond.lays RX8 "PaidSecrets$Town" "priests" "I", Cond.lays RX8 "PaidSecrets$Town" "secrets" "I", Cond.laysFinal RX8 "PaidSecrets$Town" "secretName" "[J", Cond.lays RX8 "PaidSecrets$Town" "falsehoods" "I", Cond.laysFinal RX8 "PaidSecrets$Town" "ofWhom" "[I", Cond.laysFinal RX8 "PaidSecrets$Town" "cost" "[I", Cond.laysFinal RX8 "PaidSecrets$Town" "on" "[I", Cond.laysFinal RX8 "PaidSecrets$Town" "knownBy" "[I", Cond.lays RX8 "PaidSecrets$Town" "ears" "I", Cond.laysFinal RX8 "PaidSecrets$Town" "earFrom" "[I", Cond.laysFinal RX8 "PaidSecrets$Town" "earTo" "[I", Cond.laysFinal RX8 "PaidSecrets$Town" "earChance" "[I", Cond.lays RX8 "PaidSecrets$Town" "clashes" "I", Cond.laysFinal RX8 "PaidSecrets$Town" "clashing" "[I", Cond.laysFinal RX8 "PaidSecrets$Town" "law" "LPaidSecrets$Law;"] (by decide +kernel) (List.forall_mem_cons.mpr ⟨ww_431, List.forall_mem_cons.mpr ⟨ww_433, List.forall_mem_cons.mpr ⟨ww_435, List.forall_mem_cons.mpr ⟨ww_437, List.forall_mem_cons.mpr ⟨ww_439, List.forall_mem_cons.mpr ⟨ww_441, List.forall_mem_cons.mpr ⟨ww_443, List.forall_mem_cons.mpr ⟨ww_445, List.forall_mem_cons.mpr ⟨ww_447, List.forall_mem_cons.mpr ⟨ww_449, List.forall_mem_cons.mpr ⟨ww_451, List.forall_mem_cons.mpr ⟨ww_453, List.forall_mem_cons.mpr ⟨ww_455, List.forall_mem_cons.mpr ⟨ww_457, List.forall_mem_cons.mpr ⟨ww_459, List.forall_mem_cons.mpr ⟨ww_461, List.forall_mem_cons.mpr ⟨ww_463, List.forall_mem_cons.mpr ⟨ww_465, List.forall_mem_cons.mpr ⟨ww_467, List.forall_mem_cons.mpr ⟨ww_469, fun _ h => absurd h List.not_mem_nil⟩⟩⟩⟩⟩⟩⟩⟩⟩⟩⟩⟩⟩⟩⟩⟩⟩⟩⟩⟩)
theorem lays_8 : mm_lays 8 := mm_lays_of 8 [Cond.laysFinal RX11 "PaidSecrets" "tape" "LPaidSecrets$Tape;", Cond.laysFinal RX11 "PaidSecrets" "now" "LPaidSecrets$State;", Cond.laysFinal RX11 "PaidSecrets" "trial" "LPaidSecrets$State;", Cond.laysFinal RX11 "PaidSecrets" "talk" "LPaidSecrets$Talk;", Cond.laysFinal RX11 "PaidSecrets" "draftTalk" "LPaidSecrets$Talk;", Cond.laysFinal RX11 "PaidSecrets" "past" "[LPaidSecrets$State;", Cond.laysFinal RX11 "PaidSecrets" "markStates" "[LPaidSecrets$State;", Cond.laysFinal RX11 "PaidSecrets" "markTalks" "[LPaidSecrets$Talk;", Cond.laysFinal RX11 "PaidSecrets" "collector" "LPaidSecrets$Collector;", Cond.laysFinal RX11 "PaidSecrets" "feast" "LPaidSecrets$Feast;", Cond.laysFinal RX11 "PaidSecrets" "passing" "LPaidSecrets$Nights;", Cond.laysFinal RX11 "PaidSecrets" "worths" "[I", Cond.laysFinal RX11 "PaidSecrets" "lawful" "[I", Cond.laysFinal RX11 "PaidSecrets" "answers" "[I", Cond.lays RX11 "PaidSecrets" "here" "LPaidSecrets$Town;", Cond.lays RX11 "PaidSecrets" "draft" "LPaidSecrets$Town;", Cond.lays RX11 "PaidSecrets" "pasts" "I", Cond.lays RX11 "PaidSecrets" "pastEnd" "I", Cond.lays RX11 "PaidSecrets" "laid" "I", Cond.lays RX11 "PaidSecrets" "drawn" "J"] (by decide +kernel) (List.forall_mem_cons.mpr ⟨ww_492, List.forall_mem_cons.mpr ⟨ww_494, List.forall_mem_cons.mpr ⟨ww_496, List.forall_mem_cons.mpr ⟨ww_498, List.forall_mem_cons.mpr ⟨ww_500, List.forall_mem_cons.mpr ⟨ww_502, List.forall_mem_cons.mpr ⟨ww_504, List.forall_mem_cons.mpr ⟨ww_506, List.forall_mem_cons.mpr ⟨ww_508, List.forall_mem_cons.mpr ⟨ww_510, List.forall_mem_cons.mpr ⟨ww_512, List.forall_mem_cons.mpr ⟨ww_514, List.forall_mem_cons.mpr ⟨ww_516, List.forall_mem_cons.mpr ⟨ww_518, List.forall_mem_cons.mpr ⟨ww_520, List.forall_mem_cons.mpr ⟨ww_522, List.forall_mem_cons.mpr ⟨ww_524, List.forall_mem_cons.mpr ⟨ww_526, List.forall_mem_cons.mpr ⟨ww_528, List.forall_mem_cons.mpr ⟨ww_530, fun _ h => absurd h List.not_mem_nil⟩⟩⟩⟩⟩⟩⟩⟩⟩⟩⟩⟩⟩⟩⟩⟩⟩⟩⟩⟩)
theorem lays_9 : mm_lays 9 := mm_lays_of 9 [Cond.lays RX12 "PaidSecretsModel" "thrown" "I", Cond.lays RX12 "PaidSecretsModel" "taped" "I", Cond.laysFinal RX12 "PaidSecretsModel" "tape" "[I", Cond.lays RX12 "PaidSecretsModel" "size" "I", Cond.lays RX12 "PaidSecretsModel" "place" "I", Cond.lays RX12 "PaidSecretsModel" "begin" "I", Cond.lays RX12 "PaidSecretsModel" "token" "I", Cond.lays RX12 "PaidSecretsModel" "word" "J", Cond.lays RX12 "PaidSecretsModel" "told" "I", Cond.lays RX12 "PaidSecretsModel" "wrong" "I", Cond.laysFinal RX12 "PaidSecretsModel" "town" "[I", Cond.laysFinal RX12 "PaidSecretsModel" "personName" "[J", Cond.laysFinal RX12 "PaidSecretsModel" "secretName" "[J", Cond.laysFinal RX12 "PaidSecretsModel" "kind" "[I", Cond.laysFinal RX12 "PaidSecretsModel" "rankTold" "[I", Cond.laysFinal RX12 "PaidSecretsModel" "tax" "[I", Cond.laysFinal RX12 "PaidSecretsModel" "truth" "[I", Cond.laysFinal RX12 "PaidSecretsModel" "whose" "[I", Cond.laysFinal RX12 "PaidSecretsModel" "costs" "[I", Cond.laysFinal RX12 "PaidSecretsModel" "onSecret" "[I", Cond.laysFinal RX12 "PaidSecretsModel" "knowTold" "[I", Cond.laysFinal RX12 "PaidSecretsModel" "clashes" "[I", Cond.laysFinal RX12 "PaidSecretsModel" "earFrom" "[I", Cond.laysFinal RX12 "PaidSecretsModel" "earTo" "[I", Cond.laysFinal RX12 "PaidSecretsModel" "earChance" "[I", Cond.laysFinal RX12 "PaidSecretsModel" "lineFrom" "[I", Cond.laysFinal RX12 "PaidSecretsModel" "lineTo" "[I", Cond.laysFinal RX12 "PaidSecretsModel" "codes" "[I", Cond.lays RX12 "PaidSecretsModel" "code" "I", Cond.laysFinal RX12 "PaidSecretsModel" "opened" "[I", Cond.laysFinal RX12 "PaidSecretsModel" "compared" "[Z", Cond.laysFinal RX12 "PaidSecretsModel" "kept" "[I", Cond.laysFinal RX12 "PaidSecretsModel" "keptBy" "[I", Cond.laysFinal RX12 "PaidSecretsModel" "ahead" "[I", Cond.laysFinal RX12 "PaidSecretsModel" "against" "[I", Cond.laysFinal RX12 "PaidSecretsModel" "sum" "[I", Cond.laysFinal RX12 "PaidSecretsModel" "sumBy" "[I", Cond.laysFinal RX12 "PaidSecretsModel" "term" "[I", Cond.laysFinal RX12 "PaidSecretsModel" "termBy" "[I", Cond.laysFinal RX12 "PaidSecretsModel" "byNot" "[I", Cond.laysFinal RX12 "PaidSecretsModel" "valueOf" "[I", Cond.lays RX12 "PaidSecretsModel" "given" "I", Cond.laysFinal RX12 "PaidSecretsModel" "lines" "[I", Cond.laysFinal RX12 "PaidSecretsModel" "lineWhat" "[I", Cond.laysFinal RX12 "PaidSecretsModel" "lineA" "[I", Cond.laysFinal RX12 "PaidSecretsModel" "lineB" "[I", Cond.laysFinal RX12 "PaidSecretsModel" "lineC" "[I", Cond.laysFinal RX12 "PaidSecretsModel" "seens" "[I", Cond.laysFinal RX12 "PaidSecretsModel" "seen" "[I", Cond.laysFinal RX12 "PaidSecretsModel" "seenFell" "[Z", Cond.laysFinal RX12 "PaidSecretsModel" "s" "[I", Cond.laysFinal RX12 "PaidSecretsModel" "aside" "[I", Cond.laysFinal RX12 "PaidSecretsModel" "marked" "[I", Cond.laysFinal RX12 "PaidSecretsModel" "undone" "[I", Cond.laysFinal RX12 "PaidSecretsModel" "isLaid" "[Z", Cond.lays RX12 "PaidSecretsModel" "done" "I", Cond.laysFinal RX12 "PaidSecretsModel" "together" "[Z", Cond.laysFinal RX12 "PaidSecretsModel" "isEnough" "[Z", Cond.laysFinal RX12 "PaidSecretsModel" "telling" "[I", Cond.laysFinal RX12 "PaidSecretsModel" "bestTelling" "[I", Cond.lays RX12 "PaidSecretsModel" "bestGap" "I", Cond.lays RX12 "PaidSecretsModel" "bestMany" "I", Cond.laysFinal RX12 "PaidSecretsModel" "odds" "[I", Cond.laysFinal RX12 "PaidSecretsModel" "oddsThen" "[I", Cond.laysFinal RX12 "PaidSecretsModel" "hears" "[I", Cond.laysFinal RX12 "PaidSecretsModel" "groups" "[I", Cond.laysFinal RX12 "PaidSecretsModel" "guest" "[I", Cond.laysFinal RX12 "PaidSecretsModel" "chosen" "[I", Cond.lays RX12 "PaidSecretsModel" "guests" "I", Cond.lays RX12 "PaidSecretsModel" "g" "J"] (by decide +kernel) (List.forall_mem_cons.mpr ⟨ww_1428, List.forall_mem_cons.mpr ⟨ww_1430, List.forall_mem_cons.mpr ⟨ww_1432, List.forall_mem_cons.mpr ⟨ww_1434, List.forall_mem_cons.mpr ⟨ww_1436, List.forall_mem_cons.mpr ⟨ww_1438, List.forall_mem_cons.mpr ⟨ww_1440, List.forall_mem_cons.mpr ⟨ww_1442, List.forall_mem_cons.mpr ⟨ww_1444, List.forall_mem_cons.mpr ⟨ww_1446, List.forall_mem_cons.mpr ⟨ww_1448, List.forall_mem_cons.mpr ⟨ww_1450, List.forall_mem_cons.mpr ⟨ww_1452, List.forall_mem_cons.mpr ⟨ww_1454, List.forall_mem_cons.mpr ⟨ww_1456, List.forall_mem_cons.mpr ⟨ww_1458, List.forall_mem_cons.mpr ⟨ww_1460, List.forall_mem_cons.mpr ⟨ww_1462, List.forall_mem_cons.mpr ⟨ww_1464, List.forall_mem_cons.mpr ⟨ww_1466, List.forall_mem_cons.mpr ⟨ww_1468, List.forall_mem_cons.mpr ⟨ww_1470, List.forall_mem_cons.mpr ⟨ww_1472, List.forall_mem_cons.mpr ⟨ww_1474, List.forall_mem_cons.mpr ⟨ww_1476, List.forall_mem_cons.mpr ⟨ww_1478, List.forall_mem_cons.mpr ⟨ww_1480, List.forall_mem_cons.mpr ⟨ww_1482, List.forall_mem_cons.mpr ⟨ww_1484, List.forall_mem_cons.mpr ⟨ww_1486, List.forall_mem_cons.mpr ⟨ww_1488, List.forall_mem_cons.mpr ⟨ww_1490, List.forall_mem_cons.mpr ⟨ww_1492, List.forall_mem_cons.mpr ⟨ww_1494, List.forall_mem_cons.mpr ⟨ww_1496, List.forall_mem_cons.mpr ⟨ww_1498, List.forall_mem_cons.mpr ⟨ww_1500, List.forall_mem_cons.mpr ⟨ww_1502, List.forall_mem_cons.mpr ⟨ww_1504, List.forall_mem_cons.mpr ⟨ww_1506, List.forall_mem_cons.mpr ⟨ww_1508, List.forall_mem_cons.mpr ⟨ww_1510, List.forall_mem_cons.mpr ⟨ww_1512, List.forall_mem_cons.mpr ⟨ww_1514, List.forall_mem_cons.mpr ⟨ww_1516, List.forall_mem_cons.mpr ⟨ww_1518, List.forall_mem_cons.mpr ⟨ww_1520, List.forall_mem_cons.mpr ⟨ww_1522, List.forall_mem_cons.mpr ⟨ww_1524, List.forall_mem_cons.mpr ⟨ww_1526, List.forall_mem_cons.mpr ⟨ww_1528, List.forall_mem_cons.mpr ⟨ww_1530, List.forall_mem_cons.mpr ⟨ww_1532, List.forall_mem_cons.mpr ⟨ww_1534, List.forall_mem_cons.mpr ⟨ww_1536, List.forall_mem_cons.mpr ⟨ww_1538, List.forall_mem_cons.mpr ⟨ww_1540, List.forall_mem_cons.mpr ⟨ww_1542, List.forall_mem_cons.mpr ⟨ww_1544, List.forall_mem_cons.mpr ⟨ww_1546, List.forall_mem_cons.mpr ⟨ww_1548, List.forall_mem_cons.mpr ⟨ww_1550, List.forall_mem_cons.mpr ⟨ww_1552, List.forall_mem_cons.mpr ⟨ww_1554, List.forall_mem_cons.mpr ⟨ww_1556, List.forall_mem_cons.mpr ⟨ww_1558, List.forall_mem_cons.mpr ⟨ww_1560, List.forall_mem_cons.mpr ⟨ww_1562, List.forall_mem_cons.mpr ⟨ww_1564, List.forall_mem_cons.mpr ⟨ww_1566, fun _ h => absurd h List.not_mem_nil⟩⟩⟩⟩⟩⟩⟩⟩⟩⟩⟩⟩⟩⟩⟩⟩⟩⟩⟩⟩⟩⟩⟩⟩⟩⟩⟩⟩⟩⟩⟩⟩⟩⟩⟩⟩⟩⟩⟩⟩⟩⟩⟩⟩⟩⟩⟩⟩⟩⟩⟩⟩⟩⟩⟩⟩⟩⟩⟩⟩⟩⟩⟩⟩⟩⟩⟩⟩⟩⟩)
theorem on_1000 : Int32.ofNat 1000 = 1000 := by decide +kernel
theorem on_24 : Int32.ofNat 24 = 24 := by decide +kernel
theorem pn_Co : ∀ {y : MethodName}, y.cls = RX0 → plainFor y = true := fun h => plainFor_of_name (by rw [h]; decide +kernel)
theorem pn_Fe : ∀ {y : MethodName}, y.cls = RX1 → plainFor y = true := fun h => plainFor_of_name (by rw [h]; decide +kernel)
theorem pn_Go : ∀ {y : MethodName}, y.cls = RX2 → plainFor y = true := fun h => plainFor_of_name (by rw [h]; decide +kernel)
theorem pn_JA : ∀ {y : MethodName}, y.cls = RJ7 → plainFor y = true := fun h => plainFor_of_name (by rw [h]; decide +kernel)
theorem pn_JI : ∀ {y : MethodName}, y.cls = RJ6 → plainFor y = true := fun h => plainFor_of_name (by rw [h]; decide +kernel)
theorem pn_JL : ∀ {y : MethodName}, y.cls = RJ1 → plainFor y = true := fun h => plainFor_of_name (by rw [h]; decide +kernel)
theorem pn_JM_floorMod : plainFor yJ9_floorMod_7cf53 = true := by decide +kernel
theorem pn_JM_max : plainFor yJ9_max_7cf53 = true := by decide +kernel
theorem pn_JM_min : plainFor yJ9_min_7cf53 = true := by decide +kernel
theorem pn_JS : ∀ {y : MethodName}, y.cls = RJ0 → plainFor y = true := fun h => plainFor_of_name (by rw [h]; decide +kernel)
theorem pn_La : ∀ {y : MethodName}, y.cls = RX3 → plainFor y = true := fun h => plainFor_of_name (by rw [h]; decide +kernel)
theorem pn_M : ∀ {y : MethodName}, y.cls = RX12 → plainFor y = true := fun h => plainFor_of_name (by rw [h]; decide +kernel)
theorem pn_Ni : ∀ {y : MethodName}, y.cls = RX4 → plainFor y = true := fun h => plainFor_of_name (by rw [h]; decide +kernel)
theorem pn_St : ∀ {y : MethodName}, y.cls = RX5 → plainFor y = true := fun h => plainFor_of_name (by rw [h]; decide +kernel)
theorem pn_Ta : ∀ {y : MethodName}, y.cls = RX7 → plainFor y = true := fun h => plainFor_of_name (by rw [h]; decide +kernel)
theorem pn_Tk : ∀ {y : MethodName}, y.cls = RX6 → plainFor y = true := fun h => plainFor_of_name (by rw [h]; decide +kernel)
theorem pn_To : ∀ {y : MethodName}, y.cls = RX8 → plainFor y = true := fun h => plainFor_of_name (by rw [h]; decide +kernel)
theorem pn_Tr : ∀ {y : MethodName}, y.cls = RX9 → plainFor y = true := fun h => plainFor_of_name (by rw [h]; decide +kernel)
theorem pn_X : ∀ {y : MethodName}, y.cls = RX11 → plainFor y = true := fun h => plainFor_of_name (by rw [h]; decide +kernel)
theorem pq_1_2 : 1 < 10 ∧ 2 < mm_nf 1 ∧ mm_ty 1 2 = .int ∧ (mm_fld 1 2).2.2.2 = false := ⟨by decide, by decide +kernel, rfl, by decide +kernel⟩
theorem pq_2_2 : 2 < 10 ∧ 2 < mm_nf 2 ∧ mm_ty 2 2 = .int ∧ (mm_fld 2 2).2.2.2 = false := ⟨by decide, by decide +kernel, rfl, by decide +kernel⟩
theorem pq_4_5 : 4 < 10 ∧ 5 < mm_nf 4 ∧ mm_ty 4 5 = .int ∧ (mm_fld 4 5).2.2.2 = false := ⟨by decide, by decide +kernel, rfl, by decide +kernel⟩
theorem pq_4_6 : 4 < 10 ∧ 6 < mm_nf 4 ∧ mm_ty 4 6 = .int ∧ (mm_fld 4 6).2.2.2 = false := ⟨by decide, by decide +kernel, rfl, by decide +kernel⟩
theorem pq_4_7 : 4 < 10 ∧ 7 < mm_nf 4 ∧ mm_ty 4 7 = .int ∧ (mm_fld 4 7).2.2.2 = false := ⟨by decide, by decide +kernel, rfl, by decide +kernel⟩
theorem pq_4_8 : 4 < 10 ∧ 8 < mm_nf 4 ∧ mm_ty 4 8 = .int ∧ (mm_fld 4 8).2.2.2 = false := ⟨by decide, by decide +kernel, rfl, by decide +kernel⟩
theorem pq_4_9 : 4 < 10 ∧ 9 < mm_nf 4 ∧ mm_ty 4 9 = .int ∧ (mm_fld 4 9).2.2.2 = false := ⟨by decide, by decide +kernel, rfl, by decide +kernel⟩
theorem pq_5_0 : 5 < 10 ∧ 0 < mm_nf 5 ∧ mm_ty 5 0 = .int ∧ (mm_fld 5 0).2.2.2 = false := ⟨by decide, by decide +kernel, rfl, by decide +kernel⟩
theorem pq_5_5 : 5 < 10 ∧ 5 < mm_nf 5 ∧ mm_ty 5 5 = .int ∧ (mm_fld 5 5).2.2.2 = false := ⟨by decide, by decide +kernel, rfl, by decide +kernel⟩
theorem pq_6_1 : 6 < 10 ∧ 1 < mm_nf 6 ∧ mm_ty 6 1 = .int ∧ (mm_fld 6 1).2.2.2 = false := ⟨by decide, by decide +kernel, rfl, by decide +kernel⟩
theorem pq_6_2 : 6 < 10 ∧ 2 < mm_nf 6 ∧ mm_ty 6 2 = .int ∧ (mm_fld 6 2).2.2.2 = false := ⟨by decide, by decide +kernel, rfl, by decide +kernel⟩
theorem pq_6_3 : 6 < 10 ∧ 3 < mm_nf 6 ∧ mm_ty 6 3 = .int ∧ (mm_fld 6 3).2.2.2 = false := ⟨by decide, by decide +kernel, rfl, by decide +kernel⟩
theorem pq_6_4 : 6 < 10 ∧ 4 < mm_nf 6 ∧ mm_ty 6 4 = .int ∧ (mm_fld 6 4).2.2.2 = false := ⟨by decide, by decide +kernel, rfl, by decide +kernel⟩
theorem pq_6_5 : 6 < 10 ∧ 5 < mm_nf 6 ∧ mm_ty 6 5 = .int ∧ (mm_fld 6 5).2.2.2 = false := ⟨by decide, by decide +kernel, rfl, by decide +kernel⟩
theorem pq_6_6 : 6 < 10 ∧ 6 < mm_nf 6 ∧ mm_ty 6 6 = .long ∧ (mm_fld 6 6).2.2.2 = false := ⟨by decide, by decide +kernel, rfl, by decide +kernel⟩
theorem pq_6_7 : 6 < 10 ∧ 7 < mm_nf 6 ∧ mm_ty 6 7 = .object "PaidSecrets$Word" ∧ (mm_fld 6 7).2.2.2 = false ∧ mm_mu 6 7 = true := ⟨by decide, by decide +kernel, rfl, by decide +kernel, by decide +kernel⟩
theorem pq_6_8 : 6 < 10 ∧ 8 < mm_nf 6 ∧ mm_ty 6 8 = .char ∧ (mm_fld 6 8).2.2.2 = false := ⟨by decide, by decide +kernel, rfl, by decide +kernel⟩
theorem pq_6_9 : 6 < 10 ∧ 9 < mm_nf 6 ∧ mm_ty 6 9 = .int ∧ (mm_fld 6 9).2.2.2 = false := ⟨by decide, by decide +kernel, rfl, by decide +kernel⟩
theorem pq_7_0 : 7 < 10 ∧ 0 < mm_nf 7 ∧ mm_ty 7 0 = .int ∧ (mm_fld 7 0).2.2.2 = false := ⟨by decide, by decide +kernel, rfl, by decide +kernel⟩
theorem pq_7_13 : 7 < 10 ∧ 13 < mm_nf 7 ∧ mm_ty 7 13 = .int ∧ (mm_fld 7 13).2.2.2 = false := ⟨by decide, by decide +kernel, rfl, by decide +kernel⟩
theorem pq_7_17 : 7 < 10 ∧ 17 < mm_nf 7 ∧ mm_ty 7 17 = .int ∧ (mm_fld 7 17).2.2.2 = false := ⟨by decide, by decide +kernel, rfl, by decide +kernel⟩
theorem pq_7_5 : 7 < 10 ∧ 5 < mm_nf 7 ∧ mm_ty 7 5 = .int ∧ (mm_fld 7 5).2.2.2 = false := ⟨by decide, by decide +kernel, rfl, by decide +kernel⟩
theorem pq_7_6 : 7 < 10 ∧ 6 < mm_nf 7 ∧ mm_ty 7 6 = .int ∧ (mm_fld 7 6).2.2.2 = false := ⟨by decide, by decide +kernel, rfl, by decide +kernel⟩
theorem pq_7_8 : 7 < 10 ∧ 8 < mm_nf 7 ∧ mm_ty 7 8 = .int ∧ (mm_fld 7 8).2.2.2 = false := ⟨by decide, by decide +kernel, rfl, by decide +kernel⟩
theorem pq_8_14 : 8 < 10 ∧ 14 < mm_nf 8 ∧ mm_ty 8 14 = .object "PaidSecrets$Town" ∧ (mm_fld 8 14).2.2.2 = false ∧ mm_mu 8 14 = true := ⟨by decide, by decide +kernel, rfl, by decide +kernel, by decide +kernel⟩
theorem pq_8_15 : 8 < 10 ∧ 15 < mm_nf 8 ∧ mm_ty 8 15 = .object "PaidSecrets$Town" ∧ (mm_fld 8 15).2.2.2 = false ∧ mm_mu 8 15 = true := ⟨by decide, by decide +kernel, rfl, by decide +kernel, by decide +kernel⟩
theorem pq_8_16 : 8 < 10 ∧ 16 < mm_nf 8 ∧ mm_ty 8 16 = .int ∧ (mm_fld 8 16).2.2.2 = false := ⟨by decide, by decide +kernel, rfl, by decide +kernel⟩
theorem pq_8_17 : 8 < 10 ∧ 17 < mm_nf 8 ∧ mm_ty 8 17 = .int ∧ (mm_fld 8 17).2.2.2 = false := ⟨by decide, by decide +kernel, rfl, by decide +kernel⟩
theorem pq_8_18 : 8 < 10 ∧ 18 < mm_nf 8 ∧ mm_ty 8 18 = .int ∧ (mm_fld 8 18).2.2.2 = false := ⟨by decide, by decide +kernel, rfl, by decide +kernel⟩
theorem pq_8_19 : 8 < 10 ∧ 19 < mm_nf 8 ∧ mm_ty 8 19 = .long ∧ (mm_fld 8 19).2.2.2 = false := ⟨by decide, by decide +kernel, rfl, by decide +kernel⟩
theorem pq_9_0 : 9 < 10 ∧ 0 < mm_nf 9 ∧ mm_ty 9 0 = .int ∧ (mm_fld 9 0).2.2.2 = false := ⟨by decide, by decide +kernel, rfl, by decide +kernel⟩
theorem pq_9_1 : 9 < 10 ∧ 1 < mm_nf 9 ∧ mm_ty 9 1 = .int ∧ (mm_fld 9 1).2.2.2 = false := ⟨by decide, by decide +kernel, rfl, by decide +kernel⟩
theorem pq_9_28 : 9 < 10 ∧ 28 < mm_nf 9 ∧ mm_ty 9 28 = .int ∧ (mm_fld 9 28).2.2.2 = false := ⟨by decide, by decide +kernel, rfl, by decide +kernel⟩
theorem pq_9_3 : 9 < 10 ∧ 3 < mm_nf 9 ∧ mm_ty 9 3 = .int ∧ (mm_fld 9 3).2.2.2 = false := ⟨by decide, by decide +kernel, rfl, by decide +kernel⟩
theorem pq_9_4 : 9 < 10 ∧ 4 < mm_nf 9 ∧ mm_ty 9 4 = .int ∧ (mm_fld 9 4).2.2.2 = false := ⟨by decide, by decide +kernel, rfl, by decide +kernel⟩
theorem pq_9_41 : 9 < 10 ∧ 41 < mm_nf 9 ∧ mm_ty 9 41 = .int ∧ (mm_fld 9 41).2.2.2 = false := ⟨by decide, by decide +kernel, rfl, by decide +kernel⟩
theorem pq_9_5 : 9 < 10 ∧ 5 < mm_nf 9 ∧ mm_ty 9 5 = .int ∧ (mm_fld 9 5).2.2.2 = false := ⟨by decide, by decide +kernel, rfl, by decide +kernel⟩
theorem pq_9_55 : 9 < 10 ∧ 55 < mm_nf 9 ∧ mm_ty 9 55 = .int ∧ (mm_fld 9 55).2.2.2 = false := ⟨by decide, by decide +kernel, rfl, by decide +kernel⟩
theorem pq_9_6 : 9 < 10 ∧ 6 < mm_nf 9 ∧ mm_ty 9 6 = .int ∧ (mm_fld 9 6).2.2.2 = false := ⟨by decide, by decide +kernel, rfl, by decide +kernel⟩
theorem pq_9_60 : 9 < 10 ∧ 60 < mm_nf 9 ∧ mm_ty 9 60 = .int ∧ (mm_fld 9 60).2.2.2 = false := ⟨by decide, by decide +kernel, rfl, by decide +kernel⟩
theorem pq_9_61 : 9 < 10 ∧ 61 < mm_nf 9 ∧ mm_ty 9 61 = .int ∧ (mm_fld 9 61).2.2.2 = false := ⟨by decide, by decide +kernel, rfl, by decide +kernel⟩
theorem pq_9_68 : 9 < 10 ∧ 68 < mm_nf 9 ∧ mm_ty 9 68 = .int ∧ (mm_fld 9 68).2.2.2 = false := ⟨by decide, by decide +kernel, rfl, by decide +kernel⟩
theorem pq_9_69 : 9 < 10 ∧ 69 < mm_nf 9 ∧ mm_ty 9 69 = .long ∧ (mm_fld 9 69).2.2.2 = false := ⟨by decide, by decide +kernel, rfl, by decide +kernel⟩
theorem pq_9_7 : 9 < 10 ∧ 7 < mm_nf 9 ∧ mm_ty 9 7 = .long ∧ (mm_fld 9 7).2.2.2 = false := ⟨by decide, by decide +kernel, rfl, by decide +kernel⟩
theorem pq_9_8 : 9 < 10 ∧ 8 < mm_nf 9 ∧ mm_ty 9 8 = .int ∧ (mm_fld 9 8).2.2.2 = false := ⟨by decide, by decide +kernel, rfl, by decide +kernel⟩
theorem pq_9_9 : 9 < 10 ∧ 9 < mm_nf 9 ∧ mm_ty 9 9 = .int ∧ (mm_fld 9 9).2.2.2 = false := ⟨by decide, by decide +kernel, rfl, by decide +kernel⟩
theorem rq_0_0 : 0 < 10 ∧ 0 < mm_nf 0 ∧ mm_kd (mm_ty 0 0) = 2 ∧ mm_mu 0 0 = false ∧ mm_of 0 0 = 1 := ⟨by decide, by decide +kernel, by decide +kernel, by decide +kernel, by decide +kernel⟩
theorem rq_0_1 : 0 < 10 ∧ 1 < mm_nf 0 ∧ mm_kd (mm_ty 0 1) = 2 ∧ mm_mu 0 1 = false ∧ mm_of 0 1 = 2 := ⟨by decide, by decide +kernel, by decide +kernel, by decide +kernel, by decide +kernel⟩
theorem rq_0_2 : 0 < 10 ∧ 2 < mm_nf 0 ∧ mm_kd (mm_ty 0 2) = 2 ∧ mm_mu 0 2 = false ∧ mm_of 0 2 = 3 := ⟨by decide, by decide +kernel, by decide +kernel, by decide +kernel, by decide +kernel⟩
theorem rq_1_0 : 1 < 10 ∧ 0 < mm_nf 1 ∧ mm_kd (mm_ty 1 0) = 2 ∧ mm_mu 1 0 = false ∧ mm_of 1 0 = 1 := ⟨by decide, by decide +kernel, by decide +kernel, by decide +kernel, by decide +kernel⟩
theorem rq_1_1 : 1 < 10 ∧ 1 < mm_nf 1 ∧ mm_kd (mm_ty 1 1) = 2 ∧ mm_mu 1 1 = false ∧ mm_of 1 1 = 2 := ⟨by decide, by decide +kernel, by decide +kernel, by decide +kernel, by decide +kernel⟩
theorem rq_2_0 : 2 < 10 ∧ 0 < mm_nf 2 ∧ mm_kd (mm_ty 2 0) = 2 ∧ mm_mu 2 0 = false ∧ mm_of 2 0 = 1 := ⟨by decide, by decide +kernel, by decide +kernel, by decide +kernel, by decide +kernel⟩
theorem rq_2_1 : 2 < 10 ∧ 1 < mm_nf 2 ∧ mm_kd (mm_ty 2 1) = 2 ∧ mm_mu 2 1 = false ∧ mm_of 2 1 = 2 := ⟨by decide, by decide +kernel, by decide +kernel, by decide +kernel, by decide +kernel⟩
theorem rq_3_0 : 3 < 10 ∧ 0 < mm_nf 3 ∧ mm_kd (mm_ty 3 0) = 2 ∧ mm_mu 3 0 = false ∧ mm_of 3 0 = 1 := ⟨by decide, by decide +kernel, by decide +kernel, by decide +kernel, by decide +kernel⟩
theorem rq_3_1 : 3 < 10 ∧ 1 < mm_nf 3 ∧ mm_kd (mm_ty 3 1) = 2 ∧ mm_mu 3 1 = false ∧ mm_of 3 1 = 2 := ⟨by decide, by decide +kernel, by decide +kernel, by decide +kernel, by decide +kernel⟩
theorem rq_3_2 : 3 < 10 ∧ 2 < mm_nf 3 ∧ mm_kd (mm_ty 3 2) = 2 ∧ mm_mu 3 2 = false ∧ mm_of 3 2 = 3 := ⟨by decide, by decide +kernel, by decide +kernel, by decide +kernel, by decide +kernel⟩
theorem rq_3_3 : 3 < 10 ∧ 3 < mm_nf 3 ∧ mm_kd (mm_ty 3 3) = 2 ∧ mm_mu 3 3 = false ∧ mm_of 3 3 = 4 := ⟨by decide, by decide +kernel, by decide +kernel, by decide +kernel, by decide +kernel⟩
theorem rq_4_0 : 4 < 10 ∧ 0 < mm_nf 4 ∧ mm_kd (mm_ty 4 0) = 2 ∧ mm_mu 4 0 = false ∧ mm_of 4 0 = 1 := ⟨by decide, by decide +kernel, by decide +kernel, by decide +kernel, by decide +kernel⟩
theorem rq_4_1 : 4 < 10 ∧ 1 < mm_nf 4 ∧ mm_kd (mm_ty 4 1) = 2 ∧ mm_mu 4 1 = false ∧ mm_of 4 1 = 2 := ⟨by decide, by decide +kernel, by decide +kernel, by decide +kernel, by decide +kernel⟩
theorem rq_4_2 : 4 < 10 ∧ 2 < mm_nf 4 ∧ mm_kd (mm_ty 4 2) = 2 ∧ mm_mu 4 2 = false ∧ mm_of 4 2 = 3 := ⟨by decide, by decide +kernel, by decide +kernel, by decide +kernel, by decide +kernel⟩
theorem rq_4_3 : 4 < 10 ∧ 3 < mm_nf 4 ∧ mm_kd (mm_ty 4 3) = 2 ∧ mm_mu 4 3 = false ∧ mm_of 4 3 = 4 := ⟨by decide, by decide +kernel, by decide +kernel, by decide +kernel, by decide +kernel⟩
theorem rq_4_4 : 4 < 10 ∧ 4 < mm_nf 4 ∧ mm_kd (mm_ty 4 4) = 2 ∧ mm_mu 4 4 = false ∧ mm_of 4 4 = 5 := ⟨by decide, by decide +kernel, by decide +kernel, by decide +kernel, by decide +kernel⟩
theorem rq_5_1 : 5 < 10 ∧ 1 < mm_nf 5 ∧ mm_kd (mm_ty 5 1) = 2 ∧ mm_mu 5 1 = false ∧ mm_of 5 1 = 1 := ⟨by decide, by decide +kernel, by decide +kernel, by decide +kernel, by decide +kernel⟩
theorem rq_5_2 : 5 < 10 ∧ 2 < mm_nf 5 ∧ mm_kd (mm_ty 5 2) = 2 ∧ mm_mu 5 2 = false ∧ mm_of 5 2 = 2 := ⟨by decide, by decide +kernel, by decide +kernel, by decide +kernel, by decide +kernel⟩
theorem rq_5_3 : 5 < 10 ∧ 3 < mm_nf 5 ∧ mm_kd (mm_ty 5 3) = 2 ∧ mm_mu 5 3 = false ∧ mm_of 5 3 = 3 := ⟨by decide, by decide +kernel, by decide +kernel, by decide +kernel, by decide +kernel⟩
theorem rq_5_4 : 5 < 10 ∧ 4 < mm_nf 5 ∧ mm_kd (mm_ty 5 4) = 2 ∧ mm_mu 5 4 = false ∧ mm_of 5 4 = 4 := ⟨by decide, by decide +kernel, by decide +kernel, by decide +kernel, by decide +kernel⟩
theorem rq_5_6 : 5 < 10 ∧ 6 < mm_nf 5 ∧ mm_kd (mm_ty 5 6) = 2 ∧ mm_mu 5 6 = false ∧ mm_of 5 6 = 5 := ⟨by decide, by decide +kernel, by decide +kernel, by decide +kernel, by decide +kernel⟩
theorem rq_5_7 : 5 < 10 ∧ 7 < mm_nf 5 ∧ mm_kd (mm_ty 5 7) = 2 ∧ mm_mu 5 7 = false ∧ mm_of 5 7 = 6 := ⟨by decide, by decide +kernel, by decide +kernel, by decide +kernel, by decide +kernel⟩
theorem rq_6_0 : 6 < 10 ∧ 0 < mm_nf 6 ∧ mm_kd (mm_ty 6 0) = 2 ∧ mm_mu 6 0 = false ∧ mm_of 6 0 = 1 := ⟨by decide, by decide +kernel, by decide +kernel, by decide +kernel, by decide +kernel⟩
theorem rq_7_1 : 7 < 10 ∧ 1 < mm_nf 7 ∧ mm_kd (mm_ty 7 1) = 2 ∧ mm_mu 7 1 = false ∧ mm_of 7 1 = 1 := ⟨by decide, by decide +kernel, by decide +kernel, by decide +kernel, by decide +kernel⟩
theorem rq_7_10 : 7 < 10 ∧ 10 < mm_nf 7 ∧ mm_kd (mm_ty 7 10) = 2 ∧ mm_mu 7 10 = false ∧ mm_of 7 10 = 7 := ⟨by decide, by decide +kernel, by decide +kernel, by decide +kernel, by decide +kernel⟩
theorem rq_7_11 : 7 < 10 ∧ 11 < mm_nf 7 ∧ mm_kd (mm_ty 7 11) = 2 ∧ mm_mu 7 11 = false ∧ mm_of 7 11 = 8 := ⟨by decide, by decide +kernel, by decide +kernel, by decide +kernel, by decide +kernel⟩
theorem rq_7_12 : 7 < 10 ∧ 12 < mm_nf 7 ∧ mm_kd (mm_ty 7 12) = 2 ∧ mm_mu 7 12 = false ∧ mm_of 7 12 = 9 := ⟨by decide, by decide +kernel, by decide +kernel, by decide +kernel, by decide +kernel⟩
theorem rq_7_14 : 7 < 10 ∧ 14 < mm_nf 7 ∧ mm_kd (mm_ty 7 14) = 2 ∧ mm_mu 7 14 = false ∧ mm_of 7 14 = 10 := ⟨by decide, by decide +kernel, by decide +kernel, by decide +kernel, by decide +kernel⟩
theorem rq_7_15 : 7 < 10 ∧ 15 < mm_nf 7 ∧ mm_kd (mm_ty 7 15) = 2 ∧ mm_mu 7 15 = false ∧ mm_of 7 15 = 11 := ⟨by decide, by decide +kernel, by decide +kernel, by decide +kernel, by decide +kernel⟩
theorem rq_7_16 : 7 < 10 ∧ 16 < mm_nf 7 ∧ mm_kd (mm_ty 7 16) = 2 ∧ mm_mu 7 16 = false ∧ mm_of 7 16 = 12 := ⟨by decide, by decide +kernel, by decide +kernel, by decide +kernel, by decide +kernel⟩
theorem rq_7_18 : 7 < 10 ∧ 18 < mm_nf 7 ∧ mm_kd (mm_ty 7 18) = 2 ∧ mm_mu 7 18 = false ∧ mm_of 7 18 = 13 := ⟨by decide, by decide +kernel, by decide +kernel, by decide +kernel, by decide +kernel⟩
theorem rq_7_19 : 7 < 10 ∧ 19 < mm_nf 7 ∧ mm_kd (mm_ty 7 19) = 2 ∧ mm_mu 7 19 = false ∧ mm_of 7 19 = 14 := ⟨by decide, by decide +kernel, by decide +kernel, by decide +kernel, by decide +kernel⟩
theorem rq_7_2 : 7 < 10 ∧ 2 < mm_nf 7 ∧ mm_kd (mm_ty 7 2) = 2 ∧ mm_mu 7 2 = false ∧ mm_of 7 2 = 2 := ⟨by decide, by decide +kernel, by decide +kernel, by decide +kernel, by decide +kernel⟩
theorem rq_7_3 : 7 < 10 ∧ 3 < mm_nf 7 ∧ mm_kd (mm_ty 7 3) = 2 ∧ mm_mu 7 3 = false ∧ mm_of 7 3 = 3 := ⟨by decide, by decide +kernel, by decide +kernel, by decide +kernel, by decide +kernel⟩
theorem rq_7_4 : 7 < 10 ∧ 4 < mm_nf 7 ∧ mm_kd (mm_ty 7 4) = 2 ∧ mm_mu 7 4 = false ∧ mm_of 7 4 = 4 := ⟨by decide, by decide +kernel, by decide +kernel, by decide +kernel, by decide +kernel⟩
theorem rq_7_7 : 7 < 10 ∧ 7 < mm_nf 7 ∧ mm_kd (mm_ty 7 7) = 2 ∧ mm_mu 7 7 = false ∧ mm_of 7 7 = 5 := ⟨by decide, by decide +kernel, by decide +kernel, by decide +kernel, by decide +kernel⟩
theorem rq_7_9 : 7 < 10 ∧ 9 < mm_nf 7 ∧ mm_kd (mm_ty 7 9) = 2 ∧ mm_mu 7 9 = false ∧ mm_of 7 9 = 6 := ⟨by decide, by decide +kernel, by decide +kernel, by decide +kernel, by decide +kernel⟩
theorem rq_8_0 : 8 < 10 ∧ 0 < mm_nf 8 ∧ mm_kd (mm_ty 8 0) = 2 ∧ mm_mu 8 0 = false ∧ mm_of 8 0 = 1 := ⟨by decide, by decide +kernel, by decide +kernel, by decide +kernel, by decide +kernel⟩
theorem rq_8_1 : 8 < 10 ∧ 1 < mm_nf 8 ∧ mm_kd (mm_ty 8 1) = 2 ∧ mm_mu 8 1 = false ∧ mm_of 8 1 = 3 := ⟨by decide, by decide +kernel, by decide +kernel, by decide +kernel, by decide +kernel⟩
theorem rq_8_10 : 8 < 10 ∧ 10 < mm_nf 8 ∧ mm_kd (mm_ty 8 10) = 2 ∧ mm_mu 8 10 = false ∧ mm_of 8 10 = 39 := ⟨by decide, by decide +kernel, by decide +kernel, by decide +kernel, by decide +kernel⟩
theorem rq_8_11 : 8 < 10 ∧ 11 < mm_nf 8 ∧ mm_kd (mm_ty 8 11) = 2 ∧ mm_mu 8 11 = false ∧ mm_of 8 11 = 44 := ⟨by decide, by decide +kernel, by decide +kernel, by decide +kernel, by decide +kernel⟩
theorem rq_8_12 : 8 < 10 ∧ 12 < mm_nf 8 ∧ mm_kd (mm_ty 8 12) = 2 ∧ mm_mu 8 12 = false ∧ mm_of 8 12 = 45 := ⟨by decide, by decide +kernel, by decide +kernel, by decide +kernel, by decide +kernel⟩
theorem rq_8_13 : 8 < 10 ∧ 13 < mm_nf 8 ∧ mm_kd (mm_ty 8 13) = 2 ∧ mm_mu 8 13 = false ∧ mm_of 8 13 = 46 := ⟨by decide, by decide +kernel, by decide +kernel, by decide +kernel, by decide +kernel⟩
theorem rq_8_2 : 8 < 10 ∧ 2 < mm_nf 8 ∧ mm_kd (mm_ty 8 2) = 2 ∧ mm_mu 8 2 = false ∧ mm_of 8 2 = 9 := ⟨by decide, by decide +kernel, by decide +kernel, by decide +kernel, by decide +kernel⟩
theorem rq_8_3 : 8 < 10 ∧ 3 < mm_nf 8 ∧ mm_kd (mm_ty 8 3) = 2 ∧ mm_mu 8 3 = false ∧ mm_of 8 3 = 15 := ⟨by decide, by decide +kernel, by decide +kernel, by decide +kernel, by decide +kernel⟩
theorem rq_8_4 : 8 < 10 ∧ 4 < mm_nf 8 ∧ mm_kd (mm_ty 8 4) = 2 ∧ mm_mu 8 4 = false ∧ mm_of 8 4 = 22 := ⟨by decide, by decide +kernel, by decide +kernel, by decide +kernel, by decide +kernel⟩
theorem rq_8_5 : 8 < 10 ∧ 5 < mm_nf 8 ∧ mm_kd (mm_ty 8 5) = 2 ∧ mm_mu 8 5 = false ∧ mm_of 8 5 = 29 := ⟨by decide, by decide +kernel, by decide +kernel, by decide +kernel, by decide +kernel⟩
theorem rq_8_6 : 8 < 10 ∧ 6 < mm_nf 8 ∧ mm_kd (mm_ty 8 6) = 2 ∧ mm_mu 8 6 = false ∧ mm_of 8 6 = 30 := ⟨by decide, by decide +kernel, by decide +kernel, by decide +kernel, by decide +kernel⟩
theorem rq_8_7 : 8 < 10 ∧ 7 < mm_nf 8 ∧ mm_kd (mm_ty 8 7) = 2 ∧ mm_mu 8 7 = false ∧ mm_of 8 7 = 31 := ⟨by decide, by decide +kernel, by decide +kernel, by decide +kernel, by decide +kernel⟩
theorem rq_8_8 : 8 < 10 ∧ 8 < mm_nf 8 ∧ mm_kd (mm_ty 8 8) = 2 ∧ mm_mu 8 8 = false ∧ mm_of 8 8 = 32 := ⟨by decide, by decide +kernel, by decide +kernel, by decide +kernel, by decide +kernel⟩
theorem rq_8_9 : 8 < 10 ∧ 9 < mm_nf 8 ∧ mm_kd (mm_ty 8 9) = 2 ∧ mm_mu 8 9 = false ∧ mm_of 8 9 = 36 := ⟨by decide, by decide +kernel, by decide +kernel, by decide +kernel, by decide +kernel⟩
theorem rq_9_10 : 9 < 10 ∧ 10 < mm_nf 9 ∧ mm_kd (mm_ty 9 10) = 2 ∧ mm_mu 9 10 = false ∧ mm_of 9 10 = 2 := ⟨by decide, by decide +kernel, by decide +kernel, by decide +kernel, by decide +kernel⟩
theorem rq_9_11 : 9 < 10 ∧ 11 < mm_nf 9 ∧ mm_kd (mm_ty 9 11) = 2 ∧ mm_mu 9 11 = false ∧ mm_of 9 11 = 3 := ⟨by decide, by decide +kernel, by decide +kernel, by decide +kernel, by decide +kernel⟩
theorem rq_9_12 : 9 < 10 ∧ 12 < mm_nf 9 ∧ mm_kd (mm_ty 9 12) = 2 ∧ mm_mu 9 12 = false ∧ mm_of 9 12 = 4 := ⟨by decide, by decide +kernel, by decide +kernel, by decide +kernel, by decide +kernel⟩
theorem rq_9_13 : 9 < 10 ∧ 13 < mm_nf 9 ∧ mm_kd (mm_ty 9 13) = 2 ∧ mm_mu 9 13 = false ∧ mm_of 9 13 = 5 := ⟨by decide, by decide +kernel, by decide +kernel, by decide +kernel, by decide +kernel⟩
theorem rq_9_14 : 9 < 10 ∧ 14 < mm_nf 9 ∧ mm_kd (mm_ty 9 14) = 2 ∧ mm_mu 9 14 = false ∧ mm_of 9 14 = 6 := ⟨by decide, by decide +kernel, by decide +kernel, by decide +kernel, by decide +kernel⟩
theorem rq_9_15 : 9 < 10 ∧ 15 < mm_nf 9 ∧ mm_kd (mm_ty 9 15) = 2 ∧ mm_mu 9 15 = false ∧ mm_of 9 15 = 7 := ⟨by decide, by decide +kernel, by decide +kernel, by decide +kernel, by decide +kernel⟩
theorem rq_9_16 : 9 < 10 ∧ 16 < mm_nf 9 ∧ mm_kd (mm_ty 9 16) = 2 ∧ mm_mu 9 16 = false ∧ mm_of 9 16 = 8 := ⟨by decide, by decide +kernel, by decide +kernel, by decide +kernel, by decide +kernel⟩
theorem rq_9_17 : 9 < 10 ∧ 17 < mm_nf 9 ∧ mm_kd (mm_ty 9 17) = 2 ∧ mm_mu 9 17 = false ∧ mm_of 9 17 = 9 := ⟨by decide, by decide +kernel, by decide +kernel, by decide +kernel, by decide +kernel⟩
theorem rq_9_18 : 9 < 10 ∧ 18 < mm_nf 9 ∧ mm_kd (mm_ty 9 18) = 2 ∧ mm_mu 9 18 = false ∧ mm_of 9 18 = 10 := ⟨by decide, by decide +kernel, by decide +kernel, by decide +kernel, by decide +kernel⟩
theorem rq_9_19 : 9 < 10 ∧ 19 < mm_nf 9 ∧ mm_kd (mm_ty 9 19) = 2 ∧ mm_mu 9 19 = false ∧ mm_of 9 19 = 11 := ⟨by decide, by decide +kernel, by decide +kernel, by decide +kernel, by decide +kernel⟩
theorem rq_9_2 : 9 < 10 ∧ 2 < mm_nf 9 ∧ mm_kd (mm_ty 9 2) = 2 ∧ mm_mu 9 2 = false ∧ mm_of 9 2 = 1 := ⟨by decide, by decide +kernel, by decide +kernel, by decide +kernel, by decide +kernel⟩
theorem rq_9_20 : 9 < 10 ∧ 20 < mm_nf 9 ∧ mm_kd (mm_ty 9 20) = 2 ∧ mm_mu 9 20 = false ∧ mm_of 9 20 = 12 := ⟨by decide, by decide +kernel, by decide +kernel, by decide +kernel, by decide +kernel⟩
theorem rq_9_21 : 9 < 10 ∧ 21 < mm_nf 9 ∧ mm_kd (mm_ty 9 21) = 2 ∧ mm_mu 9 21 = false ∧ mm_of 9 21 = 13 := ⟨by decide, by decide +kernel, by decide +kernel, by decide +kernel, by decide +kernel⟩
theorem rq_9_22 : 9 < 10 ∧ 22 < mm_nf 9 ∧ mm_kd (mm_ty 9 22) = 2 ∧ mm_mu 9 22 = false ∧ mm_of 9 22 = 14 := ⟨by decide, by decide +kernel, by decide +kernel, by decide +kernel, by decide +kernel⟩
theorem rq_9_23 : 9 < 10 ∧ 23 < mm_nf 9 ∧ mm_kd (mm_ty 9 23) = 2 ∧ mm_mu 9 23 = false ∧ mm_of 9 23 = 15 := ⟨by decide, by decide +kernel, by decide +kernel, by decide +kernel, by decide +kernel⟩
theorem rq_9_24 : 9 < 10 ∧ 24 < mm_nf 9 ∧ mm_kd (mm_ty 9 24) = 2 ∧ mm_mu 9 24 = false ∧ mm_of 9 24 = 16 := ⟨by decide, by decide +kernel, by decide +kernel, by decide +kernel, by decide +kernel⟩
theorem rq_9_25 : 9 < 10 ∧ 25 < mm_nf 9 ∧ mm_kd (mm_ty 9 25) = 2 ∧ mm_mu 9 25 = false ∧ mm_of 9 25 = 17 := ⟨by decide, by decide +kernel, by decide +kernel, by decide +kernel, by decide +kernel⟩
theorem rq_9_26 : 9 < 10 ∧ 26 < mm_nf 9 ∧ mm_kd (mm_ty 9 26) = 2 ∧ mm_mu 9 26 = false ∧ mm_of 9 26 = 18 := ⟨by decide, by decide +kernel, by decide +kernel, by decide +kernel, by decide +kernel⟩
theorem rq_9_27 : 9 < 10 ∧ 27 < mm_nf 9 ∧ mm_kd (mm_ty 9 27) = 2 ∧ mm_mu 9 27 = false ∧ mm_of 9 27 = 19 := ⟨by decide, by decide +kernel, by decide +kernel, by decide +kernel, by decide +kernel⟩
theorem rq_9_29 : 9 < 10 ∧ 29 < mm_nf 9 ∧ mm_kd (mm_ty 9 29) = 2 ∧ mm_mu 9 29 = false ∧ mm_of 9 29 = 20 := ⟨by decide, by decide +kernel, by decide +kernel, by decide +kernel, by decide +kernel⟩
theorem rq_9_30 : 9 < 10 ∧ 30 < mm_nf 9 ∧ mm_kd (mm_ty 9 30) = 2 ∧ mm_mu 9 30 = false ∧ mm_of 9 30 = 21 := ⟨by decide, by decide +kernel, by decide +kernel, by decide +kernel, by decide +kernel⟩
theorem rq_9_31 : 9 < 10 ∧ 31 < mm_nf 9 ∧ mm_kd (mm_ty 9 31) = 2 ∧ mm_mu 9 31 = false ∧ mm_of 9 31 = 22 := ⟨by decide, by decide +kernel, by decide +kernel, by decide +kernel, by decide +kernel⟩
theorem rq_9_32 : 9 < 10 ∧ 32 < mm_nf 9 ∧ mm_kd (mm_ty 9 32) = 2 ∧ mm_mu 9 32 = false ∧ mm_of 9 32 = 23 := ⟨by decide, by decide +kernel, by decide +kernel, by decide +kernel, by decide +kernel⟩
theorem rq_9_33 : 9 < 10 ∧ 33 < mm_nf 9 ∧ mm_kd (mm_ty 9 33) = 2 ∧ mm_mu 9 33 = false ∧ mm_of 9 33 = 24 := ⟨by decide, by decide +kernel, by decide +kernel, by decide +kernel, by decide +kernel⟩
theorem rq_9_34 : 9 < 10 ∧ 34 < mm_nf 9 ∧ mm_kd (mm_ty 9 34) = 2 ∧ mm_mu 9 34 = false ∧ mm_of 9 34 = 25 := ⟨by decide, by decide +kernel, by decide +kernel, by decide +kernel, by decide +kernel⟩
theorem rq_9_35 : 9 < 10 ∧ 35 < mm_nf 9 ∧ mm_kd (mm_ty 9 35) = 2 ∧ mm_mu 9 35 = false ∧ mm_of 9 35 = 26 := ⟨by decide, by decide +kernel, by decide +kernel, by decide +kernel, by decide +kernel⟩
theorem rq_9_36 : 9 < 10 ∧ 36 < mm_nf 9 ∧ mm_kd (mm_ty 9 36) = 2 ∧ mm_mu 9 36 = false ∧ mm_of 9 36 = 27 := ⟨by decide, by decide +kernel, by decide +kernel, by decide +kernel, by decide +kernel⟩
theorem rq_9_37 : 9 < 10 ∧ 37 < mm_nf 9 ∧ mm_kd (mm_ty 9 37) = 2 ∧ mm_mu 9 37 = false ∧ mm_of 9 37 = 28 := ⟨by decide, by decide +kernel, by decide +kernel, by decide +kernel, by decide +kernel⟩
theorem rq_9_38 : 9 < 10 ∧ 38 < mm_nf 9 ∧ mm_kd (mm_ty 9 38) = 2 ∧ mm_mu 9 38 = false ∧ mm_of 9 38 = 29 := ⟨by decide, by decide +kernel, by decide +kernel, by decide +kernel, by decide +kernel⟩
theorem rq_9_39 : 9 < 10 ∧ 39 < mm_nf 9 ∧ mm_kd (mm_ty 9 39) = 2 ∧ mm_mu 9 39 = false ∧ mm_of 9 39 = 30 := ⟨by decide, by decide +kernel, by decide +kernel, by decide +kernel, by decide +kernel⟩
theorem rq_9_40 : 9 < 10 ∧ 40 < mm_nf 9 ∧ mm_kd (mm_ty 9 40) = 2 ∧ mm_mu 9 40 = false ∧ mm_of 9 40 = 31 := ⟨by decide, by decide +kernel, by decide +kernel, by decide +kernel, by decide +kernel⟩
theorem rq_9_42 : 9 < 10 ∧ 42 < mm_nf 9 ∧ mm_kd (mm_ty 9 42) = 2 ∧ mm_mu 9 42 = false ∧ mm_of 9 42 = 32 := ⟨by decide, by decide +kernel, by decide +kernel, by decide +kernel, by decide +kernel⟩
theorem rq_9_43 : 9 < 10 ∧ 43 < mm_nf 9 ∧ mm_kd (mm_ty 9 43) = 2 ∧ mm_mu 9 43 = false ∧ mm_of 9 43 = 33 := ⟨by decide, by decide +kernel, by decide +kernel, by decide +kernel, by decide +kernel⟩
theorem rq_9_44 : 9 < 10 ∧ 44 < mm_nf 9 ∧ mm_kd (mm_ty 9 44) = 2 ∧ mm_mu 9 44 = false ∧ mm_of 9 44 = 34 := ⟨by decide, by decide +kernel, by decide +kernel, by decide +kernel, by decide +kernel⟩
theorem rq_9_45 : 9 < 10 ∧ 45 < mm_nf 9 ∧ mm_kd (mm_ty 9 45) = 2 ∧ mm_mu 9 45 = false ∧ mm_of 9 45 = 35 := ⟨by decide, by decide +kernel, by decide +kernel, by decide +kernel, by decide +kernel⟩
theorem rq_9_46 : 9 < 10 ∧ 46 < mm_nf 9 ∧ mm_kd (mm_ty 9 46) = 2 ∧ mm_mu 9 46 = false ∧ mm_of 9 46 = 36 := ⟨by decide, by decide +kernel, by decide +kernel, by decide +kernel, by decide +kernel⟩
theorem rq_9_47 : 9 < 10 ∧ 47 < mm_nf 9 ∧ mm_kd (mm_ty 9 47) = 2 ∧ mm_mu 9 47 = false ∧ mm_of 9 47 = 37 := ⟨by decide, by decide +kernel, by decide +kernel, by decide +kernel, by decide +kernel⟩
theorem rq_9_48 : 9 < 10 ∧ 48 < mm_nf 9 ∧ mm_kd (mm_ty 9 48) = 2 ∧ mm_mu 9 48 = false ∧ mm_of 9 48 = 38 := ⟨by decide, by decide +kernel, by decide +kernel, by decide +kernel, by decide +kernel⟩
theorem rq_9_49 : 9 < 10 ∧ 49 < mm_nf 9 ∧ mm_kd (mm_ty 9 49) = 2 ∧ mm_mu 9 49 = false ∧ mm_of 9 49 = 39 := ⟨by decide, by decide +kernel, by decide +kernel, by decide +kernel, by decide +kernel⟩
theorem rq_9_50 : 9 < 10 ∧ 50 < mm_nf 9 ∧ mm_kd (mm_ty 9 50) = 2 ∧ mm_mu 9 50 = false ∧ mm_of 9 50 = 40 := ⟨by decide, by decide +kernel, by decide +kernel, by decide +kernel, by decide +kernel⟩
theorem rq_9_51 : 9 < 10 ∧ 51 < mm_nf 9 ∧ mm_kd (mm_ty 9 51) = 2 ∧ mm_mu 9 51 = false ∧ mm_of 9 51 = 41 := ⟨by decide, by decide +kernel, by decide +kernel, by decide +kernel, by decide +kernel⟩
theorem rq_9_52 : 9 < 10 ∧ 52 < mm_nf 9 ∧ mm_kd (mm_ty 9 52) = 2 ∧ mm_mu 9 52 = false ∧ mm_of 9 52 = 42 := ⟨by decide, by decide +kernel, by decide +kernel, by decide +kernel, by decide +kernel⟩
theorem rq_9_53 : 9 < 10 ∧ 53 < mm_nf 9 ∧ mm_kd (mm_ty 9 53) = 2 ∧ mm_mu 9 53 = false ∧ mm_of 9 53 = 43 := ⟨by decide, by decide +kernel, by decide +kernel, by decide +kernel, by decide +kernel⟩
theorem rq_9_54 : 9 < 10 ∧ 54 < mm_nf 9 ∧ mm_kd (mm_ty 9 54) = 2 ∧ mm_mu 9 54 = false ∧ mm_of 9 54 = 44 := ⟨by decide, by decide +kernel, by decide +kernel, by decide +kernel, by decide +kernel⟩
theorem rq_9_56 : 9 < 10 ∧ 56 < mm_nf 9 ∧ mm_kd (mm_ty 9 56) = 2 ∧ mm_mu 9 56 = false ∧ mm_of 9 56 = 45 := ⟨by decide, by decide +kernel, by decide +kernel, by decide +kernel, by decide +kernel⟩
theorem rq_9_57 : 9 < 10 ∧ 57 < mm_nf 9 ∧ mm_kd (mm_ty 9 57) = 2 ∧ mm_mu 9 57 = false ∧ mm_of 9 57 = 46 := ⟨by decide, by decide +kernel, by decide +kernel, by decide +kernel, by decide +kernel⟩
theorem rq_9_58 : 9 < 10 ∧ 58 < mm_nf 9 ∧ mm_kd (mm_ty 9 58) = 2 ∧ mm_mu 9 58 = false ∧ mm_of 9 58 = 47 := ⟨by decide, by decide +kernel, by decide +kernel, by decide +kernel, by decide +kernel⟩
theorem rq_9_59 : 9 < 10 ∧ 59 < mm_nf 9 ∧ mm_kd (mm_ty 9 59) = 2 ∧ mm_mu 9 59 = false ∧ mm_of 9 59 = 48 := ⟨by decide, by decide +kernel, by decide +kernel, by decide +kernel, by decide +kernel⟩
theorem rq_9_62 : 9 < 10 ∧ 62 < mm_nf 9 ∧ mm_kd (mm_ty 9 62) = 2 ∧ mm_mu 9 62 = false ∧ mm_of 9 62 = 49 := ⟨by decide, by decide +kernel, by decide +kernel, by decide +kernel, by decide +kernel⟩
theorem rq_9_63 : 9 < 10 ∧ 63 < mm_nf 9 ∧ mm_kd (mm_ty 9 63) = 2 ∧ mm_mu 9 63 = false ∧ mm_of 9 63 = 50 := ⟨by decide, by decide +kernel, by decide +kernel, by decide +kernel, by decide +kernel⟩
theorem rq_9_64 : 9 < 10 ∧ 64 < mm_nf 9 ∧ mm_kd (mm_ty 9 64) = 2 ∧ mm_mu 9 64 = false ∧ mm_of 9 64 = 51 := ⟨by decide, by decide +kernel, by decide +kernel, by decide +kernel, by decide +kernel⟩
theorem rq_9_65 : 9 < 10 ∧ 65 < mm_nf 9 ∧ mm_kd (mm_ty 9 65) = 2 ∧ mm_mu 9 65 = false ∧ mm_of 9 65 = 52 := ⟨by decide, by decide +kernel, by decide +kernel, by decide +kernel, by decide +kernel⟩
theorem rq_9_66 : 9 < 10 ∧ 66 < mm_nf 9 ∧ mm_kd (mm_ty 9 66) = 2 ∧ mm_mu 9 66 = false ∧ mm_of 9 66 = 53 := ⟨by decide, by decide +kernel, by decide +kernel, by decide +kernel, by decide +kernel⟩
theorem rq_9_67 : 9 < 10 ∧ 67 < mm_nf 9 ∧ mm_kd (mm_ty 9 67) = 2 ∧ mm_mu 9 67 = false ∧ mm_of 9 67 = 54 := ⟨by decide, by decide +kernel, by decide +kernel, by decide +kernel, by decide +kernel⟩
theorem sp_1000 : (Int16.ofInt 1000).toInt32 = 1000 := by decide +kernel
theorem sp_1024 : (Int16.ofInt 1024).toInt32 = 1024 := by decide +kernel
theorem sp_150 : (Int16.ofInt 150).toInt32 = 150 := by decide +kernel
theorem sp_1845 : (Int16.ofInt 1845).toInt32 = 1845 := by decide +kernel
theorem sp_255 : (Int16.ofInt 255).toInt32 = 255 := by decide +kernel
theorem sp_999 : (Int16.ofInt 999).toInt32 = 999 := by decide +kernel
theorem sp_9999 : (Int16.ofInt 9999).toInt32 = 9999 := by decide +kernel
theorem tg_261 : mm_tg 261 = 9 := by decide +kernel
theorem tg_32 : mm_tg 32 = 8 := by decide +kernel
theorem tg_33 : mm_tg 33 = 6 := by decide +kernel
theorem tg_35 : mm_tg 35 = 4 := by decide +kernel
theorem tg_41 : mm_tg 41 = 4 := by decide +kernel
theorem tg_47 : mm_tg 47 = 5 := by decide +kernel
theorem tg_54 : mm_tg 54 = 5 := by decide +kernel
theorem tg_64 : mm_tg 64 = 0 := by decide +kernel
theorem tg_68 : mm_tg 68 = 1 := by decide +kernel
theorem tg_71 : mm_tg 71 = 3 := by decide +kernel
theorem tg_7_19f : ∀ {a : Nat}, mm_tg a = 7 → mm_tg (a + 14) = 2 := fun {a} h => (by decide +kernel : ∀ a, a < 317 → mm_tg a = 7 → mm_tg (a + 14) = 2) a (mm_tg_lt h (by decide)).2 h
theorem tgs_61 : ∀ {i : Int32} {k : Nat}, mm_ix i 16 = some k → mm_tg (113 + 6 * k) = 4 := fun {i k} h => (by decide +kernel : ∀ k, k < 16 → mm_tg (113 + 6 * k) = 4) k (mm_ix_lt h)
theorem tgs_62 : ∀ {i : Int32} {k : Nat}, mm_ix i 4 = some k → mm_tg (209 + 13 * k) = 4 := fun {i k} h => (by decide +kernel : ∀ k, k < 4 → mm_tg (209 + 13 * k) = 4) k (mm_ix_lt h)
theorem tgs_63 : ∀ {i : Int32} {k : Nat}, mm_ix i 4 = some k → mm_tg (215 + 13 * k) = 5 := fun {i k} h => (by decide +kernel : ∀ k, k < 4 → mm_tg (215 + 13 * k) = 5) k (mm_ix_lt h)
theorem toks_1 : mm_tok 1 := ⟨fun k h => tyX1_ok k h, fun a ha b hb => nmX1 a ha b hb⟩
theorem toks_2 : mm_tok 2 := ⟨fun k h => tyX3_ok k h, fun a ha b hb => nmX3 a ha b hb⟩
theorem toks_4 : mm_tok 4 := ⟨fun k h => tyX5_ok k h, fun a ha b hb => nmX5 a ha b hb⟩
theorem toks_5 : mm_tok 5 := ⟨fun k h => tyX6_ok k h, fun a ha b hb => nmX6 a ha b hb⟩
theorem toks_6 : mm_tok 6 := ⟨fun k h => tyX7_ok k h, fun a ha b hb => nmX7 a ha b hb⟩
theorem toks_7 : mm_tok 7 := ⟨fun k h => tyX8_ok k h, fun a ha b hb => nmX8 a ha b hb⟩
theorem toks_8 : mm_tok 8 := ⟨fun k h => tyX11_ok k h, fun a ha b hb => nmX11 a ha b hb⟩
theorem toks_9 : mm_tok 9 := ⟨fun k h => tyX12_ok k h, fun a ha b hb => nmX12 a ha b hb⟩
theorem tq_14 : 14 < mm_nf 8 ∧ mm_kd (mm_ty 8 14) = 2 ∧ mm_mu 8 14 = true := ⟨by decide +kernel, by decide +kernel, by decide +kernel⟩
theorem tq_15 : 15 < mm_nf 8 ∧ mm_kd (mm_ty 8 15) = 2 ∧ mm_mu 8 15 = true := ⟨by decide +kernel, by decide +kernel, by decide +kernel⟩
theorem wq_7 : 7 < mm_nf 6 ∧ mm_kd (mm_ty 6 7) = 2 ∧ mm_mu 6 7 = true := ⟨by decide +kernel, by decide +kernel, by decide +kernel⟩
