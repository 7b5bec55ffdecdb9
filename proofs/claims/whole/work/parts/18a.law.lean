/-! THE LAW'S LOOP over calls that answer alike; the start -/
theorem mk_ok.ite {α : Type} {c : Prop} [Decidable c] {a b : Option α} {Q : α → Prop} (h1 : c → mk_ok a Q) (h2 : ¬ c → mk_ok b Q) : mk_ok (if c then a else b) Q := by
  by_cases h : c
  · rw [if_pos h]; exact h1 h
  · rw [if_neg h]; exact h2 h
theorem ml_bit (x : Int32) : ∃ b : Int32, (if x = 0 then (some 0) else (some 1) : Option Int32) = some b ∧ (b = 0 ∨ b = 1) := by
  by_cases h : x = 0
  · exact ⟨0, if_pos h, Or.inl rfl⟩
  · exact ⟨1, if_neg h, Or.inr rfl⟩
theorem ml_end {L i : Nat} (hL : L ≤ 3584) : (Int32.ofNat L - 7 < Int32.ofNat (7 * i) → i < L / 7 → False) ∧ (¬ Int32.ofNat L - 7 < Int32.ofNat (7 * (L / 7)) → False) := by
  by_cases l : 7 ≤ L
  · have e : Int32.ofNat L - 7 = Int32.ofNat (L - 7) := mn_subl (b := 7) (show 7 ≤ L from l)
    rw [e]
    refine ⟨fun z hi => ?_, fun z => z ((mn_lt (by omega) (by omega)).mpr (by omega))⟩
    have := (mn_lt (a := L - 7) (b := 7 * i) (by omega) (by omega)).mp z
    omega
  · refine ⟨fun _ hi => by omega, fun z => z ?_⟩
    rw [show L / 7 = 0 by omega]
    exact (by decide +kernel : ∀ L : Nat, L < 7 → Int32.ofNat L - 7 < Int32.ofNat (7 * 0)) L (by omega)
theorem ml_step {L i : Nat} {xs : Nat → Int32} {h : mm_H} (hL : L ≤ 3584) (hi : i < L / 7) (hI : mk_INV h) : mk_ok (if ((Int32.ofNat L) - 7) < Int32.ofNat (7 * i) then (some (Sum.inr 1)) else ((mm_ix (Int32.ofNat (7 * i)) L).bind fun k1 => if ((xs k1) &&& 31) = 0 then ((mm_ix (Int32.ofNat (7 * i) + 1) L).bind fun k3 => (mm_ix (Int32.ofNat (7 * i) + 2) L).bind fun k5 => (mm_ix (Int32.ofNat (7 * i) + 3) L).bind fun k7 => (mm_ix (Int32.ofNat (7 * i) + 4) L).bind fun k9 => (mm_ix (Int32.ofNat (7 * i) + 5) L).bind fun k11 => (mm_ix (Int32.ofNat (7 * i) + 6) L).bind fun k13 => (f_X_feed (((Int32.toInt64 (xs k3)) <<< (Int32.toInt64 32 &&& 63)) ||| ((Int32.toInt64 (xs k5)) &&& 4294967295)) (((Int32.toInt64 (xs k7)) <<< (Int32.toInt64 32 &&& 63)) ||| ((Int32.toInt64 (xs k9)) &&& 4294967295)) (((Int32.toInt64 (xs k11)) <<< (Int32.toInt64 32 &&& 63)) ||| ((Int32.toInt64 (xs k13)) &&& 4294967295)) h).bind fun v16 => (mm_ix (Int32.ofNat (7 * i) + 1) L).bind fun k17 => (mm_ix (Int32.ofNat (7 * i) + 2) L).bind fun k19 => (mm_ix (Int32.ofNat (7 * i) + 3) L).bind fun k21 => (mm_ix (Int32.ofNat (7 * i) + 4) L).bind fun k23 => (mm_ix (Int32.ofNat (7 * i) + 5) L).bind fun k25 => (mm_ix (Int32.ofNat (7 * i) + 6) L).bind fun k27 => (f_M_feed (((Int32.toInt64 (xs k17)) <<< (Int32.toInt64 32 &&& 63)) ||| ((Int32.toInt64 (xs k19)) &&& 4294967295)) (((Int32.toInt64 (xs k21)) <<< (Int32.toInt64 32 &&& 63)) ||| ((Int32.toInt64 (xs k23)) &&& 4294967295)) (((Int32.toInt64 (xs k25)) <<< (Int32.toInt64 32 &&& 63)) ||| ((Int32.toInt64 (xs k27)) &&& 4294967295)) v16.2).bind fun v30 => if v16.1 = v30.1 then (mm_let (Int32.ofNat (7 * i) + 7) fun y31 => some (Sum.inl (y31, v30.2))) else (some (Sum.inr 0))) else if ((xs k1) &&& 31) = 1 then ((f_X_town h).bind fun v40 => (f_M_town v40.2).bind fun v42 => if v40.1 = v42.1 then (mm_let (Int32.ofNat (7 * i) + 7) fun y43 => some (Sum.inl (y43, v42.2))) else (some (Sum.inr 0))) else if ((xs k1) &&& 31) = 2 then ((f_X_gossip h).bind fun v52 => (f_M_gossip v52.2).bind fun v54 => if v52.1 = v54.1 then (mm_let (Int32.ofNat (7 * i) + 7) fun y55 => some (Sum.inl (y55, v54.2))) else (some (Sum.inr 0))) else if ((xs k1) &&& 31) = 3 then ((mm_ix (Int32.ofNat (7 * i) + 1) L).bind fun k63 => (mm_ix (Int32.ofNat (7 * i) + 2) L).bind fun k65 => (f_L_person (xs k63) (xs k65) h).bind fun v67 => (mm_ix (Int32.ofNat (7 * i) + 1) L).bind fun k69 => (mm_ix (Int32.ofNat (7 * i) + 2) L).bind fun k71 => (f_M_person (xs k69) (xs k71) v67.2).bind fun v74 => (f_M_thrown v74.2).bind fun v76 => if v76 = v67.1 then (if v67.1 = 0 then (if (lg_cmp (v74.2.2.1 316 0) (Int32.toInt64 v74.1)) = 0 then (mm_let (Int32.ofNat (7 * i) + 7) fun y79 => some (Sum.inl (y79, v74.2))) else (some (Sum.inr 0))) else (mm_let (Int32.ofNat (7 * i) + 7) fun y77 => some (Sum.inl (y77, v74.2)))) else (some (Sum.inr 0))) else if ((xs k1) &&& 31) = 4 then ((mm_ix (Int32.ofNat (7 * i) + 1) L).bind fun k93 => (mm_ix (Int32.ofNat (7 * i) + 2) L).bind fun k95 => (f_X_secret (xs k93) (xs k95) h).bind fun v98 => (mm_ix (Int32.ofNat (7 * i) + 1) L).bind fun k99 => (mm_ix (Int32.ofNat (7 * i) + 2) L).bind fun k101 => (f_M_secret (xs k99) (xs k101) v98.2).bind fun v104 => if v98.1 = v104.1 then (mm_let (Int32.ofNat (7 * i) + 7) fun y105 => some (Sum.inl (y105, v104.2))) else (some (Sum.inr 0))) else if ((xs k1) &&& 31) = 5 then ((mm_ix (Int32.ofNat (7 * i) + 1) L).bind fun k113 => (mm_ix (Int32.ofNat (7 * i) + 2) L).bind fun k115 => (mm_ix (Int32.ofNat (7 * i) + 3) L).bind fun k117 => (f_X_aware (xs k113) (xs k115) (xs k117) h).bind fun v120 => (mm_ix (Int32.ofNat (7 * i) + 1) L).bind fun k121 => (mm_ix (Int32.ofNat (7 * i) + 2) L).bind fun k123 => (mm_ix (Int32.ofNat (7 * i) + 3) L).bind fun k125 => (f_M_aware (xs k121) (xs k123) (xs k125) h).bind fun v128 => if v120 = v128.1 then (mm_let (Int32.ofNat (7 * i) + 7) fun y129 => some (Sum.inl (y129, v128.2))) else (some (Sum.inr 0))) else if ((xs k1) &&& 31) = 6 then ((mm_ix (Int32.ofNat (7 * i) + 1) L).bind fun k137 => (mm_ix (Int32.ofNat (7 * i) + 2) L).bind fun k139 => (f_X_ear (xs k137) (xs k139) h).bind fun v142 => (mm_ix (Int32.ofNat (7 * i) + 1) L).bind fun k143 => (mm_ix (Int32.ofNat (7 * i) + 2) L).bind fun k145 => (f_M_ear (xs k143) (xs k145) h).bind fun v148 => if v142 = v148.1 then (mm_let (Int32.ofNat (7 * i) + 7) fun y149 => some (Sum.inl (y149, v148.2))) else (some (Sum.inr 0))) else if ((xs k1) &&& 31) = 7 then ((mm_ix (Int32.ofNat (7 * i) + 1) L).bind fun k157 => (mm_ix (Int32.ofNat (7 * i) + 2) L).bind fun k159 => (mm_ix (Int32.ofNat (7 * i) + 3) L).bind fun k161 => (f_X_tell (xs k157) (xs k159) (xs k161) h).bind fun v164 => (mm_ix (Int32.ofNat (7 * i) + 1) L).bind fun k165 => (mm_ix (Int32.ofNat (7 * i) + 2) L).bind fun k167 => (mm_ix (Int32.ofNat (7 * i) + 3) L).bind fun k169 => (f_M_tell (xs k165) (xs k167) (xs k169) v164.2).bind fun v172 => if v164.1 = v172.1 then (mm_let (Int32.ofNat (7 * i) + 7) fun y173 => some (Sum.inl (y173, v172.2))) else (some (Sum.inr 0))) else if ((xs k1) &&& 31) = 8 then ((mm_ix (Int32.ofNat (7 * i) + 1) L).bind fun k181 => (mm_ix (Int32.ofNat (7 * i) + 2) L).bind fun k183 => (f_X_pay (xs k181) (xs k183) h).bind fun v186 => (mm_ix (Int32.ofNat (7 * i) + 1) L).bind fun k187 => (mm_ix (Int32.ofNat (7 * i) + 2) L).bind fun k189 => (f_M_pay (xs k187) (xs k189) v186.2).bind fun v192 => if v186.1 = v192.1 then (mm_let (Int32.ofNat (7 * i) + 7) fun y193 => some (Sum.inl (y193, v192.2))) else (some (Sum.inr 0))) else if ((xs k1) &&& 31) = 9 then ((mm_ix (Int32.ofNat (7 * i) + 1) L).bind fun k201 => (f_X_rise (xs k201) h).bind fun v204 => (mm_ix (Int32.ofNat (7 * i) + 1) L).bind fun k205 => (f_M_rise (xs k205) v204.2).bind fun v208 => if v204.1 = v208.1 then (mm_let (Int32.ofNat (7 * i) + 7) fun y209 => some (Sum.inl (y209, v208.2))) else (some (Sum.inr 0))) else if ((xs k1) &&& 31) = 10 then ((f_X_quarter h).bind fun v218 => (f_M_quarter v218.2).bind fun v220 => if v218.1 = v220.1 then (mm_let (Int32.ofNat (7 * i) + 7) fun y221 => some (Sum.inl (y221, v220.2))) else (some (Sum.inr 0))) else if ((xs k1) &&& 31) = 11 then ((mm_ix (Int32.ofNat (7 * i) + 1) L).bind fun k229 => (mm_ix (Int32.ofNat (7 * i) + 2) L).bind fun k231 => (mm_ix (Int32.ofNat (7 * i) + 3) L).bind fun k233 => (f_X_lend (xs k229) (xs k231) (xs k233) h).bind fun v236 => (mm_ix (Int32.ofNat (7 * i) + 1) L).bind fun k237 => (mm_ix (Int32.ofNat (7 * i) + 2) L).bind fun k239 => (mm_ix (Int32.ofNat (7 * i) + 3) L).bind fun k241 => (f_M_lend (xs k237) (xs k239) (xs k241) v236.2).bind fun v244 => if v236.1 = v244.1 then (mm_let (Int32.ofNat (7 * i) + 7) fun y245 => some (Sum.inl (y245, v244.2))) else (some (Sum.inr 0))) else if ((xs k1) &&& 31) = 12 then ((f_X_undo h).bind fun v254 => (f_M_undo v254.2).bind fun v256 => if v254.1 = v256.1 then (mm_let (Int32.ofNat (7 * i) + 7) fun y257 => some (Sum.inl (y257, v256.2))) else (some (Sum.inr 0))) else if ((xs k1) &&& 31) = 13 then ((mm_ix (Int32.ofNat (7 * i) + 1) L).bind fun k265 => (f_X_judged (xs k265) h).bind fun v268 => (mm_ix (Int32.ofNat (7 * i) + 1) L).bind fun k269 => (f_M_judged (xs k269) v268.2).bind fun v272 => if v268.1 = v272.1 then (mm_let (Int32.ofNat (7 * i) + 7) fun y273 => some (Sum.inl (y273, v272.2))) else (some (Sum.inr 0))) else if ((xs k1) &&& 31) = 14 then ((mm_ix (Int32.ofNat (7 * i) + 1) L).bind fun k281 => (f_X_least (xs k281) h).bind fun v284 => (mm_ix (Int32.ofNat (7 * i) + 1) L).bind fun k285 => (f_M_least (xs k285) v284.2).bind fun v288 => if v284.1 = v288.1 then (mm_let (Int32.ofNat (7 * i) + 7) fun y289 => some (Sum.inl (y289, v288.2))) else (some (Sum.inr 0))) else if ((xs k1) &&& 31) = 15 then ((f_X_payers h).bind fun v298 => (f_M_payers v298.2).bind fun v300 => if v298.1 = v300.1 then (mm_let (Int32.ofNat (7 * i) + 7) fun y301 => some (Sum.inl (y301, v300.2))) else (some (Sum.inr 0))) else if ((xs k1) &&& 31) = 16 then ((mm_ix (Int32.ofNat (7 * i) + 1) L).bind fun k309 => (mm_ix (Int32.ofNat (7 * i) + 2) L).bind fun k311 => (mm_ix (Int32.ofNat (7 * i) + 3) L).bind fun k313 => (mm_ix (Int32.ofNat (7 * i) + 4) L).bind fun k315 => (f_L_plot (xs k309) (xs k311) (xs k313) (xs k315) h).bind fun v317 => (mm_ix (Int32.ofNat (7 * i) + 1) L).bind fun k319 => (mm_ix (Int32.ofNat (7 * i) + 2) L).bind fun k321 => (mm_ix (Int32.ofNat (7 * i) + 3) L).bind fun k323 => (mm_ix (Int32.ofNat (7 * i) + 4) L).bind fun k325 => (f_M_plot (xs k319) (xs k321) (xs k323) (xs k325) v317.2).bind fun v328 => (f_M_thrown v328.2).bind fun v330 => if v330 = v317.1 then (if v317.1 = 0 then (if (lg_cmp (v328.2.2.1 316 0) (Int32.toInt64 v328.1)) = 0 then (mm_let (Int32.ofNat (7 * i) + 7) fun y333 => some (Sum.inl (y333, v328.2))) else (some (Sum.inr 0))) else (mm_let (Int32.ofNat (7 * i) + 7) fun y331 => some (Sum.inl (y331, v328.2)))) else (some (Sum.inr 0))) else if ((xs k1) &&& 31) = 17 then ((mm_ix (Int32.ofNat (7 * i) + 1) L).bind fun k347 => (mm_ix (Int32.ofNat (7 * i) + 2) L).bind fun k349 => (if (xs k349) = 0 then (some 0) else (some 1) : Option Int32).bind fun j351 => (f_X_see (xs k347) j351 h).bind fun v357 => (mm_ix (Int32.ofNat (7 * i) + 1) L).bind fun k358 => (mm_ix (Int32.ofNat (7 * i) + 2) L).bind fun k360 => (if (xs k360) = 0 then (some 0) else (some 1) : Option Int32).bind fun j362 => (f_M_see (xs k358) j362 v357.2).bind fun v368 => if v357.1 = v368.1 then (mm_let (Int32.ofNat (7 * i) + 7) fun y369 => some (Sum.inl (y369, v368.2))) else (some (Sum.inr 0))) else if ((xs k1) &&& 31) = 18 then ((mm_ix (Int32.ofNat (7 * i) + 1) L).bind fun k379 => (f_X_leaks (xs k379) h).bind fun v382 => (mm_ix (Int32.ofNat (7 * i) + 1) L).bind fun k383 => (f_M_leaks (xs k383) v382.2).bind fun v386 => if v382.1 = v386.1 then (mm_let (Int32.ofNat (7 * i) + 7) fun y387 => some (Sum.inl (y387, v386.2))) else (some (Sum.inr 0))) else if ((xs k1) &&& 31) = 19 then ((mm_ix (Int32.ofNat (7 * i) + 1) L).bind fun k395 => (f_X_lies (xs k395) h).bind fun v398 => (mm_ix (Int32.ofNat (7 * i) + 1) L).bind fun k399 => (f_M_lies (xs k399) v398.2).bind fun v402 => if v398.1 = v402.1 then (mm_let (Int32.ofNat (7 * i) + 7) fun y403 => some (Sum.inl (y403, v402.2))) else (some (Sum.inr 0))) else if ((xs k1) &&& 31) = 20 then ((mm_ix (Int32.ofNat (7 * i) + 1) L).bind fun k411 => (mm_ix (Int32.ofNat (7 * i) + 2) L).bind fun k413 => (f_X_mean (xs k411) (xs k413) h).bind fun v416 => (mm_ix (Int32.ofNat (7 * i) + 1) L).bind fun k417 => (mm_ix (Int32.ofNat (7 * i) + 2) L).bind fun k419 => (f_M_mean (xs k417) (xs k419) v416.2).bind fun v422 => if v416.1 = v422.1 then (mm_let (Int32.ofNat (7 * i) + 7) fun y423 => some (Sum.inl (y423, v422.2))) else (some (Sum.inr 0))) else if ((xs k1) &&& 31) = 21 then ((mm_ix (Int32.ofNat (7 * i) + 1) L).bind fun k431 => (mm_ix (Int32.ofNat (7 * i) + 2) L).bind fun k433 => (f_X_holds (xs k431) (xs k433) h).bind fun v436 => (mm_ix (Int32.ofNat (7 * i) + 1) L).bind fun k437 => (mm_ix (Int32.ofNat (7 * i) + 2) L).bind fun k439 => (f_M_holds (xs k437) (xs k439) v436.2).bind fun v442 => if v436.1 = v442.1 then (mm_let (Int32.ofNat (7 * i) + 7) fun y443 => some (Sum.inl (y443, v442.2))) else (some (Sum.inr 0))) else if ((xs k1) &&& 31) = 22 then ((f_X_settle h).bind fun v452 => (f_M_settle v452.2).bind fun v454 => if v452.1 = v454.1 then (mm_let (Int32.ofNat (7 * i) + 7) fun y455 => some (Sum.inl (y455, v454.2))) else (some (Sum.inr 0))) else if ((xs k1) &&& 31) = 23 then ((mm_ix (Int32.ofNat (7 * i) + 1) L).bind fun k463 => (mm_ix (Int32.ofNat (7 * i) + 2) L).bind fun k465 => (f_X_rests (xs k463) (xs k465) h).bind fun v468 => (mm_ix (Int32.ofNat (7 * i) + 1) L).bind fun k469 => (mm_ix (Int32.ofNat (7 * i) + 2) L).bind fun k471 => (f_M_rests (xs k469) (xs k471) v468.2).bind fun v474 => if v468.1 = v474.1 then (mm_let (Int32.ofNat (7 * i) + 7) fun y475 => some (Sum.inl (y475, v474.2))) else (some (Sum.inr 0))) else if ((xs k1) &&& 31) = 24 then ((mm_ix (Int32.ofNat (7 * i) + 1) L).bind fun k483 => (mm_ix (Int32.ofNat (7 * i) + 2) L).bind fun k485 => (mm_ix (Int32.ofNat (7 * i) + 3) L).bind fun k487 => (f_X_years (xs k483) (xs k485) (xs k487) h).bind fun v490 => (mm_ix (Int32.ofNat (7 * i) + 1) L).bind fun k491 => (mm_ix (Int32.ofNat (7 * i) + 2) L).bind fun k493 => (mm_ix (Int32.ofNat (7 * i) + 3) L).bind fun k495 => (f_M_years (xs k491) (xs k493) (xs k495) v490.2).bind fun v498 => if v490.1 = v498.1 then (mm_let (Int32.ofNat (7 * i) + 7) fun y499 => some (Sum.inl (y499, v498.2))) else (some (Sum.inr 0))) else if ((xs k1) &&& 31) = 25 then ((mm_ix (Int32.ofNat (7 * i) + 1) L).bind fun k507 => (mm_ix (Int32.ofNat (7 * i) + 2) L).bind fun k509 => (if (xs k509) = 0 then (some 0) else (some 1) : Option Int32).bind fun j511 => (f_X_mark (xs k507) j511 h).bind fun v517 => (mm_ix (Int32.ofNat (7 * i) + 1) L).bind fun k518 => (mm_ix (Int32.ofNat (7 * i) + 2) L).bind fun k520 => (if (xs k520) = 0 then (some 0) else (some 1) : Option Int32).bind fun j522 => (f_M_mark (xs k518) j522 v517.2).bind fun v528 => if v517.1 = v528.1 then (mm_let (Int32.ofNat (7 * i) + 7) fun y529 => some (Sum.inl (y529, v528.2))) else (some (Sum.inr 0))) else if ((xs k1) &&& 31) = 26 then ((mm_ix (Int32.ofNat (7 * i) + 1) L).bind fun k539 => (f_X_count (xs k539) h).bind fun v542 => (mm_ix (Int32.ofNat (7 * i) + 1) L).bind fun k543 => (f_M_count (xs k543) v542.2).bind fun v546 => if v542.1 = v546.1 then (mm_let (Int32.ofNat (7 * i) + 7) fun y547 => some (Sum.inl (y547, v546.2))) else (some (Sum.inr 0))) else (mm_let (Int32.ofNat (7 * i) + 7) fun y555 => some (Sum.inl (y555, h)))) : Option ((Int32 × mm_H) ⊕ Int32)) (fun x => ∃ s', x = Sum.inl s' ∧ s'.1 = Int32.ofNat (7 * (i + 1)) ∧ mk_INV s'.2) := by
  have ix0 : mm_ix (Int32.ofNat (7 * i)) L = some (7 * i) := mn_ix (by omega) (by omega)
  have ix1 : mm_ix (Int32.ofNat (7 * i) + 1) L = some (7 * i + 1) := by rw [mn_addl 1]; exact mn_ix (show 7 * i + 1 < L by omega) (by omega)
  have ix2 : mm_ix (Int32.ofNat (7 * i) + 2) L = some (7 * i + 2) := by rw [mn_addl 2]; exact mn_ix (show 7 * i + 2 < L by omega) (by omega)
  have ix3 : mm_ix (Int32.ofNat (7 * i) + 3) L = some (7 * i + 3) := by rw [mn_addl 3]; exact mn_ix (show 7 * i + 3 < L by omega) (by omega)
  have ix4 : mm_ix (Int32.ofNat (7 * i) + 4) L = some (7 * i + 4) := by rw [mn_addl 4]; exact mn_ix (show 7 * i + 4 < L by omega) (by omega)
  have ix5 : mm_ix (Int32.ofNat (7 * i) + 5) L = some (7 * i + 5) := by rw [mn_addl 5]; exact mn_ix (show 7 * i + 5 < L by omega) (by omega)
  have ix6 : mm_ix (Int32.ofNat (7 * i) + 6) L = some (7 * i + 6) := by rw [mn_addl 6]; exact mn_ix (show 7 * i + 6 < L by omega) (by omega)
  have fin : ∀ g : mm_H, mk_INV g → mk_ok (some (Sum.inl (Int32.ofNat (7 * i) + 7, g)) : Option ((Int32 × mm_H) ⊕ Int32)) (fun x => ∃ s', x = Sum.inl s' ∧ s'.1 = Int32.ofNat (7 * (i + 1)) ∧ mk_INV s'.2) := fun g q => ⟨_, rfl, _, rfl, mn_addl 7 _, q⟩
  refine mk_ok.ite (fun z => ((ml_end hL).1 z hi).elim) (fun _ => ?_)
  refine mk_ok.bs ix0 ?_
  refine mk_ok.ite (fun _ => ?_) (fun _ => ?_)
  · refine mk_ok.bs ix1 (mk_ok.bs ix2 (mk_ok.bs ix3 (mk_ok.bs ix4 (mk_ok.bs ix5 (mk_ok.bs ix6 (?_))))))
    obtain ⟨a, h1, h2, e1, e2, I2⟩ := mc_feed _ _ _ h hI
    refine mk_ok.bs e1 (mk_ok.bs ix1 (mk_ok.bs ix2 (mk_ok.bs ix3 (mk_ok.bs ix4 (mk_ok.bs ix5 (mk_ok.bs ix6 (mk_ok.bs e2 (?_))))))))
    exact mk_ok.ite (fun _ => mk_ok.let (fin h2 I2)) (fun z => absurd rfl z)
  refine mk_ok.ite (fun _ => ?_) (fun _ => ?_)
  · obtain ⟨a, h1, h2, e1, e2, I2⟩ := mc_town h hI
    refine mk_ok.bs e1 (mk_ok.bs e2 (?_))
    exact mk_ok.ite (fun _ => mk_ok.let (fin h2 I2)) (fun z => absurd rfl z)
  refine mk_ok.ite (fun _ => ?_) (fun _ => ?_)
  · obtain ⟨a, h1, h2, e1, e2, I2⟩ := mc_gossip h hI
    refine mk_ok.bs e1 (mk_ok.bs e2 (?_))
    exact mk_ok.ite (fun _ => mk_ok.let (fin h2 I2)) (fun z => absurd rfl z)
  refine mk_ok.ite (fun _ => ?_) (fun _ => ?_)
  · refine mk_ok.bs ix1 (mk_ok.bs ix2 (?_))
    obtain ⟨c, a, h1, h2, e1, e2, e3, e4, I2⟩ := mc_person _ _ h hI
    refine mk_ok.bs (show f_L_person _ _ h = some (c, h1) from e1) (mk_ok.bs ix1 (mk_ok.bs ix2 (mk_ok.bs e2 (?_))))
    refine mk_ok.bs (show f_M_thrown h2 = some c from congrArg some e3) ?_
    refine mk_ok.ite (fun _ => ?_) (fun z => absurd rfl z)
    refine mk_ok.ite (fun z => ?_) (fun _ => mk_ok.let (fin h2 I2))
    exact mk_ok.ite (fun _ => mk_ok.let (fin h2 I2)) (fun y => absurd ((mp_lcmp _ _).mpr (e4 z)) y)
  refine mk_ok.ite (fun _ => ?_) (fun _ => ?_)
  · refine mk_ok.bs ix1 (mk_ok.bs ix2 (?_))
    obtain ⟨a, h1, h2, e1, e2, I2⟩ := mc_secret _ _ h hI
    refine mk_ok.bs e1 (mk_ok.bs ix1 (mk_ok.bs ix2 (mk_ok.bs e2 (?_))))
    exact mk_ok.ite (fun _ => mk_ok.let (fin h2 I2)) (fun z => absurd rfl z)
  refine mk_ok.ite (fun _ => ?_) (fun _ => ?_)
  · refine mk_ok.bs ix1 (mk_ok.bs ix2 (mk_ok.bs ix3 (?_)))
    obtain ⟨a, h1, h2, e1, e2, I2⟩ := mc_aware _ _ _ h hI
    obtain ⟨v, ev, ew⟩ := mj_bk e1
    obtain ⟨rfl, rfl⟩ := Prod.mk.inj (Option.some.inj ew)
    refine mk_ok.bs ev (mk_ok.bs ix1 (mk_ok.bs ix2 (mk_ok.bs ix3 (mk_ok.bs e2 (?_)))))
    exact mk_ok.ite (fun _ => mk_ok.let (fin h2 I2)) (fun z => absurd rfl z)
  refine mk_ok.ite (fun _ => ?_) (fun _ => ?_)
  · refine mk_ok.bs ix1 (mk_ok.bs ix2 (?_))
    obtain ⟨a, h1, h2, e1, e2, I2⟩ := mc_ear _ _ h hI
    obtain ⟨v, ev, ew⟩ := mj_bk e1
    obtain ⟨rfl, rfl⟩ := Prod.mk.inj (Option.some.inj ew)
    refine mk_ok.bs ev (mk_ok.bs ix1 (mk_ok.bs ix2 (mk_ok.bs e2 (?_))))
    exact mk_ok.ite (fun _ => mk_ok.let (fin h2 I2)) (fun z => absurd rfl z)
  refine mk_ok.ite (fun _ => ?_) (fun _ => ?_)
  · refine mk_ok.bs ix1 (mk_ok.bs ix2 (mk_ok.bs ix3 (?_)))
    obtain ⟨a, h1, h2, e1, e2, I2⟩ := mc_tell _ _ _ h hI
    refine mk_ok.bs e1 (mk_ok.bs ix1 (mk_ok.bs ix2 (mk_ok.bs ix3 (mk_ok.bs e2 (?_)))))
    exact mk_ok.ite (fun _ => mk_ok.let (fin h2 I2)) (fun z => absurd rfl z)
  refine mk_ok.ite (fun _ => ?_) (fun _ => ?_)
  · refine mk_ok.bs ix1 (mk_ok.bs ix2 (?_))
    obtain ⟨a, h1, h2, e1, e2, I2⟩ := mc_pay _ _ h hI
    refine mk_ok.bs e1 (mk_ok.bs ix1 (mk_ok.bs ix2 (mk_ok.bs e2 (?_))))
    exact mk_ok.ite (fun _ => mk_ok.let (fin h2 I2)) (fun z => absurd rfl z)
  refine mk_ok.ite (fun _ => ?_) (fun _ => ?_)
  · refine mk_ok.bs ix1 (?_)
    obtain ⟨a, h1, h2, e1, e2, I2⟩ := mc_rise _ h hI
    refine mk_ok.bs e1 (mk_ok.bs ix1 (mk_ok.bs e2 (?_)))
    exact mk_ok.ite (fun _ => mk_ok.let (fin h2 I2)) (fun z => absurd rfl z)
  refine mk_ok.ite (fun _ => ?_) (fun _ => ?_)
  · obtain ⟨a, h1, h2, e1, e2, I2⟩ := mc_quarter h hI
    refine mk_ok.bs e1 (mk_ok.bs e2 (?_))
    exact mk_ok.ite (fun _ => mk_ok.let (fin h2 I2)) (fun z => absurd rfl z)
  refine mk_ok.ite (fun _ => ?_) (fun _ => ?_)
  · refine mk_ok.bs ix1 (mk_ok.bs ix2 (mk_ok.bs ix3 (?_)))
    obtain ⟨a, h1, h2, e1, e2, I2⟩ := mc_lend _ _ _ h hI
    refine mk_ok.bs e1 (mk_ok.bs ix1 (mk_ok.bs ix2 (mk_ok.bs ix3 (mk_ok.bs e2 (?_)))))
    exact mk_ok.ite (fun _ => mk_ok.let (fin h2 I2)) (fun z => absurd rfl z)
  refine mk_ok.ite (fun _ => ?_) (fun _ => ?_)
  · obtain ⟨a, h1, h2, e1, e2, I2⟩ := mc_undo h hI
    refine mk_ok.bs e1 (mk_ok.bs e2 (?_))
    exact mk_ok.ite (fun _ => mk_ok.let (fin h2 I2)) (fun z => absurd rfl z)
  refine mk_ok.ite (fun _ => ?_) (fun _ => ?_)
  · refine mk_ok.bs ix1 (?_)
    obtain ⟨a, h1, h2, e1, e2, I2⟩ := mc_judged _ h hI
    refine mk_ok.bs e1 (mk_ok.bs ix1 (mk_ok.bs e2 (?_)))
    exact mk_ok.ite (fun _ => mk_ok.let (fin h2 I2)) (fun z => absurd rfl z)
  refine mk_ok.ite (fun _ => ?_) (fun _ => ?_)
  · refine mk_ok.bs ix1 (?_)
    obtain ⟨a, h1, h2, e1, e2, I2⟩ := mc_least _ h hI
    refine mk_ok.bs e1 (mk_ok.bs ix1 (mk_ok.bs e2 (?_)))
    exact mk_ok.ite (fun _ => mk_ok.let (fin h2 I2)) (fun z => absurd rfl z)
  refine mk_ok.ite (fun _ => ?_) (fun _ => ?_)
  · obtain ⟨a, h1, h2, e1, e2, I2⟩ := mc_payers h hI
    refine mk_ok.bs e1 (mk_ok.bs e2 (?_))
    exact mk_ok.ite (fun _ => mk_ok.let (fin h2 I2)) (fun z => absurd rfl z)
  refine mk_ok.ite (fun _ => ?_) (fun _ => ?_)
  · refine mk_ok.bs ix1 (mk_ok.bs ix2 (mk_ok.bs ix3 (mk_ok.bs ix4 (?_))))
    obtain ⟨c, a, h1, h2, e1, e2, e3, e4, I2⟩ := mc_plot _ _ _ _ h hI
    refine mk_ok.bs (show f_L_plot _ _ _ _ h = some (c, h1) from e1) (mk_ok.bs ix1 (mk_ok.bs ix2 (mk_ok.bs ix3 (mk_ok.bs ix4 (mk_ok.bs e2 (?_))))))
    refine mk_ok.bs (show f_M_thrown h2 = some c from congrArg some e3) ?_
    refine mk_ok.ite (fun _ => ?_) (fun z => absurd rfl z)
    refine mk_ok.ite (fun z => ?_) (fun _ => mk_ok.let (fin h2 I2))
    exact mk_ok.ite (fun _ => mk_ok.let (fin h2 I2)) (fun y => absurd ((mp_lcmp _ _).mpr (e4 z)) y)
  refine mk_ok.ite (fun _ => ?_) (fun _ => ?_)
  · refine mk_ok.bs ix1 (mk_ok.bs ix2 ?_)
    obtain ⟨b, eb, hb⟩ := ml_bit (xs (7 * i + 2))
    obtain ⟨a, h1, h2, e1, e2, I2⟩ := mc_see _ b hb h hI
    refine mk_ok.bs eb (mk_ok.bs e1 (mk_ok.bs ix1 (mk_ok.bs ix2 (mk_ok.bs eb (mk_ok.bs e2 ?_)))))
    exact mk_ok.ite (fun _ => mk_ok.let (fin h2 I2)) (fun z => absurd rfl z)
  refine mk_ok.ite (fun _ => ?_) (fun _ => ?_)
  · refine mk_ok.bs ix1 (?_)
    obtain ⟨a, h1, h2, e1, e2, I2⟩ := mc_leaks _ h hI
    refine mk_ok.bs e1 (mk_ok.bs ix1 (mk_ok.bs e2 (?_)))
    exact mk_ok.ite (fun _ => mk_ok.let (fin h2 I2)) (fun z => absurd rfl z)
  refine mk_ok.ite (fun _ => ?_) (fun _ => ?_)
  · refine mk_ok.bs ix1 (?_)
    obtain ⟨a, h1, h2, e1, e2, I2⟩ := mc_lies _ h hI
    refine mk_ok.bs e1 (mk_ok.bs ix1 (mk_ok.bs e2 (?_)))
    exact mk_ok.ite (fun _ => mk_ok.let (fin h2 I2)) (fun z => absurd rfl z)
  refine mk_ok.ite (fun _ => ?_) (fun _ => ?_)
  · refine mk_ok.bs ix1 (mk_ok.bs ix2 (?_))
    obtain ⟨a, h1, h2, e1, e2, I2⟩ := mc_mean _ _ h hI
    refine mk_ok.bs e1 (mk_ok.bs ix1 (mk_ok.bs ix2 (mk_ok.bs e2 (?_))))
    exact mk_ok.ite (fun _ => mk_ok.let (fin h2 I2)) (fun z => absurd rfl z)
  refine mk_ok.ite (fun _ => ?_) (fun _ => ?_)
  · refine mk_ok.bs ix1 (mk_ok.bs ix2 (?_))
    obtain ⟨a, h1, h2, e1, e2, I2⟩ := mc_holds _ _ h hI
    refine mk_ok.bs e1 (mk_ok.bs ix1 (mk_ok.bs ix2 (mk_ok.bs e2 (?_))))
    exact mk_ok.ite (fun _ => mk_ok.let (fin h2 I2)) (fun z => absurd rfl z)
  refine mk_ok.ite (fun _ => ?_) (fun _ => ?_)
  · obtain ⟨a, h1, h2, e1, e2, I2⟩ := mc_settle h hI
    refine mk_ok.bs e1 (mk_ok.bs e2 (?_))
    exact mk_ok.ite (fun _ => mk_ok.let (fin h2 I2)) (fun z => absurd rfl z)
  refine mk_ok.ite (fun _ => ?_) (fun _ => ?_)
  · refine mk_ok.bs ix1 (mk_ok.bs ix2 (?_))
    obtain ⟨a, h1, h2, e1, e2, I2⟩ := mc_rests _ _ h hI
    refine mk_ok.bs e1 (mk_ok.bs ix1 (mk_ok.bs ix2 (mk_ok.bs e2 (?_))))
    exact mk_ok.ite (fun _ => mk_ok.let (fin h2 I2)) (fun z => absurd rfl z)
  refine mk_ok.ite (fun _ => ?_) (fun _ => ?_)
  · refine mk_ok.bs ix1 (mk_ok.bs ix2 (mk_ok.bs ix3 (?_)))
    obtain ⟨a, h1, h2, e1, e2, I2⟩ := mc_years _ _ _ h hI
    refine mk_ok.bs e1 (mk_ok.bs ix1 (mk_ok.bs ix2 (mk_ok.bs ix3 (mk_ok.bs e2 (?_)))))
    exact mk_ok.ite (fun _ => mk_ok.let (fin h2 I2)) (fun z => absurd rfl z)
  refine mk_ok.ite (fun _ => ?_) (fun _ => ?_)
  · refine mk_ok.bs ix1 (mk_ok.bs ix2 ?_)
    obtain ⟨b, eb, hb⟩ := ml_bit (xs (7 * i + 2))
    obtain ⟨a, h1, h2, e1, e2, I2⟩ := mc_mark _ b hb h hI
    refine mk_ok.bs eb (mk_ok.bs e1 (mk_ok.bs ix1 (mk_ok.bs ix2 (mk_ok.bs eb (mk_ok.bs e2 ?_)))))
    exact mk_ok.ite (fun _ => mk_ok.let (fin h2 I2)) (fun z => absurd rfl z)
  refine mk_ok.ite (fun _ => ?_) (fun _ => ?_)
  · refine mk_ok.bs ix1 (?_)
    obtain ⟨a, h1, h2, e1, e2, I2⟩ := mc_count _ h hI
    refine mk_ok.bs e1 (mk_ok.bs ix1 (mk_ok.bs e2 (?_)))
    exact mk_ok.ite (fun _ => mk_ok.let (fin h2 I2)) (fun z => absurd rfl z)
  exact mk_ok.let (fin h hI)
theorem ml_law {L : Nat} {xs : Nat → Int32} (hL : L ≤ 3584) (hI : mk_INV mc_h0) : f_law L xs mc_h0 = some 1 := by
  obtain ⟨r, e, q⟩ : mk_ok (f_law L xs mc_h0) (fun r => r = 1) := by
    refine mk_ok.for (ρ := Int32) (L / 7) (fun i (s : Int32 × mm_H) => s.1 = Int32.ofNat (7 * i) ∧ mk_INV s.2) ⟨rfl, hI⟩ (fun i s hi ⟨e1, q⟩ => ?_) (fun s ⟨e1, q⟩ => ?_)
    · obtain ⟨s1, s2⟩ := s
      obtain rfl : s1 = Int32.ofNat (7 * i) := e1
      exact ml_step hL hi q
    · obtain ⟨s1, s2⟩ := s
      obtain rfl : s1 = Int32.ofNat (7 * (L / 7)) := e1
      exact mk_ok.ite (fun _ => mk_ok.inr rfl) (fun z => ((ml_end (i := 0) hL).2 z).elim)
  rw [e, q]
