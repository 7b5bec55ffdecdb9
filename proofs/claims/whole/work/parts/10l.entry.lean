/-! FROM THE LAW'S ENTRY TO ITS END: what is left is the pure statement, that f_law answers 1 over the memory behind the constructors -/
theorem MC.toML {V : mm_V} {l : Launch} {Y : mm_Y} {d C S ck sk : Nat} {Z : List Frame → Array Value → State → State → Prop} {pc : Nat} {lv : List (Nat × Value)} {st : List Value} {w : Nat → Nat → Value} {h : mm_H} (hck9 : ck ≤ C) (hsk9 : sk ≤ S) (e : ∀ a, 32 ≤ a → a < 317 → ∀ k, k < mc_sl a → mm_val h a k = w a k) (hZ : ∀ below args s t, ¬ mx_T V s → Z below args s t) (k : ML V l Y d C S (fun _ => True) ck sk Z pc lv st h) : MC V l Y d C S Z pc lv st w 317 ck sk := by
  intro p e9 R s m args below meth c H locs ls F G hl hP hS
  by_cases hT : mx_T V s
  · exact k p e9 R s m args below meth c H locs ls ⟨⟨F.1, F.2.1, F.2.2.1, F.2.2.2.1, F.2.2.2.2.1, F.2.2.2.2.2.1, F.2.2.2.2.2.2.1, F.2.2.2.2.2.2.2.1, F.2.2.2.2.2.2.2.2.1, G.2.2.1, G.2.2.2⟩, hT, ⟨hck9, hsk9⟩, trivial⟩ hl (mc_P.mm (hP.to e)) hS
  · intro T hT9 X
    exact ⟨_, Steps.refl _, hZ below args s _ hT⟩
theorem L_begin2 {V : mm_V} {l : Launch} {C S : Nat} {Z : List Frame → Array Value → State → State → Prop} (hC : 285 ≤ C) (hS : 86817 ≤ S) (w0 : Nat → Nat → Value) (hZ : ∀ below args s t, ¬ mx_T V s → Z below args s t) (K : ML V l Y_L_law 1000 C S (fun _ => True) 285 86817 Z 20 [(3, .ref 316), (2, .ref 261), (1, .ref 32), (0, .ref 31)] [] mc_h0) : MC V l Y_L_law 1000 C S Z 0 [(0, .ref 31)] [] w0 32 0 0 := by
  refine MC.new (nn' := 33) (ck' := 1) (sk' := 20) (t := 8) tg_32 (by decide) lays_8 toks_8 ww_137 ww_138 ww_110 dvl_8 (by have e9 : True := trivial; omega) (by show _ + _ ≤ _; first | omega | (have : mm_nf 8 = 20 := rfl; have : mm_nf 9 = 70 := rfl; omega)) rfl rfl rfl d_L_law_0 rfl ?_
  refine MC.dup rfl d_L_law_3 rfl ?_
  refine MC.initI (nn' := 261) (ck' := 229) (sk' := 7717) (fun w => C_X_init V l 32 rfl w) rfl ww_141 rfl ww_110 ci_X_init ww_140 ww_139 (by decide) (by simp [Value.category]) (by omega) (by omega) rfl rfl rfl d_L_law_4 rfl ?_
  refine MC.astore_n (i := 1) (lv' := [(1, .ref 32), (0, .ref 31)]) rfl (by decide) rfl d_L_law_7 rfl ?_
  refine MC.new (nn' := 262) (ck' := 230) (sk' := 7787) (t := 9) tg_261 (by decide) lays_9 toks_9 ww_1351 ww_1352 ww_119 dvl_9 (by have e9 : True := trivial; omega) (by show _ + _ ≤ _; first | omega | (have : mm_nf 8 = 20 := rfl; have : mm_nf 9 = 70 := rfl; omega)) rfl rfl rfl d_L_law_8 rfl ?_
  refine MC.dup rfl d_L_law_11 rfl ?_
  refine MC.initI (nn' := 316) (ck' := 284) (sk' := 86816) (fun w => C_M_init V l 261 rfl w) rfl ww_1355 rfl ww_119 ci_M_init ww_1354 ww_1353 (by decide) (by simp [Value.category]) (by omega) (by omega) rfl rfl rfl d_L_law_12 rfl ?_
  refine MC.astore_n (i := 2) (lv' := [(2, .ref 261), (1, .ref 32), (0, .ref 31)]) rfl (by decide) rfl d_L_law_15 rfl ?_
  refine MC.iconst ic_1 d_L_law_16 rfl ?_
  refine MC.newarr (nn' := 317) (ck' := 285) (sk' := 86817) (N := 1) (t := 21) (ty := .long) rfl al_316 (by decide) (fun _ => rfl) (fun _ _ => rfl) ww_244 n32_1.1 n32_1.2 (Nat.le_of_ble_eq_true rfl) (fun k _ => by rw [mc_law_out, mc_v_long (al_316).1]; rfl) (fun _ => rfl) (by have e9 : True := trivial; omega) (by show _ + _ ≤ _; first | omega | (have : mm_nf 8 = 20 := rfl; have : mm_nf 9 = 70 := rfl; omega)) rfl rfl rfl d_L_law_17 rfl ?_
  refine MC.astore_n (i := 3) (lv' := [(3, .ref 316), (2, .ref 261), (1, .ref 32), (0, .ref 31)]) rfl (by decide) rfl d_L_law_19 rfl ?_
  exact MC.toML (by omega) (by omega) mc_law_end hZ K
set_option maxRecDepth 100000 in
theorem mx_s1 : Cond.laysStatic Bundle.tN "UNASSIGNED_STACK" Bundle.steD ∈ lw_tbl := mm_ch5 (List.mem_of_getElem? (i := 211) (by rfl))
set_option maxRecDepth 100000 in
theorem mx_s2 : Cond.laysStatic Bundle.tN "SUPPRESSED_SENTINEL" Bundle.listD ∈ lw_tbl := mm_ch5 (List.mem_of_getElem? (i := 213) (by rfl))
set_option maxRecDepth 100000 in
theorem mx_s3 : Cond.initialized Bundle.tN ∈ lw_tbl := mm_ch1 (List.mem_of_getElem? (i := 23) (by rfl))
theorem mx_s4 : Cond.isRef (.static Bundle.tN "UNASSIGNED_STACK" Bundle.steD) ∈ mw_F ∧ Cond.isRef (.static Bundle.tN "SUPPRESSED_SENTINEL" Bundle.listD) ∈ mw_F := by decide +kernel
theorem whole_start0 {p : Program} {e : Env} {s : State} {m : MethodId} {below : List Frame} {meth : Method} {c : Code} (l : Launch) (hflags : l.flags = flags0) {b L : Nat} {xs : Nat → Int32} (hL : L ≤ 3584) (hpure : f_law L xs mc_h0 = some 1) (C0 : lw_At p s m meth c b L xs) : W p l e room_1 s m #[Value.ref b] below meth c s.heap [] 0 0 (lw_Z below #[Value.ref b] s) (entryFrame m ([Value.ref b] : List Value).toArray 7) := by
  obtain ⟨hx, hb, hr, hml, hown, hts, hX, hbl, hlocks, hgv⟩ := id C0
  obtain ⟨V, hV31, hV32, hVx, hE, hAO⟩ := mm_start hts hgv hX hbl hL
  have hl9 : l.stackTraces = false := by
    show (!l.flags.contains noTraceFlag) = false
    rw [hflags]
    decide +kernel
  have hA : ∀ a : Nat, a < s.heap.size → ¬ mm_fr V a := fun a h q => by
    have q9 : V.1 32 ≤ a := q
    rw [hV32] at q9
    omega
  have hs := flat_of_before _ hgv
  have hT : mx_T V s := ⟨vx_Zqof (hts _ mx_s1) (hts _ mx_s3) (hs _ mx_s4.1) hA, vx_Zqof (hts _ mx_s2) (hts _ mx_s3) (hs _ mx_s4.2) hA, fun w hw => by
    have h1 := hts _ (mx_inT w (List.mem_filter.mp hw).1)
    have hc := mx_cd w hw
    cases w <;> first | exact va_Nw.of rfl h1 | (exact absurd hc (by simp))⟩
  rw [lg_entry_eq]
  have hl := lv_entry ([.ref b]) (n := 7) (Nat.le_of_ble_eq_true rfl)
  have hb0 := L_begin2 (V := V) (l := l) (C := 601024) (S := 7293034) (by decide) (by decide) (fun _ _ => .null) (fun _ _ _ _ q z => absurd z q) (T_law V l hl9 (by rw [hVx]; exact hL) mc_h0 (by rw [hVx]; exact hpure))
  have e1 : ([(0, Value.ref 31)] : List (Nat × Value)).map (mm_lp V) = lv_args 0 [.ref b] := by
    show [(0, Value.ref (V.1 31))] = _
    rw [hV31]
    rfl
  have k := hb0 p e room_1 s m #[Value.ref b] below meth c s.heap [] _ ⟨hx, hb, hr, hlocks, hml, hown, fun w hw => hts w (List.mem_filter.mp hw).1, hE, ⟨by decide, by decide⟩, Nat.zero_le _, Nat.zero_le _⟩ ⟨hAO, fun h => absurd h (by decide), by decide, by decide⟩ (by rw [e1]; exact hl) ⟨Nat.le_refl _, by rw [hV32]; rfl, fun a h1 h2 => by omega⟩ va_S.rf
  intro T hT9 X
  obtain ⟨t, a1, b1⟩ := k T hT9 X
  exact ⟨t, a1, b1 hT hV32⟩
