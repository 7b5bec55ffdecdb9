/-! THE LAW'S BEGINNING: both objects are made, and the row for answers -/
abbrev Y_L_law : mm_Y := (yL_law, code, 7, some .boolean)
set_option maxRecDepth 100000 in
theorem ww_137 : Cond.classLink RL 8 (mm_cl.getD 8 (RX0, TX0, 0)).1 ∈ mm_gw := mm_gw_in (mm_ch1 (List.mem_of_getElem? (i := 28) (by rfl))) rfl
set_option maxRecDepth 100000 in
theorem ww_138 : Cond.instantiable (mm_cl.getD 8 (RX0, TX0, 0)).1 (mm_nf 8) ∈ mm_gw := mm_gw_in (mm_ch1 (List.mem_of_getElem? (i := 29) (by rfl))) rfl
set_option maxRecDepth 100000 in
theorem ww_139 : Cond.methodLink RL 19 yX11_init ∈ mm_gw := mm_gw_in (mm_ch1 (List.mem_of_getElem? (i := 30) (by rfl))) rfl
set_option maxRecDepth 100000 in
theorem ww_140 : Cond.instanceMethod yX11_init ∈ mm_gw := mm_gw_in (mm_ch1 (List.mem_of_getElem? (i := 31) (by rfl))) rfl
set_option maxRecDepth 100000 in
theorem ww_141 : Cond.code yX11_init cX11_init 2 none ∈ mm_gw := mm_gw_in (mm_ch1 (List.mem_of_getElem? (i := 32) (by rfl))) rfl
set_option maxRecDepth 100000 in
theorem ww_1351 : Cond.classLink RL 20 (mm_cl.getD 9 (RX0, TX0, 0)).1 ∈ mm_gw := mm_gw_in (mm_ch6 (List.mem_of_getElem? (i := 42) (by rfl))) rfl
set_option maxRecDepth 100000 in
theorem ww_1352 : Cond.instantiable (mm_cl.getD 9 (RX0, TX0, 0)).1 (mm_nf 9) ∈ mm_gw := mm_gw_in (mm_ch6 (List.mem_of_getElem? (i := 43) (by rfl))) rfl
set_option maxRecDepth 100000 in
theorem ww_1353 : Cond.methodLink RL 22 yX12_init ∈ mm_gw := mm_gw_in (mm_ch6 (List.mem_of_getElem? (i := 44) (by rfl))) rfl
set_option maxRecDepth 100000 in
theorem ww_1354 : Cond.instanceMethod yX12_init ∈ mm_gw := mm_gw_in (mm_ch6 (List.mem_of_getElem? (i := 45) (by rfl))) rfl
set_option maxRecDepth 100000 in
theorem ww_1355 : Cond.code yX12_init cX12_init 1 none ∈ mm_gw := mm_gw_in (mm_ch6 (List.mem_of_getElem? (i := 46) (by rfl))) rfl
theorem al_316 : mm_tg 316 = 21 ∧ mm_ln 316 = 1 := ⟨by decide +kernel, by decide +kernel⟩
theorem ci_M_init : (Y_M_init.1.cls ≠ "java/lang/invoke/MethodHandle" ∧ Y_M_init.1.cls ≠ "java/lang/invoke/VarHandle" ∧ (parseMethodDescriptor Y_M_init.1.desc).map (fun d => d.parameters.length) = some 0) ∧ Y_M_init.2.2.1 ≤ 41 ∧ Y_M_init.1.name = "<init>" := ⟨⟨by decide +kernel, by decide +kernel, by decide +kernel⟩, by decide, rfl⟩
theorem ci_X_init : (Y_X_init.1.cls ≠ "java/lang/invoke/MethodHandle" ∧ Y_X_init.1.cls ≠ "java/lang/invoke/VarHandle" ∧ (parseMethodDescriptor Y_X_init.1.desc).map (fun d => d.parameters.length) = some 0) ∧ Y_X_init.2.2.1 ≤ 41 ∧ Y_X_init.1.name = "<init>" := ⟨⟨by decide +kernel, by decide +kernel, by decide +kernel⟩, by decide, rfl⟩
theorem dvl_8 : ∀ V : mm_V, ∀ k, k < mm_nf 8 → mm_rv V (defaultValue (mm_ty 8 k)) = defaultValue (mm_ty 8 k) := fun V k hk => by
  have hd : ∀ k, k < 20 → (defaultValue (mm_ty 8 k) = .int 0 ∨ defaultValue (mm_ty 8 k) = .long 0 ∨ defaultValue (mm_ty 8 k) = .null) := by decide +kernel
  rcases hd k hk with e | e | e <;> rw [e] <;> rfl
theorem dvl_9 : ∀ V : mm_V, ∀ k, k < mm_nf 9 → mm_rv V (defaultValue (mm_ty 9 k)) = defaultValue (mm_ty 9 k) := fun V k hk => by
  have hd : ∀ k, k < 70 → (defaultValue (mm_ty 9 k) = .int 0 ∨ defaultValue (mm_ty 9 k) = .long 0 ∨ defaultValue (mm_ty 9 k) = .null) := by decide +kernel
  rcases hd k hk with e | e | e <;> rw [e] <;> rfl
theorem n32_1 : Int32.toNatClampNeg 1 = 1 ∧ ¬ (1 : Int32) < 0 := ⟨by decide +kernel, by decide +kernel⟩
theorem d_L_law_0 : decode code 0 = .ok (.new 8, 3) := by decide +kernel
theorem d_L_law_3 : decode code 3 = .ok (.dup, 1) := by decide +kernel
theorem d_L_law_4 : decode code 4 = .ok (.invokespecial 19, 3) := by decide +kernel
theorem d_L_law_7 : decode code 7 = .ok (.astore_n 1, 1) := by decide +kernel
theorem d_L_law_8 : decode code 8 = .ok (.new 20, 3) := by decide +kernel
theorem d_L_law_11 : decode code 11 = .ok (.dup, 1) := by decide +kernel
theorem d_L_law_12 : decode code 12 = .ok (.invokespecial 22, 3) := by decide +kernel
theorem d_L_law_15 : decode code 15 = .ok (.astore_n 2, 1) := by decide +kernel
theorem d_L_law_16 : decode code 16 = .ok (.iconst 1, 1) := by decide +kernel
theorem d_L_law_17 : decode code 17 = .ok (.newarray .long, 2) := by decide +kernel
theorem d_L_law_19 : decode code 19 = .ok (.astore_n 3, 1) := by decide +kernel
section LB
variable {V : mm_V} {l : Launch} {Y : mm_Y} {d C S ck sk : Nat} {Z : List Frame → Array Value → State → State → Prop} {pc n : Nat} {lv lv' : List (Nat × Value)} {st : List Value} {w w' : Nat → Nat → Value} {nn : Nat}
theorem MC.astore_n {j : Fin 4} {i x : Nat} (hi : (j : Nat) = i) (hb : i < Y.2.2.1) (hs : mm_st1 lv i (.ref x) = lv') (hd : decode Y.2.1 pc = .ok (.astore_n j, 1)) (hn : pc + 1 = n) (k : MC V l Y d C S Z n lv' st w nn ck sk) : MC V l Y d C S Z pc lv (.ref x :: st) w nn ck sk := by
  subst hn
  intro p e R s m args below meth c H locs ls F G hl hP hS
  exact lv_astore_n F.1 F.2.1 hd hi hl hb (mm_st1_map hs) (fun ls' hl' => k p e R s m args below meth c H locs ls' F G hl' hP hS)
theorem MC.initI {nn' ck' sk' : Nat} {Y2 : mm_Y} {d2 mc ms a index : Nat} (hT : ∀ w : Nat → Nat → Value, MCT V l Y2 d2 mc ms a (mc_df w a)) (ha : nn = a + 1) (hcode : Cond.code Y2.1 Y2.2.1 Y2.2.2.1 Y2.2.2.2 ∈ mm_gw) (hret : Y2.2.2.2 = none) (hini : Cond.initialized Y2.1.cls ∈ mm_gw) (hdd : (Y2.1.cls ≠ "java/lang/invoke/MethodHandle" ∧ Y2.1.cls ≠ "java/lang/invoke/VarHandle" ∧ (parseMethodDescriptor Y2.1.desc).map (fun d => d.parameters.length) = some 0) ∧ Y2.2.2.1 ≤ 41 ∧ Y2.1.name = "<init>") (hin : Cond.instanceMethod Y2.1 ∈ mm_gw) (hl : Cond.methodLink Y.1.cls index Y2.1 ∈ mm_gw) (hd2 : d2 + 1 ≤ d) (hcat : (st.map fun v => v.category).sum ≤ 8) (hC : ck + mc ≤ C) (hS9 : sk + ms ≤ S) (hnn : a + 1 + mc = nn') (hck : ck + mc = ck') (hsk : sk + ms = sk')
    (hd : decode Y.2.1 pc = .ok (.invokespecial index, 3)) (hn : pc + 3 = n) (k : MC V l Y d C S Z n lv st (mc_to w a) nn' ck' sk') : MC V l Y d C S Z pc lv (.ref a :: st) (mc_df w a) nn ck sk := by
  subst hn; subst ha; subst hnn; subst hck; subst hsk
  intro p e R s m args below meth c H locs ls F G hl0 hP hS
  have hR := F.2.2.2.2.2.2.2.2.1
  have cw : CallB R s args Y.1.cls index Y2.1 Y2.2.1 Y2.2.2.1 none (Cond.code Y2.1 Y2.2.1 Y2.2.2.1 Y2.2.2.2 :: mm_gw) { frames := d2, cells := mc, slots := ms, locals := 60 * d2 } mc ms 0 := by
    refine callB_of (Ts := mm_gw) 0 F.2.2.2.2.2.2.1 (mm_gw_good hcode) (by rw [hret]) rfl rfl (F.2.2.2.2.2.2.1 _ hini) (F.2.2.2.2.2.2.1 _ hl) hdd.1 ⟨?_, ?_⟩
    · show d2 + 1 ≤ R.frames; omega
    · show 8 + (Y2.2.2.1 + 11) + 60 * d2 ≤ R.locals
      have := hdd.2.1
      omega
  have run : va_Run p l e R s m args below meth c H locs ck sk mc ms (F0 m pc ls ((.ref a :: st).map (mm_rv V))) (st.map (mm_rv V)) (mc_Q V (mc_to (mc_df w a) a) (a + 1 + mc) ([.ref (V.1 a)] : List Value).toArray) (mm_fr V) := va_runI (H := H) (locs := locs) (g := F0 m pc ls ((.ref a :: st).map (mm_rv V))) (b := V.1 a) (As := []) (rest := st.map (mm_rv V)) (mm_fix F) (hT w) ⟨cw, hdd.2.2, F.2.2.2.2.2.2.1 _ hin⟩
    ⟨mc_blind, fun U hU hW => ⟨rfl, by rw [hU]; exact hP, by rw [hU]; exact mm_E.moved hW hS.2.1 F.2.2.2.2.2.2.2.1, va_AO.moved hW.alike G.1.1, va_AO.moved hW.alike G.1.2⟩⟩ rfl rfl hl0.1 rfl (lv_room (by rw [List.map_map]; have e9 : (fun v => Value.category v) ∘ mm_rv V = fun v => Value.category v := funext fun v => mm_rv_cat V v; rw [e9]; exact hcat)) hd ⟨by omega, by omega⟩
  refine mc_after run hS fun H1 locs1 hP1 hS1 => ?_
  exact k p e R s m args below meth c H1 locs1 ls F G hl0 (hP1.to (fun b h1 h2 j _ => by unfold mc_to mc_df; by_cases hb : a ≤ b <;> simp [hb]; intro hba; omega)) hS1
theorem MC.toMM {h : mm_H} (hck9 : ck ≤ C) (hsk9 : sk ≤ S) (e : ∀ a, 32 ≤ a → a < 317 → ∀ k, k < mc_sl a → mm_val h a k = w a k) (k : MM V l Y d ck sk Z pc lv st h) : MC V l Y d C S Z pc lv st w 317 ck sk := by
  intro p e9 R s m args below meth c H locs ls F G hl hP hS
  exact k p e9 R s m args below meth c H locs ls ⟨F.1, F.2.1, F.2.2.1, F.2.2.2.1, F.2.2.2.2.1, F.2.2.2.2.2.1, F.2.2.2.2.2.2.1, F.2.2.2.2.2.2.2.1, F.2.2.2.2.2.2.2.2.1, Nat.le_trans hck9 G.2.2.1, Nat.le_trans hsk9 G.2.2.2⟩ hl (mc_P.mm (hP.to e)) hS
end LB
theorem mc_law_out {w : Nat → Nat → Value} {k : Nat} : mc_to w 261 316 k = mm_val mc_h0 316 k := by
  unfold mc_to
  rw [if_pos (by omega)]
theorem mc_law_end {w : Nat → Nat → Value} : ∀ a, 32 ≤ a → a < 317 → ∀ k, k < mc_sl a → mm_val mc_h0 a k = mc_to (mc_to w 32) 261 a k := by
  intro a h1 h2 k _
  unfold mc_to
  by_cases h : 261 ≤ a
  · rw [if_pos h]
  · rw [if_neg h, if_pos h1]

/-- from the entry to the loop -/
theorem L_begin {V : mm_V} {l : Launch} {C S : Nat} {Z : List Frame → Array Value → State → State → Prop} (hC : 285 ≤ C) (hS : 86817 ≤ S) (w0 : Nat → Nat → Value) (K : MM V l Y_L_law 1000 285 86817 Z 20 [(3, .ref 316), (2, .ref 261), (1, .ref 32), (0, .ref 31)] [] mc_h0) : MC V l Y_L_law 1000 C S Z 0 [(0, .ref 31)] [] w0 32 0 0 := by
  refine MC.new (nn' := 33) (ck' := 1) (sk' := 20) (t := 8) tg_32 (by decide) lays_8 toks_8 ww_137 ww_138 ww_110 dvl_8 (by have e9 : True := trivial; omega) (by show _ + _ ≤ _; first | omega | (have : mm_nf 8 = 20 := rfl; have : mm_nf 9 = 70 := rfl; omega)) rfl rfl rfl d_L_law_0 rfl ?_
  refine MC.dup rfl d_L_law_3 rfl ?_
  refine MC.initI (nn' := 261) (ck' := 229) (sk' := 7717) (fun w => C_X_init V l 32 rfl w) rfl ww_141 rfl ww_110 ci_X_init ww_140 ww_139 (by decide) (by simp [Value.category]) (by omega) (by omega) rfl rfl rfl d_L_law_4 rfl ?_
  refine MC.astore_n (i := 1) (lv' := [(1, .ref 32), (0, .ref 31)]) rfl (by decide) rfl d_L_law_7 rfl ?_
  refine MC.new (nn' := 262) (ck' := 230) (sk' := 7787) (t := 9) tg_261 (by decide) lays_9 toks_9 ww_1351 ww_1352 ww_119 dvl_9 (by have e9 : True := trivial; omega) (by show _ + _ ≤ _; first | omega | (have : mm_nf 8 = 20 := rfl; have : mm_nf 9 = 70 := rfl; omega)) rfl rfl rfl d_L_law_8 rfl ?_
  refine MC.dup rfl d_L_law_11 rfl ?_
  refine MC.initI (nn' := 316) (ck' := 284) (sk' := 86816) (fun w => C_M_init V l 261 rfl w) rfl ww_1355 rfl ww_119 ci_M_init ww_1354 ww_1353 (by decide) (by simp [Value.category]) (by omega) (by omega) rfl rfl rfl d_L_law_12 rfl ?_
  refine MC.astore_n (i := 2) (lv' := [(2, .ref 261), (1, .ref 32), (0, .ref 31)]) rfl (by decide) rfl d_L_law_15 rfl ?_
  refine MC.iconst ic_1 d_L_law_16 rfl ?_
  refine MC.newarr (nn' := 317) (ck' := 285) (sk' := 86817) (N := 1) (t := 21) (ty := .long) rfl al_316 (by decide) (fun _ => rfl) (fun _ _ => rfl) ww_244 n32_1.1 n32_1.2 (Nat.le_of_ble_eq_true rfl) (fun k _ => by rw [mc_law_out, mc_v_long (al_316).1]; rfl) (fun _ => rfl) (by have e9 : True := trivial; omega) (by show _ + _ ≤ _; first | omega | (have : mm_nf 8 = 20 := rfl; have : mm_nf 9 = 70 := rfl; omega)) rfl rfl rfl d_L_law_17 rfl ?_
  refine MC.astore_n (i := 3) (lv' := [(3, .ref 316), (2, .ref 261), (1, .ref 32), (0, .ref 31)]) rfl (by decide) rfl d_L_law_19 rfl ?_
  exact MC.toMM (by omega) (by omega) mc_law_end K
