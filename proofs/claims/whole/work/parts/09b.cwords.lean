/-! the constructors: words and facts -/
abbrev Y_St_init : mm_Y := (yX5_init, cX5_init, 1, none)
abbrev Y_Tk_init : mm_Y := (yX6_init, cX6_init, 1, none)
abbrev Y_La_init : mm_Y := (yX3_init, cX3_init, 1, none)
abbrev Y_To_init : mm_Y := (yX8_init, cX8_init, 1, none)
abbrev Y_Ta_init : mm_Y := (yX7_init, cX7_init, 1, none)
abbrev Y_Co_init : mm_Y := (yX0_init, cX0_init, 1, none)
abbrev Y_Fe_init : mm_Y := (yX1_init, cX1_init, 1, none)
abbrev Y_Ni_init : mm_Y := (yX4_init, cX4_init, 1, none)
abbrev Y_M_init : mm_Y := (yX12_init, cX12_init, 1, none)
abbrev Y_X_init : mm_Y := (yX11_init, cX11_init, 2, none)
set_option maxRecDepth 100000 in
theorem ww_142 : Cond.methodLink RX11 3 Lib.objectInit ∈ mm_gw := mm_gw_in (mm_ch1 (List.mem_of_getElem? (i := 33) (by rfl))) rfl
set_option maxRecDepth 100000 in
theorem ww_143 : Cond.instanceMethod Lib.objectInit ∈ mm_gw := mm_gw_in (mm_ch1 (List.mem_of_getElem? (i := 34) (by rfl))) rfl
set_option maxRecDepth 100000 in
theorem ww_144 : Cond.code Lib.objectInit ⟨#[0xb1]⟩ 1 none ∈ mm_gw := mm_gw_in (mm_ch1 (List.mem_of_getElem? (i := 35) (by rfl))) rfl
set_option maxRecDepth 100000 in
theorem ww_145 : Cond.classLink RX11 9 (mm_cl.getD 6 (RX0, TX0, 0)).1 ∈ mm_gw := mm_gw_in (mm_ch1 (List.mem_of_getElem? (i := 36) (by rfl))) rfl
set_option maxRecDepth 100000 in
theorem ww_146 : Cond.instantiable (mm_cl.getD 6 (RX0, TX0, 0)).1 (mm_nf 6) ∈ mm_gw := mm_gw_in (mm_ch1 (List.mem_of_getElem? (i := 37) (by rfl))) rfl
set_option maxRecDepth 100000 in
theorem ww_147n : Cond.methodLinkNest RX11 11 yX7_init "PaidSecrets" ∈ mm_nw := mm_nw_in rfl (mm_ch1 (List.mem_of_getElem? (i := 38) (by rfl)))
set_option maxRecDepth 100000 in
theorem ww_148 : Cond.instanceMethod yX7_init ∈ mm_gw := mm_gw_in (mm_ch1 (List.mem_of_getElem? (i := 39) (by rfl))) rfl
set_option maxRecDepth 100000 in
theorem ww_149 : Cond.code yX7_init cX7_init 1 none ∈ mm_gw := mm_gw_in (mm_ch1 (List.mem_of_getElem? (i := 40) (by rfl))) rfl
set_option maxRecDepth 100000 in
theorem ww_150 : Cond.methodLink RX7 3 Lib.objectInit ∈ mm_gw := mm_gw_in (mm_ch1 (List.mem_of_getElem? (i := 41) (by rfl))) rfl
set_option maxRecDepth 100000 in
theorem ww_194 : Cond.arrayClass .char ∈ mm_gw := mm_gw_in (mm_ch1 (List.mem_of_getElem? (i := 85) (by rfl))) rfl
set_option maxRecDepth 100000 in
theorem ww_195 : Cond.classLink RX11 16 (mm_cl.getD 4 (RX0, TX0, 0)).1 ∈ mm_gw := mm_gw_in (mm_ch1 (List.mem_of_getElem? (i := 86) (by rfl))) rfl
set_option maxRecDepth 100000 in
theorem ww_196 : Cond.instantiable (mm_cl.getD 4 (RX0, TX0, 0)).1 (mm_nf 4) ∈ mm_gw := mm_gw_in (mm_ch1 (List.mem_of_getElem? (i := 87) (by rfl))) rfl
set_option maxRecDepth 100000 in
theorem ww_197n : Cond.methodLinkNest RX11 18 yX5_init "PaidSecrets" ∈ mm_nw := mm_nw_in rfl (mm_ch1 (List.mem_of_getElem? (i := 88) (by rfl)))
set_option maxRecDepth 100000 in
theorem ww_198 : Cond.instanceMethod yX5_init ∈ mm_gw := mm_gw_in (mm_ch1 (List.mem_of_getElem? (i := 89) (by rfl))) rfl
set_option maxRecDepth 100000 in
theorem ww_199 : Cond.code yX5_init cX5_init 1 none ∈ mm_gw := mm_gw_in (mm_ch1 (List.mem_of_getElem? (i := 90) (by rfl))) rfl
set_option maxRecDepth 100000 in
theorem ww_200 : Cond.methodLink RX5 3 Lib.objectInit ∈ mm_gw := mm_gw_in (mm_ch1 (List.mem_of_getElem? (i := 91) (by rfl))) rfl
set_option maxRecDepth 100000 in
theorem ww_243 : Cond.arrayClass .int ∈ mm_gw := mm_gw_in (mm_ch1 (List.mem_of_getElem? (i := 134) (by rfl))) rfl
set_option maxRecDepth 100000 in
theorem ww_244 : Cond.arrayClass .long ∈ mm_gw := mm_gw_in (mm_ch1 (List.mem_of_getElem? (i := 135) (by rfl))) rfl
set_option maxRecDepth 100000 in
theorem ww_245 : Cond.classLink RX11 26 (mm_cl.getD 5 (RX0, TX0, 0)).1 ∈ mm_gw := mm_gw_in (mm_ch1 (List.mem_of_getElem? (i := 136) (by rfl))) rfl
set_option maxRecDepth 100000 in
theorem ww_246 : Cond.instantiable (mm_cl.getD 5 (RX0, TX0, 0)).1 (mm_nf 5) ∈ mm_gw := mm_gw_in (mm_ch1 (List.mem_of_getElem? (i := 137) (by rfl))) rfl
set_option maxRecDepth 100000 in
theorem ww_247n : Cond.methodLinkNest RX11 28 yX6_init "PaidSecrets" ∈ mm_nw := mm_nw_in rfl (mm_ch1 (List.mem_of_getElem? (i := 138) (by rfl)))
set_option maxRecDepth 100000 in
theorem ww_248 : Cond.instanceMethod yX6_init ∈ mm_gw := mm_gw_in (mm_ch1 (List.mem_of_getElem? (i := 139) (by rfl))) rfl
set_option maxRecDepth 100000 in
theorem ww_249 : Cond.code yX6_init cX6_init 1 none ∈ mm_gw := mm_gw_in (mm_ch1 (List.mem_of_getElem? (i := 140) (by rfl))) rfl
set_option maxRecDepth 100000 in
theorem ww_250 : Cond.methodLink RX6 3 Lib.objectInit ∈ mm_gw := mm_gw_in (mm_ch1 (List.mem_of_getElem? (i := 141) (by rfl))) rfl
set_option maxRecDepth 100000 in
theorem ww_287 : Cond.classLink RX11 47 (mm_cl.getD 0 (RX0, TX0, 0)).1 ∈ mm_gw := mm_gw_in (mm_ch1 (List.mem_of_getElem? (i := 178) (by rfl))) rfl
set_option maxRecDepth 100000 in
theorem ww_288 : Cond.instantiable (mm_cl.getD 0 (RX0, TX0, 0)).1 (mm_nf 0) ∈ mm_gw := mm_gw_in (mm_ch1 (List.mem_of_getElem? (i := 179) (by rfl))) rfl
set_option maxRecDepth 100000 in
theorem ww_289n : Cond.methodLinkNest RX11 49 yX0_init "PaidSecrets" ∈ mm_nw := mm_nw_in rfl (mm_ch1 (List.mem_of_getElem? (i := 180) (by rfl)))
set_option maxRecDepth 100000 in
theorem ww_290 : Cond.instanceMethod yX0_init ∈ mm_gw := mm_gw_in (mm_ch1 (List.mem_of_getElem? (i := 181) (by rfl))) rfl
set_option maxRecDepth 100000 in
theorem ww_291 : Cond.code yX0_init cX0_init 1 none ∈ mm_gw := mm_gw_in (mm_ch1 (List.mem_of_getElem? (i := 182) (by rfl))) rfl
set_option maxRecDepth 100000 in
theorem ww_292 : Cond.methodLink RX0 3 Lib.objectInit ∈ mm_gw := mm_gw_in (mm_ch1 (List.mem_of_getElem? (i := 183) (by rfl))) rfl
set_option maxRecDepth 100000 in
theorem ww_303 : Cond.classLink RX11 54 (mm_cl.getD 1 (RX0, TX0, 0)).1 ∈ mm_gw := mm_gw_in (mm_ch1 (List.mem_of_getElem? (i := 194) (by rfl))) rfl
set_option maxRecDepth 100000 in
theorem ww_304 : Cond.instantiable (mm_cl.getD 1 (RX0, TX0, 0)).1 (mm_nf 1) ∈ mm_gw := mm_gw_in (mm_ch1 (List.mem_of_getElem? (i := 195) (by rfl))) rfl
set_option maxRecDepth 100000 in
theorem ww_305n : Cond.methodLinkNest RX11 56 yX1_init "PaidSecrets" ∈ mm_nw := mm_nw_in rfl (mm_ch1 (List.mem_of_getElem? (i := 196) (by rfl)))
set_option maxRecDepth 100000 in
theorem ww_306 : Cond.instanceMethod yX1_init ∈ mm_gw := mm_gw_in (mm_ch1 (List.mem_of_getElem? (i := 197) (by rfl))) rfl
set_option maxRecDepth 100000 in
theorem ww_307 : Cond.code yX1_init cX1_init 1 none ∈ mm_gw := mm_gw_in (mm_ch1 (List.mem_of_getElem? (i := 198) (by rfl))) rfl
set_option maxRecDepth 100000 in
theorem ww_308 : Cond.methodLink RX1 3 Lib.objectInit ∈ mm_gw := mm_gw_in (mm_ch1 (List.mem_of_getElem? (i := 199) (by rfl))) rfl
set_option maxRecDepth 100000 in
theorem ww_319 : Cond.classLink RX11 61 (mm_cl.getD 3 (RX0, TX0, 0)).1 ∈ mm_gw := mm_gw_in (mm_ch1 (List.mem_of_getElem? (i := 210) (by rfl))) rfl
set_option maxRecDepth 100000 in
theorem ww_320 : Cond.instantiable (mm_cl.getD 3 (RX0, TX0, 0)).1 (mm_nf 3) ∈ mm_gw := mm_gw_in (mm_ch1 (List.mem_of_getElem? (i := 211) (by rfl))) rfl
set_option maxRecDepth 100000 in
theorem ww_321n : Cond.methodLinkNest RX11 63 yX4_init "PaidSecrets" ∈ mm_nw := mm_nw_in rfl (mm_ch1 (List.mem_of_getElem? (i := 212) (by rfl)))
set_option maxRecDepth 100000 in
theorem ww_322 : Cond.instanceMethod yX4_init ∈ mm_gw := mm_gw_in (mm_ch1 (List.mem_of_getElem? (i := 213) (by rfl))) rfl
set_option maxRecDepth 100000 in
theorem ww_323 : Cond.code yX4_init cX4_init 1 none ∈ mm_gw := mm_gw_in (mm_ch1 (List.mem_of_getElem? (i := 214) (by rfl))) rfl
set_option maxRecDepth 100000 in
theorem ww_324 : Cond.methodLink RX4 3 Lib.objectInit ∈ mm_gw := mm_gw_in (mm_ch1 (List.mem_of_getElem? (i := 215) (by rfl))) rfl
set_option maxRecDepth 100000 in
theorem ww_338 : Cond.classLink RX11 78 (mm_cl.getD 7 (RX0, TX0, 0)).1 ∈ mm_gw := mm_gw_in (mm_ch1 (List.mem_of_getElem? (i := 229) (by rfl))) rfl
set_option maxRecDepth 100000 in
theorem ww_339 : Cond.instantiable (mm_cl.getD 7 (RX0, TX0, 0)).1 (mm_nf 7) ∈ mm_gw := mm_gw_in (mm_ch1 (List.mem_of_getElem? (i := 230) (by rfl))) rfl
set_option maxRecDepth 100000 in
theorem ww_340n : Cond.methodLinkNest RX11 80 yX8_init "PaidSecrets" ∈ mm_nw := mm_nw_in rfl (mm_ch1 (List.mem_of_getElem? (i := 231) (by rfl)))
set_option maxRecDepth 100000 in
theorem ww_341 : Cond.instanceMethod yX8_init ∈ mm_gw := mm_gw_in (mm_ch1 (List.mem_of_getElem? (i := 232) (by rfl))) rfl
set_option maxRecDepth 100000 in
theorem ww_342 : Cond.code yX8_init cX8_init 1 none ∈ mm_gw := mm_gw_in (mm_ch1 (List.mem_of_getElem? (i := 233) (by rfl))) rfl
set_option maxRecDepth 100000 in
theorem ww_343 : Cond.methodLink RX8 3 Lib.objectInit ∈ mm_gw := mm_gw_in (mm_ch1 (List.mem_of_getElem? (i := 234) (by rfl))) rfl
set_option maxRecDepth 100000 in
theorem ww_344 : Cond.classLink RX8 71 (mm_cl.getD 2 (RX0, TX0, 0)).1 ∈ mm_gw := mm_gw_in (mm_ch1 (List.mem_of_getElem? (i := 235) (by rfl))) rfl
set_option maxRecDepth 100000 in
theorem ww_345 : Cond.instantiable (mm_cl.getD 2 (RX0, TX0, 0)).1 (mm_nf 2) ∈ mm_gw := mm_gw_in (mm_ch1 (List.mem_of_getElem? (i := 236) (by rfl))) rfl
set_option maxRecDepth 100000 in
theorem ww_346n : Cond.methodLinkNest RX8 73 yX3_init "PaidSecrets" ∈ mm_nw := mm_nw_in rfl (mm_ch1 (List.mem_of_getElem? (i := 237) (by rfl)))
set_option maxRecDepth 100000 in
theorem ww_347 : Cond.instanceMethod yX3_init ∈ mm_gw := mm_gw_in (mm_ch1 (List.mem_of_getElem? (i := 238) (by rfl))) rfl
set_option maxRecDepth 100000 in
theorem ww_348 : Cond.code yX3_init cX3_init 1 none ∈ mm_gw := mm_gw_in (mm_ch1 (List.mem_of_getElem? (i := 239) (by rfl))) rfl
set_option maxRecDepth 100000 in
theorem ww_349 : Cond.methodLink RX3 1 Lib.objectInit ∈ mm_gw := mm_gw_in (mm_ch2 (List.mem_of_getElem? (i := 0) (by rfl))) rfl
set_option maxRecDepth 100000 in
theorem ww_375 : Cond.fieldLink RX8 23 (mm_fld 7 3).1 (mm_fld 7 3).2.1 (mm_fld 7 3).2.2.1 ∈ mm_gw := by
  rw [show mm_fld 7 3 = ("PaidSecrets$Town", "rank", "[I", true) by decide +kernel]
  exact mm_gw_in (mm_ch2 (List.mem_of_getElem? (i := 26) (by rfl))) rfl
set_option maxRecDepth 100000 in
theorem ww_378 : Cond.fieldLink RX8 26 (mm_fld 7 4).1 (mm_fld 7 4).2.1 (mm_fld 7 4).2.2.1 ∈ mm_gw := by
  rw [show mm_fld 7 4 = ("PaidSecrets$Town", "tax", "[I", true) by decide +kernel]
  exact mm_gw_in (mm_ch2 (List.mem_of_getElem? (i := 29) (by rfl))) rfl
set_option maxRecDepth 100000 in
theorem ww_396 : Cond.fieldLink RX8 41 (mm_fld 7 9).1 (mm_fld 7 9).2.1 (mm_fld 7 9).2.2.1 ∈ mm_gw := by
  rw [show mm_fld 7 9 = ("PaidSecrets$Town", "ofWhom", "[I", true) by decide +kernel]
  exact mm_gw_in (mm_ch2 (List.mem_of_getElem? (i := 47) (by rfl))) rfl
set_option maxRecDepth 100000 in
theorem ww_400 : Cond.fieldLink RX8 44 (mm_fld 7 10).1 (mm_fld 7 10).2.1 (mm_fld 7 10).2.2.1 ∈ mm_gw := by
  rw [show mm_fld 7 10 = ("PaidSecrets$Town", "cost", "[I", true) by decide +kernel]
  exact mm_gw_in (mm_ch2 (List.mem_of_getElem? (i := 51) (by rfl))) rfl
set_option maxRecDepth 100000 in
theorem ww_404 : Cond.fieldLink RX8 47 (mm_fld 7 11).1 (mm_fld 7 11).2.1 (mm_fld 7 11).2.2.1 ∈ mm_gw := by
  rw [show mm_fld 7 11 = ("PaidSecrets$Town", "on", "[I", true) by decide +kernel]
  exact mm_gw_in (mm_ch2 (List.mem_of_getElem? (i := 55) (by rfl))) rfl
set_option maxRecDepth 100000 in
theorem ww_408 : Cond.fieldLink RX8 50 (mm_fld 7 12).1 (mm_fld 7 12).2.1 (mm_fld 7 12).2.2.1 ∈ mm_gw := by
  rw [show mm_fld 7 12 = ("PaidSecrets$Town", "knownBy", "[I", true) by decide +kernel]
  exact mm_gw_in (mm_ch2 (List.mem_of_getElem? (i := 59) (by rfl))) rfl
set_option maxRecDepth 100000 in
theorem ww_414 : Cond.fieldLink RX8 56 (mm_fld 7 14).1 (mm_fld 7 14).2.1 (mm_fld 7 14).2.2.1 ∈ mm_gw := by
  rw [show mm_fld 7 14 = ("PaidSecrets$Town", "earFrom", "[I", true) by decide +kernel]
  exact mm_gw_in (mm_ch2 (List.mem_of_getElem? (i := 65) (by rfl))) rfl
set_option maxRecDepth 100000 in
theorem ww_417 : Cond.fieldLink RX8 59 (mm_fld 7 15).1 (mm_fld 7 15).2.1 (mm_fld 7 15).2.2.1 ∈ mm_gw := by
  rw [show mm_fld 7 15 = ("PaidSecrets$Town", "earTo", "[I", true) by decide +kernel]
  exact mm_gw_in (mm_ch2 (List.mem_of_getElem? (i := 68) (by rfl))) rfl
set_option maxRecDepth 100000 in
theorem ww_1356 : Cond.methodLink RX12 1 Lib.objectInit ∈ mm_gw := mm_gw_in (mm_ch6 (List.mem_of_getElem? (i := 47) (by rfl))) rfl
set_option maxRecDepth 100000 in
theorem ww_1357 : Cond.constant RX12 144 65536 ∈ mm_gw := mm_gw_in (mm_ch6 (List.mem_of_getElem? (i := 48) (by rfl))) rfl
set_option maxRecDepth 100000 in
theorem ww_1569 : Cond.arrayClass .boolean ∈ mm_gw := mm_gw_in (mm_ch7 (List.mem_of_getElem? (i := 20) (by rfl))) rfl
theorem bp_36 : (Int8.ofInt 36).toInt32 = 36 := by decide +kernel
theorem bp_50 : (Int8.ofInt 50).toInt32 = 50 := by decide +kernel
theorem ci_Co_init : (Y_Co_init.1.cls ≠ "java/lang/invoke/MethodHandle" ∧ Y_Co_init.1.cls ≠ "java/lang/invoke/VarHandle" ∧ (parseMethodDescriptor Y_Co_init.1.desc).map (fun d => d.parameters.length) = some 0) ∧ Y_Co_init.2.2.1 ≤ 41 ∧ Y_Co_init.1.name = "<init>" := ⟨⟨by decide +kernel, by decide +kernel, by decide +kernel⟩, by decide, rfl⟩
theorem ci_Fe_init : (Y_Fe_init.1.cls ≠ "java/lang/invoke/MethodHandle" ∧ Y_Fe_init.1.cls ≠ "java/lang/invoke/VarHandle" ∧ (parseMethodDescriptor Y_Fe_init.1.desc).map (fun d => d.parameters.length) = some 0) ∧ Y_Fe_init.2.2.1 ≤ 41 ∧ Y_Fe_init.1.name = "<init>" := ⟨⟨by decide +kernel, by decide +kernel, by decide +kernel⟩, by decide, rfl⟩
theorem ci_La_init : (Y_La_init.1.cls ≠ "java/lang/invoke/MethodHandle" ∧ Y_La_init.1.cls ≠ "java/lang/invoke/VarHandle" ∧ (parseMethodDescriptor Y_La_init.1.desc).map (fun d => d.parameters.length) = some 0) ∧ Y_La_init.2.2.1 ≤ 41 ∧ Y_La_init.1.name = "<init>" := ⟨⟨by decide +kernel, by decide +kernel, by decide +kernel⟩, by decide, rfl⟩
theorem ci_Ni_init : (Y_Ni_init.1.cls ≠ "java/lang/invoke/MethodHandle" ∧ Y_Ni_init.1.cls ≠ "java/lang/invoke/VarHandle" ∧ (parseMethodDescriptor Y_Ni_init.1.desc).map (fun d => d.parameters.length) = some 0) ∧ Y_Ni_init.2.2.1 ≤ 41 ∧ Y_Ni_init.1.name = "<init>" := ⟨⟨by decide +kernel, by decide +kernel, by decide +kernel⟩, by decide, rfl⟩
theorem ci_St_init : (Y_St_init.1.cls ≠ "java/lang/invoke/MethodHandle" ∧ Y_St_init.1.cls ≠ "java/lang/invoke/VarHandle" ∧ (parseMethodDescriptor Y_St_init.1.desc).map (fun d => d.parameters.length) = some 0) ∧ Y_St_init.2.2.1 ≤ 41 ∧ Y_St_init.1.name = "<init>" := ⟨⟨by decide +kernel, by decide +kernel, by decide +kernel⟩, by decide, rfl⟩
theorem ci_Ta_init : (Y_Ta_init.1.cls ≠ "java/lang/invoke/MethodHandle" ∧ Y_Ta_init.1.cls ≠ "java/lang/invoke/VarHandle" ∧ (parseMethodDescriptor Y_Ta_init.1.desc).map (fun d => d.parameters.length) = some 0) ∧ Y_Ta_init.2.2.1 ≤ 41 ∧ Y_Ta_init.1.name = "<init>" := ⟨⟨by decide +kernel, by decide +kernel, by decide +kernel⟩, by decide, rfl⟩
theorem ci_Tk_init : (Y_Tk_init.1.cls ≠ "java/lang/invoke/MethodHandle" ∧ Y_Tk_init.1.cls ≠ "java/lang/invoke/VarHandle" ∧ (parseMethodDescriptor Y_Tk_init.1.desc).map (fun d => d.parameters.length) = some 0) ∧ Y_Tk_init.2.2.1 ≤ 41 ∧ Y_Tk_init.1.name = "<init>" := ⟨⟨by decide +kernel, by decide +kernel, by decide +kernel⟩, by decide, rfl⟩
theorem ci_To_init : (Y_To_init.1.cls ≠ "java/lang/invoke/MethodHandle" ∧ Y_To_init.1.cls ≠ "java/lang/invoke/VarHandle" ∧ (parseMethodDescriptor Y_To_init.1.desc).map (fun d => d.parameters.length) = some 0) ∧ Y_To_init.2.2.1 ≤ 41 ∧ Y_To_init.1.name = "<init>" := ⟨⟨by decide +kernel, by decide +kernel, by decide +kernel⟩, by decide, rfl⟩
theorem dfl_0 : ∀ {a : Nat}, mm_tg a = 0 → True → ∀ k, k < mc_sl a → ([.null, .null, .null] : List Value).getD k .null = defaultValue (mm_ty (mm_tg a) k) := fun {a} h _ k hk => by
  have hk2 : k < 3 := by unfold mc_sl at hk; rw [h, if_pos (by decide)] at hk; exact hk
  rw [h]
  exact (by decide +kernel : ∀ k, k < 3 → ([.null, .null, .null] : List Value).getD k .null = defaultValue (mm_ty (0) k)) k hk2
theorem dfl_1 : ∀ {a : Nat}, mm_tg a = 1 → True → ∀ k, k < mc_sl a → ([.null, .null, .int 0] : List Value).getD k .null = defaultValue (mm_ty (mm_tg a) k) := fun {a} h _ k hk => by
  have hk2 : k < 3 := by unfold mc_sl at hk; rw [h, if_pos (by decide)] at hk; exact hk
  rw [h]
  exact (by decide +kernel : ∀ k, k < 3 → ([.null, .null, .int 0] : List Value).getD k .null = defaultValue (mm_ty (1) k)) k hk2
theorem dfl_2 : ∀ {a : Nat}, mm_tg a = 2 → True → ∀ k, k < mc_sl a → ([.null, .null, .int 0] : List Value).getD k .null = defaultValue (mm_ty (mm_tg a) k) := fun {a} h _ k hk => by
  have hk2 : k < 3 := by unfold mc_sl at hk; rw [h, if_pos (by decide)] at hk; exact hk
  rw [h]
  exact (by decide +kernel : ∀ k, k < 3 → ([.null, .null, .int 0] : List Value).getD k .null = defaultValue (mm_ty (2) k)) k hk2
theorem dfl_3 : ∀ {a : Nat}, mm_tg a = 3 → True → ∀ k, k < mc_sl a → ([.null, .null, .null, .null] : List Value).getD k .null = defaultValue (mm_ty (mm_tg a) k) := fun {a} h _ k hk => by
  have hk2 : k < 4 := by unfold mc_sl at hk; rw [h, if_pos (by decide)] at hk; exact hk
  rw [h]
  exact (by decide +kernel : ∀ k, k < 4 → ([.null, .null, .null, .null] : List Value).getD k .null = defaultValue (mm_ty (3) k)) k hk2
theorem dfl_4 : ∀ {a : Nat}, mm_tg a = 4 → True → ∀ k, k < mc_sl a → ([.null, .null, .null, .null, .null, .int 0, .int 0, .int 0, .int 0, .int 0] : List Value).getD k .null = defaultValue (mm_ty (mm_tg a) k) := fun {a} h _ k hk => by
  have hk2 : k < 10 := by unfold mc_sl at hk; rw [h, if_pos (by decide)] at hk; exact hk
  rw [h]
  exact (by decide +kernel : ∀ k, k < 10 → ([.null, .null, .null, .null, .null, .int 0, .int 0, .int 0, .int 0, .int 0] : List Value).getD k .null = defaultValue (mm_ty (4) k)) k hk2
theorem dfl_5 : ∀ {a : Nat}, mm_tg a = 5 → True → ∀ k, k < mc_sl a → ([.int 0, .null, .null, .null, .null, .int 0, .null, .null] : List Value).getD k .null = defaultValue (mm_ty (mm_tg a) k) := fun {a} h _ k hk => by
  have hk2 : k < 8 := by unfold mc_sl at hk; rw [h, if_pos (by decide)] at hk; exact hk
  rw [h]
  exact (by decide +kernel : ∀ k, k < 8 → ([.int 0, .null, .null, .null, .null, .int 0, .null, .null] : List Value).getD k .null = defaultValue (mm_ty (5) k)) k hk2
theorem dfl_6 : ∀ {a : Nat}, mm_tg a = 6 → True → ∀ k, k < mc_sl a → ([.null, .int 0, .int 0, .int 0, .int 0, .int 0, .long 0, .null, .int 0, .int 0] : List Value).getD k .null = defaultValue (mm_ty (mm_tg a) k) := fun {a} h _ k hk => by
  have hk2 : k < 10 := by unfold mc_sl at hk; rw [h, if_pos (by decide)] at hk; exact hk
  rw [h]
  exact (by decide +kernel : ∀ k, k < 10 → ([.null, .int 0, .int 0, .int 0, .int 0, .int 0, .long 0, .null, .int 0, .int 0] : List Value).getD k .null = defaultValue (mm_ty (6) k)) k hk2
theorem dfl_7 : ∀ {a : Nat}, mm_tg a = 7 → True → ∀ k, k < mc_sl a → ([.int 0, .null, .null, .null, .null, .int 0, .int 0, .null, .int 0, .null, .null, .null, .null, .int 0, .null, .null, .null, .int 0, .null, .null] : List Value).getD k .null = defaultValue (mm_ty (mm_tg a) k) := fun {a} h _ k hk => by
  have hk2 : k < 20 := by unfold mc_sl at hk; rw [h, if_pos (by decide)] at hk; exact hk
  rw [h]
  exact (by decide +kernel : ∀ k, k < 20 → ([.int 0, .null, .null, .null, .null, .int 0, .int 0, .null, .int 0, .null, .null, .null, .null, .int 0, .null, .null, .null, .int 0, .null, .null] : List Value).getD k .null = defaultValue (mm_ty (7) k)) k hk2
theorem dfl_8 : ∀ {a : Nat}, mm_tg a = 8 → True → ∀ k, k < mc_sl a → ([.null, .null, .null, .null, .null, .null, .null, .null, .null, .null, .null, .null, .null, .null, .null, .null, .int 0, .int 0, .int 0, .long 0] : List Value).getD k .null = defaultValue (mm_ty (mm_tg a) k) := fun {a} h _ k hk => by
  have hk2 : k < 20 := by unfold mc_sl at hk; rw [h, if_pos (by decide)] at hk; exact hk
  rw [h]
  exact (by decide +kernel : ∀ k, k < 20 → ([.null, .null, .null, .null, .null, .null, .null, .null, .null, .null, .null, .null, .null, .null, .null, .null, .int 0, .int 0, .int 0, .long 0] : List Value).getD k .null = defaultValue (mm_ty (8) k)) k hk2
theorem dfl_9 : ∀ {a : Nat}, mm_tg a = 9 → True → ∀ k, k < mc_sl a → ([.int 0, .int 0, .null, .int 0, .int 0, .int 0, .int 0, .long 0, .int 0, .int 0, .null, .null, .null, .null, .null, .null, .null, .null, .null, .null, .null, .null, .null, .null, .null, .null, .null, .null, .int 0, .null, .null, .null, .null, .null, .null, .null, .null, .null, .null, .null, .null, .int 0, .null, .null, .null, .null, .null, .null, .null, .null, .null, .null, .null, .null, .null, .int 0, .null, .null, .null, .null, .int 0, .int 0, .null, .null, .null, .null, .null, .null, .int 0, .long 0] : List Value).getD k .null = defaultValue (mm_ty (mm_tg a) k) := fun {a} h _ k hk => by
  have hk2 : k < 70 := by unfold mc_sl at hk; rw [h, if_pos (by decide)] at hk; exact hk
  rw [h]
  exact (by decide +kernel : ∀ k, k < 70 → ([.int 0, .int 0, .null, .int 0, .int 0, .int 0, .int 0, .long 0, .int 0, .int 0, .null, .null, .null, .null, .null, .null, .null, .null, .null, .null, .null, .null, .null, .null, .null, .null, .null, .null, .int 0, .null, .null, .null, .null, .null, .null, .null, .null, .null, .null, .null, .null, .int 0, .null, .null, .null, .null, .null, .null, .null, .null, .null, .null, .null, .null, .null, .int 0, .null, .null, .null, .null, .int 0, .int 0, .null, .null, .null, .null, .null, .null, .int 0, .long 0] : List Value).getD k .null = defaultValue (mm_ty (9) k)) k hk2
theorem dvl_0 : ∀ V : mm_V, ∀ k, k < mm_nf 0 → mm_rv V (defaultValue (mm_ty 0 k)) = defaultValue (mm_ty 0 k) := fun V k hk => by
  have hd : ∀ k, k < 3 → (defaultValue (mm_ty 0 k) = .int 0 ∨ defaultValue (mm_ty 0 k) = .long 0 ∨ defaultValue (mm_ty 0 k) = .null) := by decide +kernel
  rcases hd k hk with e | e | e <;> rw [e] <;> rfl
theorem dvl_1 : ∀ V : mm_V, ∀ k, k < mm_nf 1 → mm_rv V (defaultValue (mm_ty 1 k)) = defaultValue (mm_ty 1 k) := fun V k hk => by
  have hd : ∀ k, k < 3 → (defaultValue (mm_ty 1 k) = .int 0 ∨ defaultValue (mm_ty 1 k) = .long 0 ∨ defaultValue (mm_ty 1 k) = .null) := by decide +kernel
  rcases hd k hk with e | e | e <;> rw [e] <;> rfl
theorem dvl_2 : ∀ V : mm_V, ∀ k, k < mm_nf 2 → mm_rv V (defaultValue (mm_ty 2 k)) = defaultValue (mm_ty 2 k) := fun V k hk => by
  have hd : ∀ k, k < 3 → (defaultValue (mm_ty 2 k) = .int 0 ∨ defaultValue (mm_ty 2 k) = .long 0 ∨ defaultValue (mm_ty 2 k) = .null) := by decide +kernel
  rcases hd k hk with e | e | e <;> rw [e] <;> rfl
theorem dvl_3 : ∀ V : mm_V, ∀ k, k < mm_nf 3 → mm_rv V (defaultValue (mm_ty 3 k)) = defaultValue (mm_ty 3 k) := fun V k hk => by
  have hd : ∀ k, k < 4 → (defaultValue (mm_ty 3 k) = .int 0 ∨ defaultValue (mm_ty 3 k) = .long 0 ∨ defaultValue (mm_ty 3 k) = .null) := by decide +kernel
  rcases hd k hk with e | e | e <;> rw [e] <;> rfl
theorem dvl_4 : ∀ V : mm_V, ∀ k, k < mm_nf 4 → mm_rv V (defaultValue (mm_ty 4 k)) = defaultValue (mm_ty 4 k) := fun V k hk => by
  have hd : ∀ k, k < 10 → (defaultValue (mm_ty 4 k) = .int 0 ∨ defaultValue (mm_ty 4 k) = .long 0 ∨ defaultValue (mm_ty 4 k) = .null) := by decide +kernel
  rcases hd k hk with e | e | e <;> rw [e] <;> rfl
theorem dvl_5 : ∀ V : mm_V, ∀ k, k < mm_nf 5 → mm_rv V (defaultValue (mm_ty 5 k)) = defaultValue (mm_ty 5 k) := fun V k hk => by
  have hd : ∀ k, k < 8 → (defaultValue (mm_ty 5 k) = .int 0 ∨ defaultValue (mm_ty 5 k) = .long 0 ∨ defaultValue (mm_ty 5 k) = .null) := by decide +kernel
  rcases hd k hk with e | e | e <;> rw [e] <;> rfl
theorem dvl_6 : ∀ V : mm_V, ∀ k, k < mm_nf 6 → mm_rv V (defaultValue (mm_ty 6 k)) = defaultValue (mm_ty 6 k) := fun V k hk => by
  have hd : ∀ k, k < 10 → (defaultValue (mm_ty 6 k) = .int 0 ∨ defaultValue (mm_ty 6 k) = .long 0 ∨ defaultValue (mm_ty 6 k) = .null) := by decide +kernel
  rcases hd k hk with e | e | e <;> rw [e] <;> rfl
theorem dvl_7 : ∀ V : mm_V, ∀ k, k < mm_nf 7 → mm_rv V (defaultValue (mm_ty 7 k)) = defaultValue (mm_ty 7 k) := fun V k hk => by
  have hd : ∀ k, k < 20 → (defaultValue (mm_ty 7 k) = .int 0 ∨ defaultValue (mm_ty 7 k) = .long 0 ∨ defaultValue (mm_ty 7 k) = .null) := by decide +kernel
  rcases hd k hk with e | e | e <;> rw [e] <;> rfl
theorem fin_0 : ∀ k, k < mc_sl 64 → ([.ref (65), .ref (66), .ref (67)] : List Value).getD k .null = mm_val mc_h0 64 k := by decide +kernel
theorem fin_1 : ∀ k, k < mc_sl 68 → ([.ref (69), .ref (70), .int 0] : List Value).getD k .null = mm_val mc_h0 68 k := by decide +kernel
theorem fin_2 : ∀ a, a < 317 → mm_tg a = 2 → ∀ k, k < mc_sl a → ([.ref (a + 1), .ref (a + 2), .int 0] : List Value).getD k .null = mm_val mc_h0 a k := by decide +kernel
theorem fin_3 : ∀ k, k < mc_sl 71 → ([.ref (72), .ref (73), .ref (74), .ref (75)] : List Value).getD k .null = mm_val mc_h0 71 k := by decide +kernel
theorem fin_4 : ∀ a, a < 317 → mm_tg a = 4 → ∀ k, k < mc_sl a → ([.ref (a + 1), .ref (a + 2), .ref (a + 3), .ref (a + 4), .ref (a + 5), .int 0, .int 0, .int 0, .int 0, .int 0] : List Value).getD k .null = mm_val mc_h0 a k := by decide +kernel
theorem fin_5 : ∀ a, a < 317 → mm_tg a = 5 → ∀ k, k < mc_sl a → ([.int 0, .ref (a + 1), .ref (a + 2), .ref (a + 3), .ref (a + 4), .int 0, .ref (a + 5), .ref (a + 6)] : List Value).getD k .null = mm_val mc_h0 a k := by decide +kernel
theorem fin_6 : ∀ k, k < mc_sl 33 → ([.ref (34), .int 0, .int 0, .int 0, .int 1, .int 0, .long 0, .null, .int 32, .int 0] : List Value).getD k .null = mm_val mc_h0 33 k := by decide +kernel
theorem fin_7 : ∀ a, a < 317 → mm_tg a = 7 → ∀ k, k < mc_sl a → ([.int 0, .ref (a + 1), .ref (a + 2), .ref (a + 3), .ref (a + 4), .int 0, .int 0, .ref (a + 5), .int 0, .ref (a + 6), .ref (a + 7), .ref (a + 8), .ref (a + 9), .int 0, .ref (a + 10), .ref (a + 11), .ref (a + 12), .int 0, .ref (a + 13), .ref (a + 14)] : List Value).getD k .null = mm_val mc_h0 a k := by decide +kernel
theorem fin_8 : ∀ k, k < mc_sl 32 → ([.ref 33, .ref 35, .ref 41, .ref 47, .ref 54, .ref 61, .ref 62, .ref 63, .ref 64, .ref 68, .ref 71, .ref 76, .ref 77, .ref 78, .ref 79, .ref 96, .int 0, .int 0, .int 0, .long 0] : List Value).getD k .null = mm_val mc_h0 32 k := by decide +kernel
theorem fin_9 : ∀ k, k < mc_sl 261 → ([.int 0, .int 0, .ref (262), .int 0, .int 0, .int 0, .int 0, .long 0, .int 0, .int 0, .ref (263), .ref (264), .ref (265), .ref (266), .ref (267), .ref (268), .ref (269), .ref (270), .ref (271), .ref (272), .ref (273), .ref (274), .ref (275), .ref (276), .ref (277), .ref (278), .ref (279), .ref (280), .int 0, .ref (281), .ref (282), .ref (283), .ref (284), .ref (285), .ref (286), .ref (287), .ref (288), .ref (289), .ref (290), .ref (291), .ref (292), .int 0, .ref (293), .ref (294), .ref (295), .ref (296), .ref (297), .ref (298), .ref (299), .ref (300), .ref (301), .ref (302), .ref (303), .ref (304), .ref (305), .int 0, .ref (306), .ref (307), .ref (308), .ref (309), .int 0, .int 0, .ref (310), .ref (311), .ref (312), .ref (313), .ref (314), .ref (315), .int 0, .long 0] : List Value).getD k .null = mm_val mc_h0 261 k := by decide +kernel
theorem fo_0_0 : (mm_fld 0 0).1 = Y_Co_init.1.cls ∧ Y_Co_init.1.name = "<init>" := ⟨by decide +kernel, rfl⟩
theorem fo_0_1 : (mm_fld 0 1).1 = Y_Co_init.1.cls ∧ Y_Co_init.1.name = "<init>" := ⟨by decide +kernel, rfl⟩
theorem fo_0_2 : (mm_fld 0 2).1 = Y_Co_init.1.cls ∧ Y_Co_init.1.name = "<init>" := ⟨by decide +kernel, rfl⟩
theorem fo_1_0 : (mm_fld 1 0).1 = Y_Fe_init.1.cls ∧ Y_Fe_init.1.name = "<init>" := ⟨by decide +kernel, rfl⟩
theorem fo_1_1 : (mm_fld 1 1).1 = Y_Fe_init.1.cls ∧ Y_Fe_init.1.name = "<init>" := ⟨by decide +kernel, rfl⟩
theorem fo_2_0 : (mm_fld 2 0).1 = Y_La_init.1.cls ∧ Y_La_init.1.name = "<init>" := ⟨by decide +kernel, rfl⟩
theorem fo_2_1 : (mm_fld 2 1).1 = Y_La_init.1.cls ∧ Y_La_init.1.name = "<init>" := ⟨by decide +kernel, rfl⟩
theorem fo_3_0 : (mm_fld 3 0).1 = Y_Ni_init.1.cls ∧ Y_Ni_init.1.name = "<init>" := ⟨by decide +kernel, rfl⟩
theorem fo_3_1 : (mm_fld 3 1).1 = Y_Ni_init.1.cls ∧ Y_Ni_init.1.name = "<init>" := ⟨by decide +kernel, rfl⟩
theorem fo_3_2 : (mm_fld 3 2).1 = Y_Ni_init.1.cls ∧ Y_Ni_init.1.name = "<init>" := ⟨by decide +kernel, rfl⟩
theorem fo_3_3 : (mm_fld 3 3).1 = Y_Ni_init.1.cls ∧ Y_Ni_init.1.name = "<init>" := ⟨by decide +kernel, rfl⟩
theorem fo_4_0 : (mm_fld 4 0).1 = Y_St_init.1.cls ∧ Y_St_init.1.name = "<init>" := ⟨by decide +kernel, rfl⟩
theorem fo_4_1 : (mm_fld 4 1).1 = Y_St_init.1.cls ∧ Y_St_init.1.name = "<init>" := ⟨by decide +kernel, rfl⟩
theorem fo_4_2 : (mm_fld 4 2).1 = Y_St_init.1.cls ∧ Y_St_init.1.name = "<init>" := ⟨by decide +kernel, rfl⟩
theorem fo_4_3 : (mm_fld 4 3).1 = Y_St_init.1.cls ∧ Y_St_init.1.name = "<init>" := ⟨by decide +kernel, rfl⟩
theorem fo_4_4 : (mm_fld 4 4).1 = Y_St_init.1.cls ∧ Y_St_init.1.name = "<init>" := ⟨by decide +kernel, rfl⟩
theorem fo_5_1 : (mm_fld 5 1).1 = Y_Tk_init.1.cls ∧ Y_Tk_init.1.name = "<init>" := ⟨by decide +kernel, rfl⟩
theorem fo_5_2 : (mm_fld 5 2).1 = Y_Tk_init.1.cls ∧ Y_Tk_init.1.name = "<init>" := ⟨by decide +kernel, rfl⟩
theorem fo_5_3 : (mm_fld 5 3).1 = Y_Tk_init.1.cls ∧ Y_Tk_init.1.name = "<init>" := ⟨by decide +kernel, rfl⟩
theorem fo_5_4 : (mm_fld 5 4).1 = Y_Tk_init.1.cls ∧ Y_Tk_init.1.name = "<init>" := ⟨by decide +kernel, rfl⟩
theorem fo_5_6 : (mm_fld 5 6).1 = Y_Tk_init.1.cls ∧ Y_Tk_init.1.name = "<init>" := ⟨by decide +kernel, rfl⟩
theorem fo_5_7 : (mm_fld 5 7).1 = Y_Tk_init.1.cls ∧ Y_Tk_init.1.name = "<init>" := ⟨by decide +kernel, rfl⟩
theorem fo_6_0 : (mm_fld 6 0).1 = Y_Ta_init.1.cls ∧ Y_Ta_init.1.name = "<init>" := ⟨by decide +kernel, rfl⟩
theorem fo_7_1 : (mm_fld 7 1).1 = Y_To_init.1.cls ∧ Y_To_init.1.name = "<init>" := ⟨by decide +kernel, rfl⟩
theorem fo_7_10 : (mm_fld 7 10).1 = Y_To_init.1.cls ∧ Y_To_init.1.name = "<init>" := ⟨by decide +kernel, rfl⟩
theorem fo_7_11 : (mm_fld 7 11).1 = Y_To_init.1.cls ∧ Y_To_init.1.name = "<init>" := ⟨by decide +kernel, rfl⟩
theorem fo_7_12 : (mm_fld 7 12).1 = Y_To_init.1.cls ∧ Y_To_init.1.name = "<init>" := ⟨by decide +kernel, rfl⟩
theorem fo_7_14 : (mm_fld 7 14).1 = Y_To_init.1.cls ∧ Y_To_init.1.name = "<init>" := ⟨by decide +kernel, rfl⟩
theorem fo_7_15 : (mm_fld 7 15).1 = Y_To_init.1.cls ∧ Y_To_init.1.name = "<init>" := ⟨by decide +kernel, rfl⟩
theorem fo_7_16 : (mm_fld 7 16).1 = Y_To_init.1.cls ∧ Y_To_init.1.name = "<init>" := ⟨by decide +kernel, rfl⟩
theorem fo_7_18 : (mm_fld 7 18).1 = Y_To_init.1.cls ∧ Y_To_init.1.name = "<init>" := ⟨by decide +kernel, rfl⟩
theorem fo_7_19 : (mm_fld 7 19).1 = Y_To_init.1.cls ∧ Y_To_init.1.name = "<init>" := ⟨by decide +kernel, rfl⟩
theorem fo_7_2 : (mm_fld 7 2).1 = Y_To_init.1.cls ∧ Y_To_init.1.name = "<init>" := ⟨by decide +kernel, rfl⟩
theorem fo_7_3 : (mm_fld 7 3).1 = Y_To_init.1.cls ∧ Y_To_init.1.name = "<init>" := ⟨by decide +kernel, rfl⟩
theorem fo_7_4 : (mm_fld 7 4).1 = Y_To_init.1.cls ∧ Y_To_init.1.name = "<init>" := ⟨by decide +kernel, rfl⟩
theorem fo_7_7 : (mm_fld 7 7).1 = Y_To_init.1.cls ∧ Y_To_init.1.name = "<init>" := ⟨by decide +kernel, rfl⟩
theorem fo_7_9 : (mm_fld 7 9).1 = Y_To_init.1.cls ∧ Y_To_init.1.name = "<init>" := ⟨by decide +kernel, rfl⟩
theorem fo_8_0 : (mm_fld 8 0).1 = Y_X_init.1.cls ∧ Y_X_init.1.name = "<init>" := ⟨by decide +kernel, rfl⟩
theorem fo_8_1 : (mm_fld 8 1).1 = Y_X_init.1.cls ∧ Y_X_init.1.name = "<init>" := ⟨by decide +kernel, rfl⟩
theorem fo_8_10 : (mm_fld 8 10).1 = Y_X_init.1.cls ∧ Y_X_init.1.name = "<init>" := ⟨by decide +kernel, rfl⟩
theorem fo_8_11 : (mm_fld 8 11).1 = Y_X_init.1.cls ∧ Y_X_init.1.name = "<init>" := ⟨by decide +kernel, rfl⟩
theorem fo_8_12 : (mm_fld 8 12).1 = Y_X_init.1.cls ∧ Y_X_init.1.name = "<init>" := ⟨by decide +kernel, rfl⟩
theorem fo_8_13 : (mm_fld 8 13).1 = Y_X_init.1.cls ∧ Y_X_init.1.name = "<init>" := ⟨by decide +kernel, rfl⟩
theorem fo_8_2 : (mm_fld 8 2).1 = Y_X_init.1.cls ∧ Y_X_init.1.name = "<init>" := ⟨by decide +kernel, rfl⟩
theorem fo_8_3 : (mm_fld 8 3).1 = Y_X_init.1.cls ∧ Y_X_init.1.name = "<init>" := ⟨by decide +kernel, rfl⟩
theorem fo_8_4 : (mm_fld 8 4).1 = Y_X_init.1.cls ∧ Y_X_init.1.name = "<init>" := ⟨by decide +kernel, rfl⟩
theorem fo_8_5 : (mm_fld 8 5).1 = Y_X_init.1.cls ∧ Y_X_init.1.name = "<init>" := ⟨by decide +kernel, rfl⟩
theorem fo_8_6 : (mm_fld 8 6).1 = Y_X_init.1.cls ∧ Y_X_init.1.name = "<init>" := ⟨by decide +kernel, rfl⟩
theorem fo_8_7 : (mm_fld 8 7).1 = Y_X_init.1.cls ∧ Y_X_init.1.name = "<init>" := ⟨by decide +kernel, rfl⟩
theorem fo_8_8 : (mm_fld 8 8).1 = Y_X_init.1.cls ∧ Y_X_init.1.name = "<init>" := ⟨by decide +kernel, rfl⟩
theorem fo_8_9 : (mm_fld 8 9).1 = Y_X_init.1.cls ∧ Y_X_init.1.name = "<init>" := ⟨by decide +kernel, rfl⟩
theorem fo_9_10 : (mm_fld 9 10).1 = Y_M_init.1.cls ∧ Y_M_init.1.name = "<init>" := ⟨by decide +kernel, rfl⟩
theorem fo_9_11 : (mm_fld 9 11).1 = Y_M_init.1.cls ∧ Y_M_init.1.name = "<init>" := ⟨by decide +kernel, rfl⟩
theorem fo_9_12 : (mm_fld 9 12).1 = Y_M_init.1.cls ∧ Y_M_init.1.name = "<init>" := ⟨by decide +kernel, rfl⟩
theorem fo_9_13 : (mm_fld 9 13).1 = Y_M_init.1.cls ∧ Y_M_init.1.name = "<init>" := ⟨by decide +kernel, rfl⟩
theorem fo_9_14 : (mm_fld 9 14).1 = Y_M_init.1.cls ∧ Y_M_init.1.name = "<init>" := ⟨by decide +kernel, rfl⟩
theorem fo_9_15 : (mm_fld 9 15).1 = Y_M_init.1.cls ∧ Y_M_init.1.name = "<init>" := ⟨by decide +kernel, rfl⟩
theorem fo_9_16 : (mm_fld 9 16).1 = Y_M_init.1.cls ∧ Y_M_init.1.name = "<init>" := ⟨by decide +kernel, rfl⟩
theorem fo_9_17 : (mm_fld 9 17).1 = Y_M_init.1.cls ∧ Y_M_init.1.name = "<init>" := ⟨by decide +kernel, rfl⟩
theorem fo_9_18 : (mm_fld 9 18).1 = Y_M_init.1.cls ∧ Y_M_init.1.name = "<init>" := ⟨by decide +kernel, rfl⟩
theorem fo_9_19 : (mm_fld 9 19).1 = Y_M_init.1.cls ∧ Y_M_init.1.name = "<init>" := ⟨by decide +kernel, rfl⟩
theorem fo_9_2 : (mm_fld 9 2).1 = Y_M_init.1.cls ∧ Y_M_init.1.name = "<init>" := ⟨by decide +kernel, rfl⟩
theorem fo_9_20 : (mm_fld 9 20).1 = Y_M_init.1.cls ∧ Y_M_init.1.name = "<init>" := ⟨by decide +kernel, rfl⟩
theorem fo_9_21 : (mm_fld 9 21).1 = Y_M_init.1.cls ∧ Y_M_init.1.name = "<init>" := ⟨by decide +kernel, rfl⟩
theorem fo_9_22 : (mm_fld 9 22).1 = Y_M_init.1.cls ∧ Y_M_init.1.name = "<init>" := ⟨by decide +kernel, rfl⟩
theorem fo_9_23 : (mm_fld 9 23).1 = Y_M_init.1.cls ∧ Y_M_init.1.name = "<init>" := ⟨by decide +kernel, rfl⟩
theorem fo_9_24 : (mm_fld 9 24).1 = Y_M_init.1.cls ∧ Y_M_init.1.name = "<init>" := ⟨by decide +kernel, rfl⟩
theorem fo_9_25 : (mm_fld 9 25).1 = Y_M_init.1.cls ∧ Y_M_init.1.name = "<init>" := ⟨by decide +kernel, rfl⟩
theorem fo_9_26 : (mm_fld 9 26).1 = Y_M_init.1.cls ∧ Y_M_init.1.name = "<init>" := ⟨by decide +kernel, rfl⟩
theorem fo_9_27 : (mm_fld 9 27).1 = Y_M_init.1.cls ∧ Y_M_init.1.name = "<init>" := ⟨by decide +kernel, rfl⟩
theorem fo_9_29 : (mm_fld 9 29).1 = Y_M_init.1.cls ∧ Y_M_init.1.name = "<init>" := ⟨by decide +kernel, rfl⟩
theorem fo_9_30 : (mm_fld 9 30).1 = Y_M_init.1.cls ∧ Y_M_init.1.name = "<init>" := ⟨by decide +kernel, rfl⟩
theorem fo_9_31 : (mm_fld 9 31).1 = Y_M_init.1.cls ∧ Y_M_init.1.name = "<init>" := ⟨by decide +kernel, rfl⟩
theorem fo_9_32 : (mm_fld 9 32).1 = Y_M_init.1.cls ∧ Y_M_init.1.name = "<init>" := ⟨by decide +kernel, rfl⟩
theorem fo_9_33 : (mm_fld 9 33).1 = Y_M_init.1.cls ∧ Y_M_init.1.name = "<init>" := ⟨by decide +kernel, rfl⟩
theorem fo_9_34 : (mm_fld 9 34).1 = Y_M_init.1.cls ∧ Y_M_init.1.name = "<init>" := ⟨by decide +kernel, rfl⟩
theorem fo_9_35 : (mm_fld 9 35).1 = Y_M_init.1.cls ∧ Y_M_init.1.name = "<init>" := ⟨by decide +kernel, rfl⟩
theorem fo_9_36 : (mm_fld 9 36).1 = Y_M_init.1.cls ∧ Y_M_init.1.name = "<init>" := ⟨by decide +kernel, rfl⟩
theorem fo_9_37 : (mm_fld 9 37).1 = Y_M_init.1.cls ∧ Y_M_init.1.name = "<init>" := ⟨by decide +kernel, rfl⟩
theorem fo_9_38 : (mm_fld 9 38).1 = Y_M_init.1.cls ∧ Y_M_init.1.name = "<init>" := ⟨by decide +kernel, rfl⟩
theorem fo_9_39 : (mm_fld 9 39).1 = Y_M_init.1.cls ∧ Y_M_init.1.name = "<init>" := ⟨by decide +kernel, rfl⟩
theorem fo_9_40 : (mm_fld 9 40).1 = Y_M_init.1.cls ∧ Y_M_init.1.name = "<init>" := ⟨by decide +kernel, rfl⟩
theorem fo_9_42 : (mm_fld 9 42).1 = Y_M_init.1.cls ∧ Y_M_init.1.name = "<init>" := ⟨by decide +kernel, rfl⟩
theorem fo_9_43 : (mm_fld 9 43).1 = Y_M_init.1.cls ∧ Y_M_init.1.name = "<init>" := ⟨by decide +kernel, rfl⟩
theorem fo_9_44 : (mm_fld 9 44).1 = Y_M_init.1.cls ∧ Y_M_init.1.name = "<init>" := ⟨by decide +kernel, rfl⟩
theorem fo_9_45 : (mm_fld 9 45).1 = Y_M_init.1.cls ∧ Y_M_init.1.name = "<init>" := ⟨by decide +kernel, rfl⟩
theorem fo_9_46 : (mm_fld 9 46).1 = Y_M_init.1.cls ∧ Y_M_init.1.name = "<init>" := ⟨by decide +kernel, rfl⟩
theorem fo_9_47 : (mm_fld 9 47).1 = Y_M_init.1.cls ∧ Y_M_init.1.name = "<init>" := ⟨by decide +kernel, rfl⟩
theorem fo_9_48 : (mm_fld 9 48).1 = Y_M_init.1.cls ∧ Y_M_init.1.name = "<init>" := ⟨by decide +kernel, rfl⟩
theorem fo_9_49 : (mm_fld 9 49).1 = Y_M_init.1.cls ∧ Y_M_init.1.name = "<init>" := ⟨by decide +kernel, rfl⟩
theorem fo_9_50 : (mm_fld 9 50).1 = Y_M_init.1.cls ∧ Y_M_init.1.name = "<init>" := ⟨by decide +kernel, rfl⟩
theorem fo_9_51 : (mm_fld 9 51).1 = Y_M_init.1.cls ∧ Y_M_init.1.name = "<init>" := ⟨by decide +kernel, rfl⟩
theorem fo_9_52 : (mm_fld 9 52).1 = Y_M_init.1.cls ∧ Y_M_init.1.name = "<init>" := ⟨by decide +kernel, rfl⟩
theorem fo_9_53 : (mm_fld 9 53).1 = Y_M_init.1.cls ∧ Y_M_init.1.name = "<init>" := ⟨by decide +kernel, rfl⟩
theorem fo_9_54 : (mm_fld 9 54).1 = Y_M_init.1.cls ∧ Y_M_init.1.name = "<init>" := ⟨by decide +kernel, rfl⟩
theorem fo_9_56 : (mm_fld 9 56).1 = Y_M_init.1.cls ∧ Y_M_init.1.name = "<init>" := ⟨by decide +kernel, rfl⟩
theorem fo_9_57 : (mm_fld 9 57).1 = Y_M_init.1.cls ∧ Y_M_init.1.name = "<init>" := ⟨by decide +kernel, rfl⟩
theorem fo_9_58 : (mm_fld 9 58).1 = Y_M_init.1.cls ∧ Y_M_init.1.name = "<init>" := ⟨by decide +kernel, rfl⟩
theorem fo_9_59 : (mm_fld 9 59).1 = Y_M_init.1.cls ∧ Y_M_init.1.name = "<init>" := ⟨by decide +kernel, rfl⟩
theorem fo_9_62 : (mm_fld 9 62).1 = Y_M_init.1.cls ∧ Y_M_init.1.name = "<init>" := ⟨by decide +kernel, rfl⟩
theorem fo_9_63 : (mm_fld 9 63).1 = Y_M_init.1.cls ∧ Y_M_init.1.name = "<init>" := ⟨by decide +kernel, rfl⟩
theorem fo_9_64 : (mm_fld 9 64).1 = Y_M_init.1.cls ∧ Y_M_init.1.name = "<init>" := ⟨by decide +kernel, rfl⟩
theorem fo_9_65 : (mm_fld 9 65).1 = Y_M_init.1.cls ∧ Y_M_init.1.name = "<init>" := ⟨by decide +kernel, rfl⟩
theorem fo_9_66 : (mm_fld 9 66).1 = Y_M_init.1.cls ∧ Y_M_init.1.name = "<init>" := ⟨by decide +kernel, rfl⟩
theorem fo_9_67 : (mm_fld 9 67).1 = Y_M_init.1.cls ∧ Y_M_init.1.name = "<init>" := ⟨by decide +kernel, rfl⟩
theorem fq_0_0 : 0 < 10 ∧ 0 < mm_nf 0 ∧ (mm_fld 0 0).2.2.2 = true := ⟨by decide, by decide +kernel, by decide +kernel⟩
theorem fq_0_1 : 0 < 10 ∧ 1 < mm_nf 0 ∧ (mm_fld 0 1).2.2.2 = true := ⟨by decide, by decide +kernel, by decide +kernel⟩
theorem fq_0_2 : 0 < 10 ∧ 2 < mm_nf 0 ∧ (mm_fld 0 2).2.2.2 = true := ⟨by decide, by decide +kernel, by decide +kernel⟩
theorem fq_1_0 : 1 < 10 ∧ 0 < mm_nf 1 ∧ (mm_fld 1 0).2.2.2 = true := ⟨by decide, by decide +kernel, by decide +kernel⟩
theorem fq_1_1 : 1 < 10 ∧ 1 < mm_nf 1 ∧ (mm_fld 1 1).2.2.2 = true := ⟨by decide, by decide +kernel, by decide +kernel⟩
theorem fq_1_2 : 1 < 10 ∧ 2 < mm_nf 1 ∧ (mm_fld 1 2).2.2.2 = false := ⟨by decide, by decide +kernel, by decide +kernel⟩
theorem fq_2_0 : 2 < 10 ∧ 0 < mm_nf 2 ∧ (mm_fld 2 0).2.2.2 = true := ⟨by decide, by decide +kernel, by decide +kernel⟩
theorem fq_2_1 : 2 < 10 ∧ 1 < mm_nf 2 ∧ (mm_fld 2 1).2.2.2 = true := ⟨by decide, by decide +kernel, by decide +kernel⟩
theorem fq_2_2 : 2 < 10 ∧ 2 < mm_nf 2 ∧ (mm_fld 2 2).2.2.2 = false := ⟨by decide, by decide +kernel, by decide +kernel⟩
theorem fq_3_0 : 3 < 10 ∧ 0 < mm_nf 3 ∧ (mm_fld 3 0).2.2.2 = true := ⟨by decide, by decide +kernel, by decide +kernel⟩
theorem fq_3_1 : 3 < 10 ∧ 1 < mm_nf 3 ∧ (mm_fld 3 1).2.2.2 = true := ⟨by decide, by decide +kernel, by decide +kernel⟩
theorem fq_3_2 : 3 < 10 ∧ 2 < mm_nf 3 ∧ (mm_fld 3 2).2.2.2 = true := ⟨by decide, by decide +kernel, by decide +kernel⟩
theorem fq_3_3 : 3 < 10 ∧ 3 < mm_nf 3 ∧ (mm_fld 3 3).2.2.2 = true := ⟨by decide, by decide +kernel, by decide +kernel⟩
theorem fq_4_0 : 4 < 10 ∧ 0 < mm_nf 4 ∧ (mm_fld 4 0).2.2.2 = true := ⟨by decide, by decide +kernel, by decide +kernel⟩
theorem fq_4_1 : 4 < 10 ∧ 1 < mm_nf 4 ∧ (mm_fld 4 1).2.2.2 = true := ⟨by decide, by decide +kernel, by decide +kernel⟩
theorem fq_4_2 : 4 < 10 ∧ 2 < mm_nf 4 ∧ (mm_fld 4 2).2.2.2 = true := ⟨by decide, by decide +kernel, by decide +kernel⟩
theorem fq_4_3 : 4 < 10 ∧ 3 < mm_nf 4 ∧ (mm_fld 4 3).2.2.2 = true := ⟨by decide, by decide +kernel, by decide +kernel⟩
theorem fq_4_4 : 4 < 10 ∧ 4 < mm_nf 4 ∧ (mm_fld 4 4).2.2.2 = true := ⟨by decide, by decide +kernel, by decide +kernel⟩
theorem fq_4_5 : 4 < 10 ∧ 5 < mm_nf 4 ∧ (mm_fld 4 5).2.2.2 = false := ⟨by decide, by decide +kernel, by decide +kernel⟩
theorem fq_4_6 : 4 < 10 ∧ 6 < mm_nf 4 ∧ (mm_fld 4 6).2.2.2 = false := ⟨by decide, by decide +kernel, by decide +kernel⟩
theorem fq_4_7 : 4 < 10 ∧ 7 < mm_nf 4 ∧ (mm_fld 4 7).2.2.2 = false := ⟨by decide, by decide +kernel, by decide +kernel⟩
theorem fq_4_8 : 4 < 10 ∧ 8 < mm_nf 4 ∧ (mm_fld 4 8).2.2.2 = false := ⟨by decide, by decide +kernel, by decide +kernel⟩
theorem fq_4_9 : 4 < 10 ∧ 9 < mm_nf 4 ∧ (mm_fld 4 9).2.2.2 = false := ⟨by decide, by decide +kernel, by decide +kernel⟩
theorem fq_5_0 : 5 < 10 ∧ 0 < mm_nf 5 ∧ (mm_fld 5 0).2.2.2 = false := ⟨by decide, by decide +kernel, by decide +kernel⟩
theorem fq_5_1 : 5 < 10 ∧ 1 < mm_nf 5 ∧ (mm_fld 5 1).2.2.2 = true := ⟨by decide, by decide +kernel, by decide +kernel⟩
theorem fq_5_2 : 5 < 10 ∧ 2 < mm_nf 5 ∧ (mm_fld 5 2).2.2.2 = true := ⟨by decide, by decide +kernel, by decide +kernel⟩
theorem fq_5_3 : 5 < 10 ∧ 3 < mm_nf 5 ∧ (mm_fld 5 3).2.2.2 = true := ⟨by decide, by decide +kernel, by decide +kernel⟩
theorem fq_5_4 : 5 < 10 ∧ 4 < mm_nf 5 ∧ (mm_fld 5 4).2.2.2 = true := ⟨by decide, by decide +kernel, by decide +kernel⟩
theorem fq_5_5 : 5 < 10 ∧ 5 < mm_nf 5 ∧ (mm_fld 5 5).2.2.2 = false := ⟨by decide, by decide +kernel, by decide +kernel⟩
theorem fq_5_6 : 5 < 10 ∧ 6 < mm_nf 5 ∧ (mm_fld 5 6).2.2.2 = true := ⟨by decide, by decide +kernel, by decide +kernel⟩
theorem fq_5_7 : 5 < 10 ∧ 7 < mm_nf 5 ∧ (mm_fld 5 7).2.2.2 = true := ⟨by decide, by decide +kernel, by decide +kernel⟩
theorem fq_6_0 : 6 < 10 ∧ 0 < mm_nf 6 ∧ (mm_fld 6 0).2.2.2 = true := ⟨by decide, by decide +kernel, by decide +kernel⟩
theorem fq_6_1 : 6 < 10 ∧ 1 < mm_nf 6 ∧ (mm_fld 6 1).2.2.2 = false := ⟨by decide, by decide +kernel, by decide +kernel⟩
theorem fq_6_2 : 6 < 10 ∧ 2 < mm_nf 6 ∧ (mm_fld 6 2).2.2.2 = false := ⟨by decide, by decide +kernel, by decide +kernel⟩
theorem fq_6_3 : 6 < 10 ∧ 3 < mm_nf 6 ∧ (mm_fld 6 3).2.2.2 = false := ⟨by decide, by decide +kernel, by decide +kernel⟩
theorem fq_6_4 : 6 < 10 ∧ 4 < mm_nf 6 ∧ (mm_fld 6 4).2.2.2 = false := ⟨by decide, by decide +kernel, by decide +kernel⟩
theorem fq_6_5 : 6 < 10 ∧ 5 < mm_nf 6 ∧ (mm_fld 6 5).2.2.2 = false := ⟨by decide, by decide +kernel, by decide +kernel⟩
theorem fq_6_6 : 6 < 10 ∧ 6 < mm_nf 6 ∧ (mm_fld 6 6).2.2.2 = false := ⟨by decide, by decide +kernel, by decide +kernel⟩
theorem fq_6_7 : 6 < 10 ∧ 7 < mm_nf 6 ∧ (mm_fld 6 7).2.2.2 = false := ⟨by decide, by decide +kernel, by decide +kernel⟩
theorem fq_6_8 : 6 < 10 ∧ 8 < mm_nf 6 ∧ (mm_fld 6 8).2.2.2 = false := ⟨by decide, by decide +kernel, by decide +kernel⟩
theorem fq_6_9 : 6 < 10 ∧ 9 < mm_nf 6 ∧ (mm_fld 6 9).2.2.2 = false := ⟨by decide, by decide +kernel, by decide +kernel⟩
theorem fq_7_0 : 7 < 10 ∧ 0 < mm_nf 7 ∧ (mm_fld 7 0).2.2.2 = false := ⟨by decide, by decide +kernel, by decide +kernel⟩
theorem fq_7_1 : 7 < 10 ∧ 1 < mm_nf 7 ∧ (mm_fld 7 1).2.2.2 = true := ⟨by decide, by decide +kernel, by decide +kernel⟩
theorem fq_7_10 : 7 < 10 ∧ 10 < mm_nf 7 ∧ (mm_fld 7 10).2.2.2 = true := ⟨by decide, by decide +kernel, by decide +kernel⟩
theorem fq_7_11 : 7 < 10 ∧ 11 < mm_nf 7 ∧ (mm_fld 7 11).2.2.2 = true := ⟨by decide, by decide +kernel, by decide +kernel⟩
theorem fq_7_12 : 7 < 10 ∧ 12 < mm_nf 7 ∧ (mm_fld 7 12).2.2.2 = true := ⟨by decide, by decide +kernel, by decide +kernel⟩
theorem fq_7_13 : 7 < 10 ∧ 13 < mm_nf 7 ∧ (mm_fld 7 13).2.2.2 = false := ⟨by decide, by decide +kernel, by decide +kernel⟩
theorem fq_7_14 : 7 < 10 ∧ 14 < mm_nf 7 ∧ (mm_fld 7 14).2.2.2 = true := ⟨by decide, by decide +kernel, by decide +kernel⟩
theorem fq_7_15 : 7 < 10 ∧ 15 < mm_nf 7 ∧ (mm_fld 7 15).2.2.2 = true := ⟨by decide, by decide +kernel, by decide +kernel⟩
theorem fq_7_16 : 7 < 10 ∧ 16 < mm_nf 7 ∧ (mm_fld 7 16).2.2.2 = true := ⟨by decide, by decide +kernel, by decide +kernel⟩
theorem fq_7_17 : 7 < 10 ∧ 17 < mm_nf 7 ∧ (mm_fld 7 17).2.2.2 = false := ⟨by decide, by decide +kernel, by decide +kernel⟩
theorem fq_7_18 : 7 < 10 ∧ 18 < mm_nf 7 ∧ (mm_fld 7 18).2.2.2 = true := ⟨by decide, by decide +kernel, by decide +kernel⟩
theorem fq_7_19 : 7 < 10 ∧ 19 < mm_nf 7 ∧ (mm_fld 7 19).2.2.2 = true := ⟨by decide, by decide +kernel, by decide +kernel⟩
theorem fq_7_2 : 7 < 10 ∧ 2 < mm_nf 7 ∧ (mm_fld 7 2).2.2.2 = true := ⟨by decide, by decide +kernel, by decide +kernel⟩
theorem fq_7_3 : 7 < 10 ∧ 3 < mm_nf 7 ∧ (mm_fld 7 3).2.2.2 = true := ⟨by decide, by decide +kernel, by decide +kernel⟩
theorem fq_7_4 : 7 < 10 ∧ 4 < mm_nf 7 ∧ (mm_fld 7 4).2.2.2 = true := ⟨by decide, by decide +kernel, by decide +kernel⟩
theorem fq_7_5 : 7 < 10 ∧ 5 < mm_nf 7 ∧ (mm_fld 7 5).2.2.2 = false := ⟨by decide, by decide +kernel, by decide +kernel⟩
theorem fq_7_6 : 7 < 10 ∧ 6 < mm_nf 7 ∧ (mm_fld 7 6).2.2.2 = false := ⟨by decide, by decide +kernel, by decide +kernel⟩
theorem fq_7_7 : 7 < 10 ∧ 7 < mm_nf 7 ∧ (mm_fld 7 7).2.2.2 = true := ⟨by decide, by decide +kernel, by decide +kernel⟩
theorem fq_7_8 : 7 < 10 ∧ 8 < mm_nf 7 ∧ (mm_fld 7 8).2.2.2 = false := ⟨by decide, by decide +kernel, by decide +kernel⟩
theorem fq_7_9 : 7 < 10 ∧ 9 < mm_nf 7 ∧ (mm_fld 7 9).2.2.2 = true := ⟨by decide, by decide +kernel, by decide +kernel⟩
theorem fq_8_0 : 8 < 10 ∧ 0 < mm_nf 8 ∧ (mm_fld 8 0).2.2.2 = true := ⟨by decide, by decide +kernel, by decide +kernel⟩
theorem fq_8_1 : 8 < 10 ∧ 1 < mm_nf 8 ∧ (mm_fld 8 1).2.2.2 = true := ⟨by decide, by decide +kernel, by decide +kernel⟩
theorem fq_8_10 : 8 < 10 ∧ 10 < mm_nf 8 ∧ (mm_fld 8 10).2.2.2 = true := ⟨by decide, by decide +kernel, by decide +kernel⟩
theorem fq_8_11 : 8 < 10 ∧ 11 < mm_nf 8 ∧ (mm_fld 8 11).2.2.2 = true := ⟨by decide, by decide +kernel, by decide +kernel⟩
theorem fq_8_12 : 8 < 10 ∧ 12 < mm_nf 8 ∧ (mm_fld 8 12).2.2.2 = true := ⟨by decide, by decide +kernel, by decide +kernel⟩
theorem fq_8_13 : 8 < 10 ∧ 13 < mm_nf 8 ∧ (mm_fld 8 13).2.2.2 = true := ⟨by decide, by decide +kernel, by decide +kernel⟩
theorem fq_8_14 : 8 < 10 ∧ 14 < mm_nf 8 ∧ (mm_fld 8 14).2.2.2 = false := ⟨by decide, by decide +kernel, by decide +kernel⟩
theorem fq_8_15 : 8 < 10 ∧ 15 < mm_nf 8 ∧ (mm_fld 8 15).2.2.2 = false := ⟨by decide, by decide +kernel, by decide +kernel⟩
theorem fq_8_16 : 8 < 10 ∧ 16 < mm_nf 8 ∧ (mm_fld 8 16).2.2.2 = false := ⟨by decide, by decide +kernel, by decide +kernel⟩
theorem fq_8_17 : 8 < 10 ∧ 17 < mm_nf 8 ∧ (mm_fld 8 17).2.2.2 = false := ⟨by decide, by decide +kernel, by decide +kernel⟩
theorem fq_8_18 : 8 < 10 ∧ 18 < mm_nf 8 ∧ (mm_fld 8 18).2.2.2 = false := ⟨by decide, by decide +kernel, by decide +kernel⟩
theorem fq_8_19 : 8 < 10 ∧ 19 < mm_nf 8 ∧ (mm_fld 8 19).2.2.2 = false := ⟨by decide, by decide +kernel, by decide +kernel⟩
theorem fq_8_2 : 8 < 10 ∧ 2 < mm_nf 8 ∧ (mm_fld 8 2).2.2.2 = true := ⟨by decide, by decide +kernel, by decide +kernel⟩
theorem fq_8_3 : 8 < 10 ∧ 3 < mm_nf 8 ∧ (mm_fld 8 3).2.2.2 = true := ⟨by decide, by decide +kernel, by decide +kernel⟩
theorem fq_8_4 : 8 < 10 ∧ 4 < mm_nf 8 ∧ (mm_fld 8 4).2.2.2 = true := ⟨by decide, by decide +kernel, by decide +kernel⟩
theorem fq_8_5 : 8 < 10 ∧ 5 < mm_nf 8 ∧ (mm_fld 8 5).2.2.2 = true := ⟨by decide, by decide +kernel, by decide +kernel⟩
theorem fq_8_6 : 8 < 10 ∧ 6 < mm_nf 8 ∧ (mm_fld 8 6).2.2.2 = true := ⟨by decide, by decide +kernel, by decide +kernel⟩
theorem fq_8_7 : 8 < 10 ∧ 7 < mm_nf 8 ∧ (mm_fld 8 7).2.2.2 = true := ⟨by decide, by decide +kernel, by decide +kernel⟩
theorem fq_8_8 : 8 < 10 ∧ 8 < mm_nf 8 ∧ (mm_fld 8 8).2.2.2 = true := ⟨by decide, by decide +kernel, by decide +kernel⟩
theorem fq_8_9 : 8 < 10 ∧ 9 < mm_nf 8 ∧ (mm_fld 8 9).2.2.2 = true := ⟨by decide, by decide +kernel, by decide +kernel⟩
theorem fq_9_10 : 9 < 10 ∧ 10 < mm_nf 9 ∧ (mm_fld 9 10).2.2.2 = true := ⟨by decide, by decide +kernel, by decide +kernel⟩
theorem fq_9_11 : 9 < 10 ∧ 11 < mm_nf 9 ∧ (mm_fld 9 11).2.2.2 = true := ⟨by decide, by decide +kernel, by decide +kernel⟩
theorem fq_9_12 : 9 < 10 ∧ 12 < mm_nf 9 ∧ (mm_fld 9 12).2.2.2 = true := ⟨by decide, by decide +kernel, by decide +kernel⟩
theorem fq_9_13 : 9 < 10 ∧ 13 < mm_nf 9 ∧ (mm_fld 9 13).2.2.2 = true := ⟨by decide, by decide +kernel, by decide +kernel⟩
theorem fq_9_14 : 9 < 10 ∧ 14 < mm_nf 9 ∧ (mm_fld 9 14).2.2.2 = true := ⟨by decide, by decide +kernel, by decide +kernel⟩
theorem fq_9_15 : 9 < 10 ∧ 15 < mm_nf 9 ∧ (mm_fld 9 15).2.2.2 = true := ⟨by decide, by decide +kernel, by decide +kernel⟩
theorem fq_9_16 : 9 < 10 ∧ 16 < mm_nf 9 ∧ (mm_fld 9 16).2.2.2 = true := ⟨by decide, by decide +kernel, by decide +kernel⟩
theorem fq_9_17 : 9 < 10 ∧ 17 < mm_nf 9 ∧ (mm_fld 9 17).2.2.2 = true := ⟨by decide, by decide +kernel, by decide +kernel⟩
theorem fq_9_18 : 9 < 10 ∧ 18 < mm_nf 9 ∧ (mm_fld 9 18).2.2.2 = true := ⟨by decide, by decide +kernel, by decide +kernel⟩
theorem fq_9_19 : 9 < 10 ∧ 19 < mm_nf 9 ∧ (mm_fld 9 19).2.2.2 = true := ⟨by decide, by decide +kernel, by decide +kernel⟩
theorem fq_9_2 : 9 < 10 ∧ 2 < mm_nf 9 ∧ (mm_fld 9 2).2.2.2 = true := ⟨by decide, by decide +kernel, by decide +kernel⟩
theorem fq_9_20 : 9 < 10 ∧ 20 < mm_nf 9 ∧ (mm_fld 9 20).2.2.2 = true := ⟨by decide, by decide +kernel, by decide +kernel⟩
theorem fq_9_21 : 9 < 10 ∧ 21 < mm_nf 9 ∧ (mm_fld 9 21).2.2.2 = true := ⟨by decide, by decide +kernel, by decide +kernel⟩
theorem fq_9_22 : 9 < 10 ∧ 22 < mm_nf 9 ∧ (mm_fld 9 22).2.2.2 = true := ⟨by decide, by decide +kernel, by decide +kernel⟩
theorem fq_9_23 : 9 < 10 ∧ 23 < mm_nf 9 ∧ (mm_fld 9 23).2.2.2 = true := ⟨by decide, by decide +kernel, by decide +kernel⟩
theorem fq_9_24 : 9 < 10 ∧ 24 < mm_nf 9 ∧ (mm_fld 9 24).2.2.2 = true := ⟨by decide, by decide +kernel, by decide +kernel⟩
theorem fq_9_25 : 9 < 10 ∧ 25 < mm_nf 9 ∧ (mm_fld 9 25).2.2.2 = true := ⟨by decide, by decide +kernel, by decide +kernel⟩
theorem fq_9_26 : 9 < 10 ∧ 26 < mm_nf 9 ∧ (mm_fld 9 26).2.2.2 = true := ⟨by decide, by decide +kernel, by decide +kernel⟩
theorem fq_9_27 : 9 < 10 ∧ 27 < mm_nf 9 ∧ (mm_fld 9 27).2.2.2 = true := ⟨by decide, by decide +kernel, by decide +kernel⟩
theorem fq_9_29 : 9 < 10 ∧ 29 < mm_nf 9 ∧ (mm_fld 9 29).2.2.2 = true := ⟨by decide, by decide +kernel, by decide +kernel⟩
theorem fq_9_30 : 9 < 10 ∧ 30 < mm_nf 9 ∧ (mm_fld 9 30).2.2.2 = true := ⟨by decide, by decide +kernel, by decide +kernel⟩
theorem fq_9_31 : 9 < 10 ∧ 31 < mm_nf 9 ∧ (mm_fld 9 31).2.2.2 = true := ⟨by decide, by decide +kernel, by decide +kernel⟩
theorem fq_9_32 : 9 < 10 ∧ 32 < mm_nf 9 ∧ (mm_fld 9 32).2.2.2 = true := ⟨by decide, by decide +kernel, by decide +kernel⟩
theorem fq_9_33 : 9 < 10 ∧ 33 < mm_nf 9 ∧ (mm_fld 9 33).2.2.2 = true := ⟨by decide, by decide +kernel, by decide +kernel⟩
theorem fq_9_34 : 9 < 10 ∧ 34 < mm_nf 9 ∧ (mm_fld 9 34).2.2.2 = true := ⟨by decide, by decide +kernel, by decide +kernel⟩
theorem fq_9_35 : 9 < 10 ∧ 35 < mm_nf 9 ∧ (mm_fld 9 35).2.2.2 = true := ⟨by decide, by decide +kernel, by decide +kernel⟩
theorem fq_9_36 : 9 < 10 ∧ 36 < mm_nf 9 ∧ (mm_fld 9 36).2.2.2 = true := ⟨by decide, by decide +kernel, by decide +kernel⟩
theorem fq_9_37 : 9 < 10 ∧ 37 < mm_nf 9 ∧ (mm_fld 9 37).2.2.2 = true := ⟨by decide, by decide +kernel, by decide +kernel⟩
theorem fq_9_38 : 9 < 10 ∧ 38 < mm_nf 9 ∧ (mm_fld 9 38).2.2.2 = true := ⟨by decide, by decide +kernel, by decide +kernel⟩
theorem fq_9_39 : 9 < 10 ∧ 39 < mm_nf 9 ∧ (mm_fld 9 39).2.2.2 = true := ⟨by decide, by decide +kernel, by decide +kernel⟩
theorem fq_9_40 : 9 < 10 ∧ 40 < mm_nf 9 ∧ (mm_fld 9 40).2.2.2 = true := ⟨by decide, by decide +kernel, by decide +kernel⟩
theorem fq_9_42 : 9 < 10 ∧ 42 < mm_nf 9 ∧ (mm_fld 9 42).2.2.2 = true := ⟨by decide, by decide +kernel, by decide +kernel⟩
theorem fq_9_43 : 9 < 10 ∧ 43 < mm_nf 9 ∧ (mm_fld 9 43).2.2.2 = true := ⟨by decide, by decide +kernel, by decide +kernel⟩
theorem fq_9_44 : 9 < 10 ∧ 44 < mm_nf 9 ∧ (mm_fld 9 44).2.2.2 = true := ⟨by decide, by decide +kernel, by decide +kernel⟩
theorem fq_9_45 : 9 < 10 ∧ 45 < mm_nf 9 ∧ (mm_fld 9 45).2.2.2 = true := ⟨by decide, by decide +kernel, by decide +kernel⟩
theorem fq_9_46 : 9 < 10 ∧ 46 < mm_nf 9 ∧ (mm_fld 9 46).2.2.2 = true := ⟨by decide, by decide +kernel, by decide +kernel⟩
theorem fq_9_47 : 9 < 10 ∧ 47 < mm_nf 9 ∧ (mm_fld 9 47).2.2.2 = true := ⟨by decide, by decide +kernel, by decide +kernel⟩
theorem fq_9_48 : 9 < 10 ∧ 48 < mm_nf 9 ∧ (mm_fld 9 48).2.2.2 = true := ⟨by decide, by decide +kernel, by decide +kernel⟩
theorem fq_9_49 : 9 < 10 ∧ 49 < mm_nf 9 ∧ (mm_fld 9 49).2.2.2 = true := ⟨by decide, by decide +kernel, by decide +kernel⟩
theorem fq_9_50 : 9 < 10 ∧ 50 < mm_nf 9 ∧ (mm_fld 9 50).2.2.2 = true := ⟨by decide, by decide +kernel, by decide +kernel⟩
theorem fq_9_51 : 9 < 10 ∧ 51 < mm_nf 9 ∧ (mm_fld 9 51).2.2.2 = true := ⟨by decide, by decide +kernel, by decide +kernel⟩
theorem fq_9_52 : 9 < 10 ∧ 52 < mm_nf 9 ∧ (mm_fld 9 52).2.2.2 = true := ⟨by decide, by decide +kernel, by decide +kernel⟩
theorem fq_9_53 : 9 < 10 ∧ 53 < mm_nf 9 ∧ (mm_fld 9 53).2.2.2 = true := ⟨by decide, by decide +kernel, by decide +kernel⟩
theorem fq_9_54 : 9 < 10 ∧ 54 < mm_nf 9 ∧ (mm_fld 9 54).2.2.2 = true := ⟨by decide, by decide +kernel, by decide +kernel⟩
theorem fq_9_56 : 9 < 10 ∧ 56 < mm_nf 9 ∧ (mm_fld 9 56).2.2.2 = true := ⟨by decide, by decide +kernel, by decide +kernel⟩
theorem fq_9_57 : 9 < 10 ∧ 57 < mm_nf 9 ∧ (mm_fld 9 57).2.2.2 = true := ⟨by decide, by decide +kernel, by decide +kernel⟩
theorem fq_9_58 : 9 < 10 ∧ 58 < mm_nf 9 ∧ (mm_fld 9 58).2.2.2 = true := ⟨by decide, by decide +kernel, by decide +kernel⟩
theorem fq_9_59 : 9 < 10 ∧ 59 < mm_nf 9 ∧ (mm_fld 9 59).2.2.2 = true := ⟨by decide, by decide +kernel, by decide +kernel⟩
theorem fq_9_62 : 9 < 10 ∧ 62 < mm_nf 9 ∧ (mm_fld 9 62).2.2.2 = true := ⟨by decide, by decide +kernel, by decide +kernel⟩
theorem fq_9_63 : 9 < 10 ∧ 63 < mm_nf 9 ∧ (mm_fld 9 63).2.2.2 = true := ⟨by decide, by decide +kernel, by decide +kernel⟩
theorem fq_9_64 : 9 < 10 ∧ 64 < mm_nf 9 ∧ (mm_fld 9 64).2.2.2 = true := ⟨by decide, by decide +kernel, by decide +kernel⟩
theorem fq_9_65 : 9 < 10 ∧ 65 < mm_nf 9 ∧ (mm_fld 9 65).2.2.2 = true := ⟨by decide, by decide +kernel, by decide +kernel⟩
theorem fq_9_66 : 9 < 10 ∧ 66 < mm_nf 9 ∧ (mm_fld 9 66).2.2.2 = true := ⟨by decide, by decide +kernel, by decide +kernel⟩
theorem fq_9_67 : 9 < 10 ∧ 67 < mm_nf 9 ∧ (mm_fld 9 67).2.2.2 = true := ⟨by decide, by decide +kernel, by decide +kernel⟩
theorem n32_10 : Int32.toNatClampNeg 10 = 10 ∧ ¬ (10 : Int32) < 0 := ⟨by decide +kernel, by decide +kernel⟩
theorem n32_1000 : Int32.toNatClampNeg 1000 = 1000 ∧ ¬ (1000 : Int32) < 0 := ⟨by decide +kernel, by decide +kernel⟩
theorem n32_1024 : Int32.toNatClampNeg 1024 = 1024 ∧ ¬ (1024 : Int32) < 0 := ⟨by decide +kernel, by decide +kernel⟩
theorem n32_12 : Int32.toNatClampNeg 12 = 12 ∧ ¬ (12 : Int32) < 0 := ⟨by decide +kernel, by decide +kernel⟩
theorem n32_123 : Int32.toNatClampNeg 123 = 123 ∧ ¬ (123 : Int32) < 0 := ⟨by decide +kernel, by decide +kernel⟩
theorem n32_16 : Int32.toNatClampNeg 16 = 16 ∧ ¬ (16 : Int32) < 0 := ⟨by decide +kernel, by decide +kernel⟩
theorem n32_180 : Int32.toNatClampNeg 180 = 180 ∧ ¬ (180 : Int32) < 0 := ⟨by decide +kernel, by decide +kernel⟩
theorem n32_1968 : Int32.toNatClampNeg 1968 = 1968 ∧ ¬ (1968 : Int32) < 0 := ⟨by decide +kernel, by decide +kernel⟩
theorem n32_2 : Int32.toNatClampNeg 2 = 2 ∧ ¬ (2 : Int32) < 0 := ⟨by decide +kernel, by decide +kernel⟩
theorem n32_20 : Int32.toNatClampNeg 20 = 20 ∧ ¬ (20 : Int32) < 0 := ⟨by decide +kernel, by decide +kernel⟩
theorem n32_2000 : Int32.toNatClampNeg 2000 = 2000 ∧ ¬ (2000 : Int32) < 0 := ⟨by decide +kernel, by decide +kernel⟩
theorem n32_24 : Int32.toNatClampNeg 24 = 24 ∧ ¬ (24 : Int32) < 0 := ⟨by decide +kernel, by decide +kernel⟩
theorem n32_246 : Int32.toNatClampNeg 246 = 246 ∧ ¬ (246 : Int32) < 0 := ⟨by decide +kernel, by decide +kernel⟩
theorem n32_3 : Int32.toNatClampNeg 3 = 3 ∧ ¬ (3 : Int32) < 0 := ⟨by decide +kernel, by decide +kernel⟩
theorem n32_30 : Int32.toNatClampNeg 30 = 30 ∧ ¬ (30 : Int32) < 0 := ⟨by decide +kernel, by decide +kernel⟩
theorem n32_36 : Int32.toNatClampNeg 36 = 36 ∧ ¬ (36 : Int32) < 0 := ⟨by decide +kernel, by decide +kernel⟩
theorem n32_4 : Int32.toNatClampNeg 4 = 4 ∧ ¬ (4 : Int32) < 0 := ⟨by decide +kernel, by decide +kernel⟩
theorem n32_492 : Int32.toNatClampNeg 492 = 492 ∧ ¬ (492 : Int32) < 0 := ⟨by decide +kernel, by decide +kernel⟩
theorem n32_5 : Int32.toNatClampNeg 5 = 5 ∧ ¬ (5 : Int32) < 0 := ⟨by decide +kernel, by decide +kernel⟩
theorem n32_50 : Int32.toNatClampNeg 50 = 50 ∧ ¬ (50 : Int32) < 0 := ⟨by decide +kernel, by decide +kernel⟩
theorem n32_6 : Int32.toNatClampNeg 6 = 6 ∧ ¬ (6 : Int32) < 0 := ⟨by decide +kernel, by decide +kernel⟩
theorem n32_60 : Int32.toNatClampNeg 60 = 60 ∧ ¬ (60 : Int32) < 0 := ⟨by decide +kernel, by decide +kernel⟩
theorem n32_6144 : Int32.toNatClampNeg 6144 = 6144 ∧ ¬ (6144 : Int32) < 0 := ⟨by decide +kernel, by decide +kernel⟩
theorem n32_64 : Int32.toNatClampNeg 64 = 64 ∧ ¬ (64 : Int32) < 0 := ⟨by decide +kernel, by decide +kernel⟩
theorem n32_65536 : Int32.toNatClampNeg 65536 = 65536 ∧ ¬ (65536 : Int32) < 0 := ⟨by decide +kernel, by decide +kernel⟩
theorem n32_7 : Int32.toNatClampNeg 7 = 7 ∧ ¬ (7 : Int32) < 0 := ⟨by decide +kernel, by decide +kernel⟩
theorem n32_70 : Int32.toNatClampNeg 70 = 70 ∧ ¬ (70 : Int32) < 0 := ⟨by decide +kernel, by decide +kernel⟩
theorem n32_8 : Int32.toNatClampNeg 8 = 8 ∧ ¬ (8 : Int32) < 0 := ⟨by decide +kernel, by decide +kernel⟩
theorem nt_0_0 : mm_ty 0 0 = .array (.int) := rfl
theorem nt_0_1 : mm_ty 0 1 = .array (.long) := rfl
theorem nt_0_2 : mm_ty 0 2 = .array (.int) := rfl
theorem nt_1_0 : mm_ty 1 0 = .array (.int) := rfl
theorem nt_1_1 : mm_ty 1 1 = .array (.int) := rfl
theorem nt_1_2 : mm_ty 1 2 = .int := rfl
theorem nt_2_0 : mm_ty 2 0 = .array (.int) := rfl
theorem nt_2_1 : mm_ty 2 1 = .array (.int) := rfl
theorem nt_2_2 : mm_ty 2 2 = .int := rfl
theorem nt_3_0 : mm_ty 3 0 = .array (.long) := rfl
theorem nt_3_1 : mm_ty 3 1 = .array (.long) := rfl
theorem nt_3_2 : mm_ty 3 2 = .array (.long) := rfl
theorem nt_3_3 : mm_ty 3 3 = .array (.int) := rfl
theorem nt_4_0 : mm_ty 4 0 = .array (.int) := rfl
theorem nt_4_1 : mm_ty 4 1 = .array (.long) := rfl
theorem nt_4_2 : mm_ty 4 2 = .array (.int) := rfl
theorem nt_4_3 : mm_ty 4 3 = .array (.int) := rfl
theorem nt_4_4 : mm_ty 4 4 = .array (.int) := rfl
theorem nt_4_5 : mm_ty 4 5 = .int := rfl
theorem nt_4_6 : mm_ty 4 6 = .int := rfl
theorem nt_4_7 : mm_ty 4 7 = .int := rfl
theorem nt_4_8 : mm_ty 4 8 = .int := rfl
theorem nt_4_9 : mm_ty 4 9 = .int := rfl
theorem nt_5_0 : mm_ty 5 0 = .int := rfl
theorem nt_5_1 : mm_ty 5 1 = .array (.int) := rfl
theorem nt_5_2 : mm_ty 5 2 = .array (.int) := rfl
theorem nt_5_3 : mm_ty 5 3 = .array (.int) := rfl
theorem nt_5_4 : mm_ty 5 4 = .array (.int) := rfl
theorem nt_5_5 : mm_ty 5 5 = .int := rfl
theorem nt_5_6 : mm_ty 5 6 = .array (.int) := rfl
theorem nt_5_7 : mm_ty 5 7 = .array (.int) := rfl
theorem nt_6_0 : mm_ty 6 0 = .array (.char) := rfl
theorem nt_6_1 : mm_ty 6 1 = .int := rfl
theorem nt_6_2 : mm_ty 6 2 = .int := rfl
theorem nt_6_3 : mm_ty 6 3 = .int := rfl
theorem nt_6_4 : mm_ty 6 4 = .int := rfl
theorem nt_6_5 : mm_ty 6 5 = .int := rfl
theorem nt_6_6 : mm_ty 6 6 = .long := rfl
theorem nt_6_7 : mm_ty 6 7 = .object "PaidSecrets$Word" := rfl
theorem nt_6_8 : mm_ty 6 8 = .char := rfl
theorem nt_6_9 : mm_ty 6 9 = .int := rfl
theorem nt_7_0 : mm_ty 7 0 = .int := rfl
theorem nt_7_1 : mm_ty 7 1 = .array (.long) := rfl
theorem nt_7_10 : mm_ty 7 10 = .array (.int) := rfl
theorem nt_7_11 : mm_ty 7 11 = .array (.int) := rfl
theorem nt_7_12 : mm_ty 7 12 = .array (.int) := rfl
theorem nt_7_13 : mm_ty 7 13 = .int := rfl
theorem nt_7_14 : mm_ty 7 14 = .array (.int) := rfl
theorem nt_7_15 : mm_ty 7 15 = .array (.int) := rfl
theorem nt_7_16 : mm_ty 7 16 = .array (.int) := rfl
theorem nt_7_17 : mm_ty 7 17 = .int := rfl
theorem nt_7_18 : mm_ty 7 18 = .array (.int) := rfl
theorem nt_7_19 : mm_ty 7 19 = .object "PaidSecrets$Law" := rfl
theorem nt_7_2 : mm_ty 7 2 = .array (.int) := rfl
theorem nt_7_3 : mm_ty 7 3 = .array (.int) := rfl
theorem nt_7_4 : mm_ty 7 4 = .array (.int) := rfl
theorem nt_7_5 : mm_ty 7 5 = .int := rfl
theorem nt_7_6 : mm_ty 7 6 = .int := rfl
theorem nt_7_7 : mm_ty 7 7 = .array (.long) := rfl
theorem nt_7_8 : mm_ty 7 8 = .int := rfl
theorem nt_7_9 : mm_ty 7 9 = .array (.int) := rfl
theorem nt_8_0 : mm_ty 8 0 = .object "PaidSecrets$Tape" := rfl
theorem nt_8_1 : mm_ty 8 1 = .object "PaidSecrets$State" := rfl
theorem nt_8_10 : mm_ty 8 10 = .object "PaidSecrets$Nights" := rfl
theorem nt_8_11 : mm_ty 8 11 = .array (.int) := rfl
theorem nt_8_12 : mm_ty 8 12 = .array (.int) := rfl
theorem nt_8_13 : mm_ty 8 13 = .array (.int) := rfl
theorem nt_8_14 : mm_ty 8 14 = .object "PaidSecrets$Town" := rfl
theorem nt_8_15 : mm_ty 8 15 = .object "PaidSecrets$Town" := rfl
theorem nt_8_16 : mm_ty 8 16 = .int := rfl
theorem nt_8_17 : mm_ty 8 17 = .int := rfl
theorem nt_8_18 : mm_ty 8 18 = .int := rfl
theorem nt_8_19 : mm_ty 8 19 = .long := rfl
theorem nt_8_2 : mm_ty 8 2 = .object "PaidSecrets$State" := rfl
theorem nt_8_3 : mm_ty 8 3 = .object "PaidSecrets$Talk" := rfl
theorem nt_8_4 : mm_ty 8 4 = .object "PaidSecrets$Talk" := rfl
theorem nt_8_5 : mm_ty 8 5 = .array (.object "PaidSecrets$State") := rfl
theorem nt_8_6 : mm_ty 8 6 = .array (.object "PaidSecrets$State") := rfl
theorem nt_8_7 : mm_ty 8 7 = .array (.object "PaidSecrets$Talk") := rfl
theorem nt_8_8 : mm_ty 8 8 = .object "PaidSecrets$Collector" := rfl
theorem nt_8_9 : mm_ty 8 9 = .object "PaidSecrets$Feast" := rfl
theorem nt_9_10 : mm_ty 9 10 = .array (.int) := rfl
theorem nt_9_11 : mm_ty 9 11 = .array (.long) := rfl
theorem nt_9_12 : mm_ty 9 12 = .array (.long) := rfl
theorem nt_9_13 : mm_ty 9 13 = .array (.int) := rfl
theorem nt_9_14 : mm_ty 9 14 = .array (.int) := rfl
theorem nt_9_15 : mm_ty 9 15 = .array (.int) := rfl
theorem nt_9_16 : mm_ty 9 16 = .array (.int) := rfl
theorem nt_9_17 : mm_ty 9 17 = .array (.int) := rfl
theorem nt_9_18 : mm_ty 9 18 = .array (.int) := rfl
theorem nt_9_19 : mm_ty 9 19 = .array (.int) := rfl
theorem nt_9_2 : mm_ty 9 2 = .array (.int) := rfl
theorem nt_9_20 : mm_ty 9 20 = .array (.int) := rfl
theorem nt_9_21 : mm_ty 9 21 = .array (.int) := rfl
theorem nt_9_22 : mm_ty 9 22 = .array (.int) := rfl
theorem nt_9_23 : mm_ty 9 23 = .array (.int) := rfl
theorem nt_9_24 : mm_ty 9 24 = .array (.int) := rfl
theorem nt_9_25 : mm_ty 9 25 = .array (.int) := rfl
theorem nt_9_26 : mm_ty 9 26 = .array (.int) := rfl
theorem nt_9_27 : mm_ty 9 27 = .array (.int) := rfl
theorem nt_9_29 : mm_ty 9 29 = .array (.int) := rfl
theorem nt_9_30 : mm_ty 9 30 = .array (.boolean) := rfl
theorem nt_9_31 : mm_ty 9 31 = .array (.int) := rfl
theorem nt_9_32 : mm_ty 9 32 = .array (.int) := rfl
theorem nt_9_33 : mm_ty 9 33 = .array (.int) := rfl
theorem nt_9_34 : mm_ty 9 34 = .array (.int) := rfl
theorem nt_9_35 : mm_ty 9 35 = .array (.int) := rfl
theorem nt_9_36 : mm_ty 9 36 = .array (.int) := rfl
theorem nt_9_37 : mm_ty 9 37 = .array (.int) := rfl
theorem nt_9_38 : mm_ty 9 38 = .array (.int) := rfl
theorem nt_9_39 : mm_ty 9 39 = .array (.int) := rfl
theorem nt_9_40 : mm_ty 9 40 = .array (.int) := rfl
theorem nt_9_42 : mm_ty 9 42 = .array (.int) := rfl
theorem nt_9_43 : mm_ty 9 43 = .array (.int) := rfl
theorem nt_9_44 : mm_ty 9 44 = .array (.int) := rfl
theorem nt_9_45 : mm_ty 9 45 = .array (.int) := rfl
theorem nt_9_46 : mm_ty 9 46 = .array (.int) := rfl
theorem nt_9_47 : mm_ty 9 47 = .array (.int) := rfl
theorem nt_9_48 : mm_ty 9 48 = .array (.int) := rfl
theorem nt_9_49 : mm_ty 9 49 = .array (.boolean) := rfl
theorem nt_9_50 : mm_ty 9 50 = .array (.int) := rfl
theorem nt_9_51 : mm_ty 9 51 = .array (.int) := rfl
theorem nt_9_52 : mm_ty 9 52 = .array (.int) := rfl
theorem nt_9_53 : mm_ty 9 53 = .array (.int) := rfl
theorem nt_9_54 : mm_ty 9 54 = .array (.boolean) := rfl
theorem nt_9_56 : mm_ty 9 56 = .array (.boolean) := rfl
theorem nt_9_57 : mm_ty 9 57 = .array (.boolean) := rfl
theorem nt_9_58 : mm_ty 9 58 = .array (.int) := rfl
theorem nt_9_59 : mm_ty 9 59 = .array (.int) := rfl
theorem nt_9_62 : mm_ty 9 62 = .array (.int) := rfl
theorem nt_9_63 : mm_ty 9 63 = .array (.int) := rfl
theorem nt_9_64 : mm_ty 9 64 = .array (.int) := rfl
theorem nt_9_65 : mm_ty 9 65 = .array (.int) := rfl
theorem nt_9_66 : mm_ty 9 66 = .array (.int) := rfl
theorem nt_9_67 : mm_ty 9 67 = .array (.int) := rfl
theorem sp_180 : (Int16.ofInt 180).toInt32 = 180 := by decide +kernel
theorem sp_1968 : (Int16.ofInt 1968).toInt32 = 1968 := by decide +kernel
theorem sp_2000 : (Int16.ofInt 2000).toInt32 = 2000 := by decide +kernel
theorem sp_246 : (Int16.ofInt 246).toInt32 = 246 := by decide +kernel
theorem sp_492 : (Int16.ofInt 492).toInt32 = 492 := by decide +kernel
theorem sp_6144 : (Int16.ofInt 6144).toInt32 = 6144 := by decide +kernel
theorem tg_79 : mm_tg 79 = 7 := by decide +kernel
theorem tg_96 : mm_tg 96 = 7 := by decide +kernel
theorem toks_0 : mm_tok 0 := ⟨fun k h => tyX0_ok k h, fun a ha b hb => nmX0 a ha b hb⟩
theorem toks_3 : mm_tok 3 := ⟨fun k h => tyX4_ok k h, fun a ha b hb => nmX4 a ha b hb⟩
