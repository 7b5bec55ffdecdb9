theorem d_X_init_0 : decode cX11_init 0 = .ok (.aload_n 0, 1) := by decide +kernel
theorem d_X_init_1 : decode cX11_init 1 = .ok (.invokespecial 3, 3) := by decide +kernel
theorem d_X_init_4 : decode cX11_init 4 = .ok (.aload_n 0, 1) := by decide +kernel
theorem d_X_init_5 : decode cX11_init 5 = .ok (.new 9, 3) := by decide +kernel
theorem d_X_init_8 : decode cX11_init 8 = .ok (.dup, 1) := by decide +kernel
theorem d_X_init_9 : decode cX11_init 9 = .ok (.invokespecial 11, 3) := by decide +kernel
theorem d_X_init_12 : decode cX11_init 12 = .ok (.putfield 12, 3) := by decide +kernel
theorem d_X_init_15 : decode cX11_init 15 = .ok (.aload_n 0, 1) := by decide +kernel
theorem d_X_init_16 : decode cX11_init 16 = .ok (.new 16, 3) := by decide +kernel
theorem d_X_init_19 : decode cX11_init 19 = .ok (.dup, 1) := by decide +kernel
theorem d_X_init_20 : decode cX11_init 20 = .ok (.invokespecial 18, 3) := by decide +kernel
theorem d_X_init_23 : decode cX11_init 23 = .ok (.putfield 19, 3) := by decide +kernel
theorem d_X_init_26 : decode cX11_init 26 = .ok (.aload_n 0, 1) := by decide +kernel
theorem d_X_init_27 : decode cX11_init 27 = .ok (.new 16, 3) := by decide +kernel
theorem d_X_init_30 : decode cX11_init 30 = .ok (.dup, 1) := by decide +kernel
theorem d_X_init_31 : decode cX11_init 31 = .ok (.invokespecial 18, 3) := by decide +kernel
theorem d_X_init_34 : decode cX11_init 34 = .ok (.putfield 23, 3) := by decide +kernel
theorem d_X_init_37 : decode cX11_init 37 = .ok (.aload_n 0, 1) := by decide +kernel
theorem d_X_init_38 : decode cX11_init 38 = .ok (.new 26, 3) := by decide +kernel
theorem d_X_init_41 : decode cX11_init 41 = .ok (.dup, 1) := by decide +kernel
theorem d_X_init_42 : decode cX11_init 42 = .ok (.invokespecial 28, 3) := by decide +kernel
theorem d_X_init_45 : decode cX11_init 45 = .ok (.putfield 29, 3) := by decide +kernel
theorem d_X_init_48 : decode cX11_init 48 = .ok (.aload_n 0, 1) := by decide +kernel
theorem d_X_init_49 : decode cX11_init 49 = .ok (.new 26, 3) := by decide +kernel
theorem d_X_init_52 : decode cX11_init 52 = .ok (.dup, 1) := by decide +kernel
theorem d_X_init_53 : decode cX11_init 53 = .ok (.invokespecial 28, 3) := by decide +kernel
theorem d_X_init_56 : decode cX11_init 56 = .ok (.putfield 33, 3) := by decide +kernel
theorem d_X_init_59 : decode cX11_init 59 = .ok (.aload_n 0, 1) := by decide +kernel
theorem d_X_init_60 : decode cX11_init 60 = .ok (.bipush 16, 2) := by decide +kernel
theorem d_X_init_62 : decode cX11_init 62 = .ok (.anewarray 16, 3) := by decide +kernel
theorem d_X_init_65 : decode cX11_init 65 = .ok (.putfield 36, 3) := by decide +kernel
theorem d_X_init_68 : decode cX11_init 68 = .ok (.aload_n 0, 1) := by decide +kernel
theorem d_X_init_69 : decode cX11_init 69 = .ok (.iconst 4, 1) := by decide +kernel
theorem d_X_init_70 : decode cX11_init 70 = .ok (.anewarray 16, 3) := by decide +kernel
theorem d_X_init_73 : decode cX11_init 73 = .ok (.putfield 40, 3) := by decide +kernel
theorem d_X_init_76 : decode cX11_init 76 = .ok (.aload_n 0, 1) := by decide +kernel
theorem d_X_init_77 : decode cX11_init 77 = .ok (.iconst 4, 1) := by decide +kernel
theorem d_X_init_78 : decode cX11_init 78 = .ok (.anewarray 26, 3) := by decide +kernel
theorem d_X_init_81 : decode cX11_init 81 = .ok (.putfield 43, 3) := by decide +kernel
theorem d_X_init_84 : decode cX11_init 84 = .ok (.aload_n 0, 1) := by decide +kernel
theorem d_X_init_85 : decode cX11_init 85 = .ok (.new 47, 3) := by decide +kernel
theorem d_X_init_88 : decode cX11_init 88 = .ok (.dup, 1) := by decide +kernel
theorem d_X_init_89 : decode cX11_init 89 = .ok (.invokespecial 49, 3) := by decide +kernel
theorem d_X_init_92 : decode cX11_init 92 = .ok (.putfield 50, 3) := by decide +kernel
theorem d_X_init_95 : decode cX11_init 95 = .ok (.aload_n 0, 1) := by decide +kernel
theorem d_X_init_96 : decode cX11_init 96 = .ok (.new 54, 3) := by decide +kernel
theorem d_X_init_99 : decode cX11_init 99 = .ok (.dup, 1) := by decide +kernel
theorem d_X_init_100 : decode cX11_init 100 = .ok (.invokespecial 56, 3) := by decide +kernel
theorem d_X_init_103 : decode cX11_init 103 = .ok (.putfield 57, 3) := by decide +kernel
theorem d_X_init_106 : decode cX11_init 106 = .ok (.aload_n 0, 1) := by decide +kernel
theorem d_X_init_107 : decode cX11_init 107 = .ok (.new 61, 3) := by decide +kernel
theorem d_X_init_110 : decode cX11_init 110 = .ok (.dup, 1) := by decide +kernel
theorem d_X_init_111 : decode cX11_init 111 = .ok (.invokespecial 63, 3) := by decide +kernel
theorem d_X_init_114 : decode cX11_init 114 = .ok (.putfield 64, 3) := by decide +kernel
theorem d_X_init_117 : decode cX11_init 117 = .ok (.aload_n 0, 1) := by decide +kernel
theorem d_X_init_118 : decode cX11_init 118 = .ok (.bipush 10, 2) := by decide +kernel
theorem d_X_init_120 : decode cX11_init 120 = .ok (.newarray .int, 2) := by decide +kernel
theorem d_X_init_122 : decode cX11_init 122 = .ok (.putfield 68, 3) := by decide +kernel
theorem d_X_init_125 : decode cX11_init 125 = .ok (.aload_n 0, 1) := by decide +kernel
theorem d_X_init_126 : decode cX11_init 126 = .ok (.bipush 70, 2) := by decide +kernel
theorem d_X_init_128 : decode cX11_init 128 = .ok (.newarray .int, 2) := by decide +kernel
theorem d_X_init_130 : decode cX11_init 130 = .ok (.putfield 72, 3) := by decide +kernel
theorem d_X_init_133 : decode cX11_init 133 = .ok (.aload_n 0, 1) := by decide +kernel
theorem d_X_init_134 : decode cX11_init 134 = .ok (.iconst 4, 1) := by decide +kernel
theorem d_X_init_135 : decode cX11_init 135 = .ok (.newarray .int, 2) := by decide +kernel
theorem d_X_init_137 : decode cX11_init 137 = .ok (.putfield 75, 3) := by decide +kernel
theorem d_X_init_140 : decode cX11_init 140 = .ok (.aload_n 0, 1) := by decide +kernel
theorem d_X_init_141 : decode cX11_init 141 = .ok (.new 78, 3) := by decide +kernel
theorem d_X_init_144 : decode cX11_init 144 = .ok (.dup, 1) := by decide +kernel
theorem d_X_init_145 : decode cX11_init 145 = .ok (.invokespecial 80, 3) := by decide +kernel
theorem d_X_init_148 : decode cX11_init 148 = .ok (.putfield 81, 3) := by decide +kernel
theorem d_X_init_151 : decode cX11_init 151 = .ok (.aload_n 0, 1) := by decide +kernel
theorem d_X_init_152 : decode cX11_init 152 = .ok (.new 78, 3) := by decide +kernel
theorem d_X_init_155 : decode cX11_init 155 = .ok (.dup, 1) := by decide +kernel
theorem d_X_init_156 : decode cX11_init 156 = .ok (.invokespecial 80, 3) := by decide +kernel
theorem d_X_init_159 : decode cX11_init 159 = .ok (.putfield 85, 3) := by decide +kernel
theorem d_X_init_162 : decode cX11_init 162 = .ok (.aload_n 0, 1) := by decide +kernel
theorem d_X_init_163 : decode cX11_init 163 = .ok (.iconst 0, 1) := by decide +kernel
theorem d_X_init_164 : decode cX11_init 164 = .ok (.putfield 88, 3) := by decide +kernel
theorem d_X_init_167 : decode cX11_init 167 = .ok (.aload_n 0, 1) := by decide +kernel
theorem d_X_init_168 : decode cX11_init 168 = .ok (.iconst 0, 1) := by decide +kernel
theorem d_X_init_169 : decode cX11_init 169 = .ok (.putfield 92, 3) := by decide +kernel
theorem d_X_init_172 : decode cX11_init 172 = .ok (.aload_n 0, 1) := by decide +kernel
theorem d_X_init_173 : decode cX11_init 173 = .ok (.iconst 0, 1) := by decide +kernel
theorem d_X_init_174 : decode cX11_init 174 = .ok (.putfield 95, 3) := by decide +kernel
theorem d_X_init_177 : decode cX11_init 177 = .ok (.aload_n 0, 1) := by decide +kernel
theorem d_X_init_178 : decode cX11_init 178 = .ok (.lconst 0, 1) := by decide +kernel
theorem d_X_init_179 : decode cX11_init 179 = .ok (.putfield 98, 3) := by decide +kernel
theorem d_X_init_211 : decode cX11_init 211 = .ok (.iload_n 1, 1) := by decide +kernel
theorem d_X_init_212 : decode cX11_init 212 = .ok (.iconst 4, 1) := by decide +kernel
theorem d_X_init_213 : decode cX11_init 213 = .ok (.if_icmp .ge 35, 3) := by decide +kernel
theorem d_X_init_248 : decode cX11_init 248 = .ok (.return_, 1) := by decide +kernel
theorem d_X_init_216 : decode cX11_init 216 = .ok (.aload_n 0, 1) := by decide +kernel
theorem d_X_init_217 : decode cX11_init 217 = .ok (.getfield 40, 3) := by decide +kernel
theorem d_X_init_220 : decode cX11_init 220 = .ok (.iload_n 1, 1) := by decide +kernel
theorem d_X_init_221 : decode cX11_init 221 = .ok (.new 16, 3) := by decide +kernel
theorem d_X_init_224 : decode cX11_init 224 = .ok (.dup, 1) := by decide +kernel
theorem d_X_init_225 : decode cX11_init 225 = .ok (.invokespecial 18, 3) := by decide +kernel
theorem d_X_init_228 : decode cX11_init 228 = .ok (.aastore, 1) := by decide +kernel
theorem d_X_init_229 : decode cX11_init 229 = .ok (.aload_n 0, 1) := by decide +kernel
theorem d_X_init_230 : decode cX11_init 230 = .ok (.getfield 43, 3) := by decide +kernel
theorem d_X_init_233 : decode cX11_init 233 = .ok (.iload_n 1, 1) := by decide +kernel
theorem d_X_init_234 : decode cX11_init 234 = .ok (.new 26, 3) := by decide +kernel
theorem d_X_init_237 : decode cX11_init 237 = .ok (.dup, 1) := by decide +kernel
theorem d_X_init_238 : decode cX11_init 238 = .ok (.invokespecial 28, 3) := by decide +kernel
theorem d_X_init_241 : decode cX11_init 241 = .ok (.aastore, 1) := by decide +kernel
theorem d_X_init_242 : decode cX11_init 242 = .ok (.iinc 1 1, 3) := by decide +kernel
theorem d_X_init_245 : decode cX11_init 245 = .ok (.goto (-34), 3) := by decide +kernel
theorem d_X_init_184 : decode cX11_init 184 = .ok (.iload_n 1, 1) := by decide +kernel
theorem d_X_init_185 : decode cX11_init 185 = .ok (.bipush 16, 2) := by decide +kernel
theorem d_X_init_187 : decode cX11_init 187 = .ok (.if_icmp .ge 22, 3) := by decide +kernel
theorem d_X_init_209 : decode cX11_init 209 = .ok (.iconst 0, 1) := by decide +kernel
theorem d_X_init_210 : decode cX11_init 210 = .ok (.istore_n 1, 1) := by decide +kernel
theorem d_X_init_190 : decode cX11_init 190 = .ok (.aload_n 0, 1) := by decide +kernel
theorem d_X_init_191 : decode cX11_init 191 = .ok (.getfield 36, 3) := by decide +kernel
theorem d_X_init_194 : decode cX11_init 194 = .ok (.iload_n 1, 1) := by decide +kernel
theorem d_X_init_195 : decode cX11_init 195 = .ok (.new 16, 3) := by decide +kernel
theorem d_X_init_198 : decode cX11_init 198 = .ok (.dup, 1) := by decide +kernel
theorem d_X_init_199 : decode cX11_init 199 = .ok (.invokespecial 18, 3) := by decide +kernel
theorem d_X_init_202 : decode cX11_init 202 = .ok (.aastore, 1) := by decide +kernel
theorem d_X_init_203 : decode cX11_init 203 = .ok (.iinc 1 1, 3) := by decide +kernel
theorem d_X_init_206 : decode cX11_init 206 = .ok (.goto (-22), 3) := by decide +kernel
theorem d_X_init_182 : decode cX11_init 182 = .ok (.iconst 0, 1) := by decide +kernel
theorem d_X_init_183 : decode cX11_init 183 = .ok (.istore_n 1, 1) := by decide +kernel
theorem C_X_init (V : mm_V) (l : Launch) (a : Nat) (ea : a = 32) (w : Nat → Nat → Value) : MCT V l Y_X_init 6 228 7697 a (mc_df w a) := by
  subst ea
  have L2 : ∀ j i : Nat, i + j = 4 → MC V l Y_X_init 6 228 7697 (mc_Z V (mc_to (mc_df w 32) 32) (32 + 1 + 228) 228 7697) 211 [(1, .int (Int32.ofNat i)), (0, .ref 32)] [] (mc_x w [.ref 33, .ref 35, .ref 41, .ref 47, .ref 54, .ref 61, .ref 62, .ref 63, .ref 64, .ref 68, .ref 71, .ref 76, .ref 77, .ref 78, .ref 79, .ref 96, .int 0, .int 0, .int 0, .long 0] 16 i i) (209 + 13 * i) (176 + 13 * i) (6929 + 192 * i) := by
    intro j
    induction j with
    | zero =>
      intro i hi
      obtain rfl : i = 4 := by omega
      refine MC.iload_n (i := 1) rfl rfl d_X_init_211 rfl ?_
      refine MC.iconst ic_4 d_X_init_212 rfl ?_
      refine MC.icmp_ge (tgt := 248) d_X_init_213 rfl rfl (fun _ => ?_) (fun q => absurd (by decide +kernel) q)
      exact MC.vret (mc_x_fin fin_8) rfl d_X_init_248
    | succ j ih =>
      intro i hi
      obtain ⟨q1, q2, q3, q4⟩ := mc_i4 i (by omega)
      refine MC.iload_n (i := 1) rfl rfl d_X_init_211 rfl ?_
      refine MC.iconst ic_4 d_X_init_212 rfl ?_
      refine MC.icmp_ge (tgt := 248) d_X_init_213 rfl rfl (fun q => absurd q q1) (fun _ => ?_)
      refine MC.aload_n (i := 0) rfl rfl d_X_init_216 rfl ?_
      refine MC.getR (a := 32) (k := 6) (r := 62) tg_32 (by omega) lays_8 ⟨by decide, by decide +kernel⟩ (by unfold mc_x mc_own; simp) ww_478 d_X_init_217 rfl ?_
      refine MC.iload_n (i := 1) rfl rfl d_X_init_220 rfl ?_
      refine MC.new (nn' := 209 + 13 * i + 1) (ck' := 176 + 13 * i + 1) (sk' := 6929 + 192 * i + 10) (t := 4) q3 (by decide) lays_4 toks_4 ww_195 ww_196 ww_112 dvl_4 (by omega) (by show _ + 10 ≤ _; omega) (by omega) (by omega) (by show _ + 10 = _; omega) d_X_init_221 rfl ?_
      refine MC.dup rfl d_X_init_224 rfl ?_
      refine MC.initN (nn' := 209 + 13 * i + 6) (ck' := 176 + 13 * i + 6) (sk' := 6929 + 192 * i + 44) (fun w => C_St_init V l (209 + 13 * i) q3 w) rfl ww_199 rfl ww_112 ci_St_init ww_198 ww_197n (by decide) (by simp [Value.category]) (by omega) (by omega) (by omega) (by omega) (by omega) d_X_init_225 rfl ?_
      refine MC.to (w' := mc_x w [.ref 33, .ref 35, .ref 41, .ref 47, .ref 54, .ref 61, .ref 62, .ref 63, .ref 64, .ref 68, .ref 71, .ref 76, .ref 77, .ref 78, .ref 79, .ref 96, .int 0, .int 0, .int 0, .long 0] 16 i i) (mc_x_to (by omega)) ?_
      refine MC.aast (tv := 4) (Cn := "PaidSecrets$State") al_62 (by decide) (fun _ => rfl) ⟨q3, by decide, rfl⟩ (by omega) (by omega) q2 d_X_init_228 rfl ?_
      rw [mc_x62]
      refine MC.aload_n (i := 0) rfl rfl d_X_init_229 rfl ?_
      refine MC.getR (a := 32) (k := 7) (r := 63) tg_32 (by omega) lays_8 ⟨by decide, by decide +kernel⟩ (by unfold mc_x mc_own; simp) ww_479 d_X_init_230 rfl ?_
      refine MC.iload_n (i := 1) rfl rfl d_X_init_233 rfl ?_
      have e6 : 209 + 13 * i + 6 = 215 + 13 * i := by omega
      rw [e6]
      refine MC.new (nn' := 215 + 13 * i + 1) (ck' := 176 + 13 * i + 7) (sk' := 6929 + 192 * i + 52) (t := 5) q4 (by decide) lays_5 toks_5 ww_245 ww_246 ww_113 dvl_5 (by omega) (by show _ + 8 ≤ _; omega) (by omega) (by omega) (by show _ + 8 = _; omega) d_X_init_234 rfl ?_
      refine MC.dup rfl d_X_init_237 rfl ?_
      refine MC.initN (nn' := 215 + 13 * i + 7) (ck' := 176 + 13 * i + 13) (sk' := 6929 + 192 * i + 192) (fun w => C_Tk_init V l (215 + 13 * i) q4 w) rfl ww_249 rfl ww_113 ci_Tk_init ww_248 ww_247n (by decide) (by simp [Value.category]) (by omega) (by omega) (by omega) (by omega) (by omega) d_X_init_238 rfl ?_
      refine MC.to (w' := mc_x w [.ref 33, .ref 35, .ref 41, .ref 47, .ref 54, .ref 61, .ref 62, .ref 63, .ref 64, .ref 68, .ref 71, .ref 76, .ref 77, .ref 78, .ref 79, .ref 96, .int 0, .int 0, .int 0, .long 0] 16 (i + 1) i) (mc_x_to (by omega)) ?_
      refine MC.aast (tv := 5) (Cn := "PaidSecrets$Talk") al_63 (by decide) (fun _ => rfl) ⟨q4, by decide, rfl⟩ (by omega) (by omega) q2 d_X_init_241 rfl ?_
      rw [mc_x63]
      refine MC.iinc (k0 := 0) (y := Int32.ofNat (i + 1)) (lv' := [(1, .int (Int32.ofNat (i + 1))), (0, .ref 32)]) (by rw [mc_inc, ic_1]) rfl (by decide) rfl d_X_init_242 rfl ?_
      refine MC.goto (tgt := 211) d_X_init_245 rfl ?_
      have h9 := ih (i + 1) (by omega)
      rw [show 209 + 13 * (i + 1) = 215 + 13 * i + 7 by omega, show 176 + 13 * (i + 1) = 176 + 13 * i + 13 by omega, show 6929 + 192 * (i + 1) = 6929 + 192 * i + 192 by omega] at h9
      exact h9
  have L1 : ∀ j i : Nat, i + j = 16 → MC V l Y_X_init 6 228 7697 (mc_Z V (mc_to (mc_df w 32) 32) (32 + 1 + 228) 228 7697) 184 [(1, .int (Int32.ofNat i)), (0, .ref 32)] [] (mc_x w [.ref 33, .ref 35, .ref 41, .ref 47, .ref 54, .ref 61, .ref 62, .ref 63, .ref 64, .ref 68, .ref 71, .ref 76, .ref 77, .ref 78, .ref 79, .ref 96, .int 0, .int 0, .int 0, .long 0] i 0 0) (113 + 6 * i) (80 + 6 * i) (6225 + 44 * i) := by
    intro j
    induction j with
    | zero =>
      intro i hi
      obtain rfl : i = 16 := by omega
      refine MC.iload_n (i := 1) rfl rfl d_X_init_184 rfl ?_
      refine MC.bipush bp_16 d_X_init_185 rfl ?_
      refine MC.icmp_ge (tgt := 209) d_X_init_187 rfl rfl (fun _ => ?_) (fun q => absurd (by decide +kernel) q)
      refine MC.iconst ic_0 d_X_init_209 rfl ?_
      refine MC.istore_n (i := 1) (lv' := [(1, .int 0), (0, .ref 32)]) rfl (by decide) rfl d_X_init_210 rfl ?_
      exact L2 4 0 rfl
    | succ j ih =>
      intro i hi
      obtain ⟨q1, q2, q3⟩ := mc_i16 i (by omega)
      refine MC.iload_n (i := 1) rfl rfl d_X_init_184 rfl ?_
      refine MC.bipush bp_16 d_X_init_185 rfl ?_
      refine MC.icmp_ge (tgt := 209) d_X_init_187 rfl rfl (fun q => absurd q q1) (fun _ => ?_)
      refine MC.aload_n (i := 0) rfl rfl d_X_init_190 rfl ?_
      refine MC.getR (a := 32) (k := 5) (r := 61) tg_32 (by omega) lays_8 ⟨by decide, by decide +kernel⟩ (by unfold mc_x mc_own; simp) ww_477 d_X_init_191 rfl ?_
      refine MC.iload_n (i := 1) rfl rfl d_X_init_194 rfl ?_
      refine MC.new (nn' := 113 + 6 * i + 1) (ck' := 80 + 6 * i + 1) (sk' := 6225 + 44 * i + 10) (t := 4) q3 (by decide) lays_4 toks_4 ww_195 ww_196 ww_112 dvl_4 (by omega) (by show _ + 10 ≤ _; omega) (by omega) (by omega) (by show _ + 10 = _; omega) d_X_init_195 rfl ?_
      refine MC.dup rfl d_X_init_198 rfl ?_
      refine MC.initN (nn' := 113 + 6 * i + 6) (ck' := 80 + 6 * i + 6) (sk' := 6225 + 44 * i + 44) (fun w => C_St_init V l (113 + 6 * i) q3 w) rfl ww_199 rfl ww_112 ci_St_init ww_198 ww_197n (by decide) (by simp [Value.category]) (by omega) (by omega) (by omega) (by omega) (by omega) d_X_init_199 rfl ?_
      refine MC.to (w' := mc_x w [.ref 33, .ref 35, .ref 41, .ref 47, .ref 54, .ref 61, .ref 62, .ref 63, .ref 64, .ref 68, .ref 71, .ref 76, .ref 77, .ref 78, .ref 79, .ref 96, .int 0, .int 0, .int 0, .long 0] i 0 0) (mc_x_to (by omega)) ?_
      refine MC.aast (tv := 4) (Cn := "PaidSecrets$State") al_61 (by decide) (fun _ => rfl) ⟨q3, by decide, rfl⟩ (by omega) (by omega) q2 d_X_init_202 rfl ?_
      rw [mc_x61]
      refine MC.iinc (k0 := 0) (y := Int32.ofNat (i + 1)) (lv' := [(1, .int (Int32.ofNat (i + 1))), (0, .ref 32)]) (by rw [mc_inc, ic_1]) rfl (by decide) rfl d_X_init_203 rfl ?_
      refine MC.goto (tgt := 184) d_X_init_206 rfl ?_
      have h9 := ih (i + 1) (by omega)
      rw [show 113 + 6 * (i + 1) = 113 + 6 * i + 6 by omega, show 80 + 6 * (i + 1) = 80 + 6 * i + 6 by omega, show 6225 + 44 * (i + 1) = 6225 + 44 * i + 44 by omega] at h9
      exact h9
  refine MCT.intro (pn_X rfl) (by decide) ?_
  refine MC.own (fs := [.null, .null, .null, .null, .null, .null, .null, .null, .null, .null, .null, .null, .null, .null, .null, .null, .int 0, .int 0, .int 0, .long 0]) rfl (fun k hk => dfl_8 tg_32 trivial k hk) ?_
  refine MC.to (w' := mc_x w [.null, .null, .null, .null, .null, .null, .null, .null, .null, .null, .null, .null, .null, .null, .null, .null, .int 0, .int 0, .int 0, .long 0] 0 0 0) (mc_x_own (by decide)) ?_
  refine MC.aload_n (i := 0) rfl rfl d_X_init_0 rfl ?_
  refine MC.obj ww_142 ww_143 ww_144 (by decide) rfl d_X_init_1 rfl ?_
  refine MC.aload_n (i := 0) rfl rfl d_X_init_4 rfl ?_
  refine MC.new (nn' := 34) (ck' := 1) (sk' := 10) (t := 6) tg_33 (by decide) lays_6 toks_6 ww_145 ww_146 ww_111 dvl_6 (by decide) (by decide) rfl rfl rfl d_X_init_5 rfl ?_
  refine MC.dup rfl d_X_init_8 rfl ?_
  refine MC.initN (nn' := 35) (ck' := 2) (sk' := 1010) (fun w => C_Ta_init V l (33) rfl w) rfl ww_149 rfl ww_111 ci_Ta_init ww_148 ww_147n (by decide) (by simp [Value.category]) (by decide) (by decide) rfl rfl rfl d_X_init_9 rfl ?_
  refine MC.to (w' := mc_x w [.null, .null, .null, .null, .null, .null, .null, .null, .null, .null, .null, .null, .null, .null, .null, .null, .int 0, .int 0, .int 0, .long 0] 0 0 0) (mc_x_to (by decide)) ?_
  refine MC.putF (k := 0) (v := .ref 33) tg_32 (by decide) lays_8 toks_8 fq_8_0 fo_8_0 (fun _ => by rw [nt_8_0]; exact ⟨rfl, rfl⟩) ww_472 d_X_init_12 rfl ?_
  rw [mc_x_set (fs' := [.ref 33, .null, .null, .null, .null, .null, .null, .null, .null, .null, .null, .null, .null, .null, .null, .null, .int 0, .int 0, .int 0, .long 0]) (Nat.le_of_ble_eq_true rfl) rfl]
  refine MC.aload_n (i := 0) rfl rfl d_X_init_15 rfl ?_
  refine MC.new (nn' := 36) (ck' := 3) (sk' := 1020) (t := 4) tg_35 (by decide) lays_4 toks_4 ww_195 ww_196 ww_112 dvl_4 (by decide) (by decide) rfl rfl rfl d_X_init_16 rfl ?_
  refine MC.dup rfl d_X_init_19 rfl ?_
  refine MC.initN (nn' := 41) (ck' := 8) (sk' := 1054) (fun w => C_St_init V l (35) tg_35 w) rfl ww_199 rfl ww_112 ci_St_init ww_198 ww_197n (by decide) (by simp [Value.category]) (by decide) (by decide) rfl rfl rfl d_X_init_20 rfl ?_
  refine MC.to (w' := mc_x w [.ref 33, .null, .null, .null, .null, .null, .null, .null, .null, .null, .null, .null, .null, .null, .null, .null, .int 0, .int 0, .int 0, .long 0] 0 0 0) (mc_x_to (by decide)) ?_
  refine MC.putF (k := 1) (v := .ref 35) tg_32 (by decide) lays_8 toks_8 fq_8_1 fo_8_1 (fun _ => by rw [nt_8_1]; exact ⟨rfl, rfl⟩) ww_473 d_X_init_23 rfl ?_
  rw [mc_x_set (fs' := [.ref 33, .ref 35, .null, .null, .null, .null, .null, .null, .null, .null, .null, .null, .null, .null, .null, .null, .int 0, .int 0, .int 0, .long 0]) (Nat.le_of_ble_eq_true rfl) rfl]
  refine MC.aload_n (i := 0) rfl rfl d_X_init_26 rfl ?_
  refine MC.new (nn' := 42) (ck' := 9) (sk' := 1064) (t := 4) tg_41 (by decide) lays_4 toks_4 ww_195 ww_196 ww_112 dvl_4 (by decide) (by decide) rfl rfl rfl d_X_init_27 rfl ?_
  refine MC.dup rfl d_X_init_30 rfl ?_
  refine MC.initN (nn' := 47) (ck' := 14) (sk' := 1098) (fun w => C_St_init V l (41) tg_41 w) rfl ww_199 rfl ww_112 ci_St_init ww_198 ww_197n (by decide) (by simp [Value.category]) (by decide) (by decide) rfl rfl rfl d_X_init_31 rfl ?_
  refine MC.to (w' := mc_x w [.ref 33, .ref 35, .null, .null, .null, .null, .null, .null, .null, .null, .null, .null, .null, .null, .null, .null, .int 0, .int 0, .int 0, .long 0] 0 0 0) (mc_x_to (by decide)) ?_
  refine MC.putF (k := 2) (v := .ref 41) tg_32 (by decide) lays_8 toks_8 fq_8_2 fo_8_2 (fun _ => by rw [nt_8_2]; exact ⟨rfl, rfl⟩) ww_474 d_X_init_34 rfl ?_
  rw [mc_x_set (fs' := [.ref 33, .ref 35, .ref 41, .null, .null, .null, .null, .null, .null, .null, .null, .null, .null, .null, .null, .null, .int 0, .int 0, .int 0, .long 0]) (Nat.le_of_ble_eq_true rfl) rfl]
  refine MC.aload_n (i := 0) rfl rfl d_X_init_37 rfl ?_
  refine MC.new (nn' := 48) (ck' := 15) (sk' := 1106) (t := 5) tg_47 (by decide) lays_5 toks_5 ww_245 ww_246 ww_113 dvl_5 (by decide) (by decide) rfl rfl rfl d_X_init_38 rfl ?_
  refine MC.dup rfl d_X_init_41 rfl ?_
  refine MC.initN (nn' := 54) (ck' := 21) (sk' := 1246) (fun w => C_Tk_init V l (47) tg_47 w) rfl ww_249 rfl ww_113 ci_Tk_init ww_248 ww_247n (by decide) (by simp [Value.category]) (by decide) (by decide) rfl rfl rfl d_X_init_42 rfl ?_
  refine MC.to (w' := mc_x w [.ref 33, .ref 35, .ref 41, .null, .null, .null, .null, .null, .null, .null, .null, .null, .null, .null, .null, .null, .int 0, .int 0, .int 0, .long 0] 0 0 0) (mc_x_to (by decide)) ?_
  refine MC.putF (k := 3) (v := .ref 47) tg_32 (by decide) lays_8 toks_8 fq_8_3 fo_8_3 (fun _ => by rw [nt_8_3]; exact ⟨rfl, rfl⟩) ww_475 d_X_init_45 rfl ?_
  rw [mc_x_set (fs' := [.ref 33, .ref 35, .ref 41, .ref 47, .null, .null, .null, .null, .null, .null, .null, .null, .null, .null, .null, .null, .int 0, .int 0, .int 0, .long 0]) (Nat.le_of_ble_eq_true rfl) rfl]
  refine MC.aload_n (i := 0) rfl rfl d_X_init_48 rfl ?_
  refine MC.new (nn' := 55) (ck' := 22) (sk' := 1254) (t := 5) tg_54 (by decide) lays_5 toks_5 ww_245 ww_246 ww_113 dvl_5 (by decide) (by decide) rfl rfl rfl d_X_init_49 rfl ?_
  refine MC.dup rfl d_X_init_52 rfl ?_
  refine MC.initN (nn' := 61) (ck' := 28) (sk' := 1394) (fun w => C_Tk_init V l (54) tg_54 w) rfl ww_249 rfl ww_113 ci_Tk_init ww_248 ww_247n (by decide) (by simp [Value.category]) (by decide) (by decide) rfl rfl rfl d_X_init_53 rfl ?_
  refine MC.to (w' := mc_x w [.ref 33, .ref 35, .ref 41, .ref 47, .null, .null, .null, .null, .null, .null, .null, .null, .null, .null, .null, .null, .int 0, .int 0, .int 0, .long 0] 0 0 0) (mc_x_to (by decide)) ?_
  refine MC.putF (k := 4) (v := .ref 54) tg_32 (by decide) lays_8 toks_8 fq_8_4 fo_8_4 (fun _ => by rw [nt_8_4]; exact ⟨rfl, rfl⟩) ww_476 d_X_init_56 rfl ?_
  rw [mc_x_set (fs' := [.ref 33, .ref 35, .ref 41, .ref 47, .ref 54, .null, .null, .null, .null, .null, .null, .null, .null, .null, .null, .null, .int 0, .int 0, .int 0, .long 0]) (Nat.le_of_ble_eq_true rfl) rfl]
  refine MC.aload_n (i := 0) rfl rfl d_X_init_59 rfl ?_
  refine MC.bipush bp_16 d_X_init_60 rfl ?_
  refine MC.newq (nn' := 62) (ck' := 29) (sk' := 1410) (N := 16) (t := 24) (Cn := "PaidSecrets$State") al_61 (by decide) (fun _ => rfl) (fun _ z => z.1) ww_195 n32_16.1 n32_16.2 (Nat.le_of_ble_eq_true rfl) (fun k _ => by simp [mc_x]) (by decide) (by decide) rfl rfl rfl d_X_init_62 rfl ?_
  refine MC.putF (k := 5) (v := .ref 61) tg_32 (by decide) lays_8 toks_8 fq_8_5 fo_8_5 (fun _ => by rw [nt_8_5]; exact ⟨rfl, rfl⟩) ww_477 d_X_init_65 rfl ?_
  rw [mc_x_set (fs' := [.ref 33, .ref 35, .ref 41, .ref 47, .ref 54, .ref 61, .null, .null, .null, .null, .null, .null, .null, .null, .null, .null, .int 0, .int 0, .int 0, .long 0]) (Nat.le_of_ble_eq_true rfl) rfl]
  refine MC.aload_n (i := 0) rfl rfl d_X_init_68 rfl ?_
  refine MC.iconst ic_4 d_X_init_69 rfl ?_
  refine MC.newq (nn' := 63) (ck' := 30) (sk' := 1414) (N := 4) (t := 24) (Cn := "PaidSecrets$State") al_62 (by decide) (fun _ => rfl) (fun _ z => z.1) ww_195 n32_4.1 n32_4.2 (Nat.le_of_ble_eq_true rfl) (fun k _ => by simp [mc_x]) (by decide) (by decide) rfl rfl rfl d_X_init_70 rfl ?_
  refine MC.putF (k := 6) (v := .ref 62) tg_32 (by decide) lays_8 toks_8 fq_8_6 fo_8_6 (fun _ => by rw [nt_8_6]; exact ⟨rfl, rfl⟩) ww_478 d_X_init_73 rfl ?_
  rw [mc_x_set (fs' := [.ref 33, .ref 35, .ref 41, .ref 47, .ref 54, .ref 61, .ref 62, .null, .null, .null, .null, .null, .null, .null, .null, .null, .int 0, .int 0, .int 0, .long 0]) (Nat.le_of_ble_eq_true rfl) rfl]
  refine MC.aload_n (i := 0) rfl rfl d_X_init_76 rfl ?_
  refine MC.iconst ic_4 d_X_init_77 rfl ?_
  refine MC.newq (nn' := 64) (ck' := 31) (sk' := 1418) (N := 4) (t := 25) (Cn := "PaidSecrets$Talk") al_63 (by decide) (fun _ => rfl) (fun _ z => z.2) ww_245 n32_4.1 n32_4.2 (Nat.le_of_ble_eq_true rfl) (fun k _ => by simp [mc_x]) (by decide) (by decide) rfl rfl rfl d_X_init_78 rfl ?_
  refine MC.putF (k := 7) (v := .ref 63) tg_32 (by decide) lays_8 toks_8 fq_8_7 fo_8_7 (fun _ => by rw [nt_8_7]; exact ⟨rfl, rfl⟩) ww_479 d_X_init_81 rfl ?_
  rw [mc_x_set (fs' := [.ref 33, .ref 35, .ref 41, .ref 47, .ref 54, .ref 61, .ref 62, .ref 63, .null, .null, .null, .null, .null, .null, .null, .null, .int 0, .int 0, .int 0, .long 0]) (Nat.le_of_ble_eq_true rfl) rfl]
  refine MC.aload_n (i := 0) rfl rfl d_X_init_84 rfl ?_
  refine MC.new (nn' := 65) (ck' := 32) (sk' := 1421) (t := 0) tg_64 (by decide) lays_0 toks_0 ww_287 ww_288 ww_114 dvl_0 (by decide) (by decide) rfl rfl rfl d_X_init_85 rfl ?_
  refine MC.dup rfl d_X_init_88 rfl ?_
  refine MC.initN (nn' := 68) (ck' := 35) (sk' := 3533) (fun w => C_Co_init V l (64) rfl w) rfl ww_291 rfl ww_114 ci_Co_init ww_290 ww_289n (by decide) (by simp [Value.category]) (by decide) (by decide) rfl rfl rfl d_X_init_89 rfl ?_
  refine MC.to (w' := mc_x w [.ref 33, .ref 35, .ref 41, .ref 47, .ref 54, .ref 61, .ref 62, .ref 63, .null, .null, .null, .null, .null, .null, .null, .null, .int 0, .int 0, .int 0, .long 0] 0 0 0) (mc_x_to (by decide)) ?_
  refine MC.putF (k := 8) (v := .ref 64) tg_32 (by decide) lays_8 toks_8 fq_8_8 fo_8_8 (fun _ => by rw [nt_8_8]; exact ⟨rfl, rfl⟩) ww_480 d_X_init_92 rfl ?_
  rw [mc_x_set (fs' := [.ref 33, .ref 35, .ref 41, .ref 47, .ref 54, .ref 61, .ref 62, .ref 63, .ref 64, .null, .null, .null, .null, .null, .null, .null, .int 0, .int 0, .int 0, .long 0]) (Nat.le_of_ble_eq_true rfl) rfl]
  refine MC.aload_n (i := 0) rfl rfl d_X_init_95 rfl ?_
  refine MC.new (nn' := 69) (ck' := 36) (sk' := 3536) (t := 1) tg_68 (by decide) lays_1 toks_1 ww_303 ww_304 ww_115 dvl_1 (by decide) (by decide) rfl rfl rfl d_X_init_96 rfl ?_
  refine MC.dup rfl d_X_init_99 rfl ?_
  refine MC.initN (nn' := 71) (ck' := 38) (sk' := 3542) (fun w => C_Fe_init V l (68) rfl w) rfl ww_307 rfl ww_115 ci_Fe_init ww_306 ww_305n (by decide) (by simp [Value.category]) (by decide) (by decide) rfl rfl rfl d_X_init_100 rfl ?_
  refine MC.to (w' := mc_x w [.ref 33, .ref 35, .ref 41, .ref 47, .ref 54, .ref 61, .ref 62, .ref 63, .ref 64, .null, .null, .null, .null, .null, .null, .null, .int 0, .int 0, .int 0, .long 0] 0 0 0) (mc_x_to (by decide)) ?_
  refine MC.putF (k := 9) (v := .ref 68) tg_32 (by decide) lays_8 toks_8 fq_8_9 fo_8_9 (fun _ => by rw [nt_8_9]; exact ⟨rfl, rfl⟩) ww_481 d_X_init_103 rfl ?_
  rw [mc_x_set (fs' := [.ref 33, .ref 35, .ref 41, .ref 47, .ref 54, .ref 61, .ref 62, .ref 63, .ref 64, .ref 68, .null, .null, .null, .null, .null, .null, .int 0, .int 0, .int 0, .long 0]) (Nat.le_of_ble_eq_true rfl) rfl]
  refine MC.aload_n (i := 0) rfl rfl d_X_init_106 rfl ?_
  refine MC.new (nn' := 72) (ck' := 39) (sk' := 3546) (t := 3) tg_71 (by decide) lays_3 toks_3 ww_319 ww_320 ww_116 dvl_3 (by decide) (by decide) rfl rfl rfl d_X_init_107 rfl ?_
  refine MC.dup rfl d_X_init_110 rfl ?_
  refine MC.initN (nn' := 76) (ck' := 43) (sk' := 3687) (fun w => C_Ni_init V l (71) rfl w) rfl ww_323 rfl ww_116 ci_Ni_init ww_322 ww_321n (by decide) (by simp [Value.category]) (by decide) (by decide) rfl rfl rfl d_X_init_111 rfl ?_
  refine MC.to (w' := mc_x w [.ref 33, .ref 35, .ref 41, .ref 47, .ref 54, .ref 61, .ref 62, .ref 63, .ref 64, .ref 68, .null, .null, .null, .null, .null, .null, .int 0, .int 0, .int 0, .long 0] 0 0 0) (mc_x_to (by decide)) ?_
  refine MC.putF (k := 10) (v := .ref 71) tg_32 (by decide) lays_8 toks_8 fq_8_10 fo_8_10 (fun _ => by rw [nt_8_10]; exact ⟨rfl, rfl⟩) ww_482 d_X_init_114 rfl ?_
  rw [mc_x_set (fs' := [.ref 33, .ref 35, .ref 41, .ref 47, .ref 54, .ref 61, .ref 62, .ref 63, .ref 64, .ref 68, .ref 71, .null, .null, .null, .null, .null, .int 0, .int 0, .int 0, .long 0]) (Nat.le_of_ble_eq_true rfl) rfl]
  refine MC.aload_n (i := 0) rfl rfl d_X_init_117 rfl ?_
  refine MC.bipush bp_10 d_X_init_118 rfl ?_
  refine MC.newarr (nn' := 77) (ck' := 44) (sk' := 3697) (N := 10) (t := 20) (ty := .int) rfl al_76 (by decide) (fun _ => rfl) (fun _ _ => rfl) ww_243 n32_10.1 n32_10.2 (Nat.le_of_ble_eq_true rfl) (fun k _ => by rw [mc_x_new (by decide), mc_v_int (al_76).1 (by decide)]; rfl) (fun _ => rfl) (by decide) (by decide) rfl rfl rfl d_X_init_120 rfl ?_
  refine MC.putF (k := 11) (v := .ref 76) tg_32 (by decide) lays_8 toks_8 fq_8_11 fo_8_11 (fun _ => by rw [nt_8_11]; exact ⟨rfl, rfl⟩) ww_483 d_X_init_122 rfl ?_
  rw [mc_x_set (fs' := [.ref 33, .ref 35, .ref 41, .ref 47, .ref 54, .ref 61, .ref 62, .ref 63, .ref 64, .ref 68, .ref 71, .ref 76, .null, .null, .null, .null, .int 0, .int 0, .int 0, .long 0]) (Nat.le_of_ble_eq_true rfl) rfl]
  refine MC.aload_n (i := 0) rfl rfl d_X_init_125 rfl ?_
  refine MC.bipush bp_70 d_X_init_126 rfl ?_
  refine MC.newarr (nn' := 78) (ck' := 45) (sk' := 3767) (N := 70) (t := 20) (ty := .int) rfl al_77 (by decide) (fun _ => rfl) (fun _ _ => rfl) ww_243 n32_70.1 n32_70.2 (Nat.le_of_ble_eq_true rfl) (fun k _ => by rw [mc_x_new (by decide), mc_v_int (al_77).1 (by decide)]; rfl) (fun _ => rfl) (by decide) (by decide) rfl rfl rfl d_X_init_128 rfl ?_
  refine MC.putF (k := 12) (v := .ref 77) tg_32 (by decide) lays_8 toks_8 fq_8_12 fo_8_12 (fun _ => by rw [nt_8_12]; exact ⟨rfl, rfl⟩) ww_484 d_X_init_130 rfl ?_
  rw [mc_x_set (fs' := [.ref 33, .ref 35, .ref 41, .ref 47, .ref 54, .ref 61, .ref 62, .ref 63, .ref 64, .ref 68, .ref 71, .ref 76, .ref 77, .null, .null, .null, .int 0, .int 0, .int 0, .long 0]) (Nat.le_of_ble_eq_true rfl) rfl]
  refine MC.aload_n (i := 0) rfl rfl d_X_init_133 rfl ?_
  refine MC.iconst ic_4 d_X_init_134 rfl ?_
  refine MC.newarr (nn' := 79) (ck' := 46) (sk' := 3771) (N := 4) (t := 20) (ty := .int) rfl al_78 (by decide) (fun _ => rfl) (fun _ _ => rfl) ww_243 n32_4.1 n32_4.2 (Nat.le_of_ble_eq_true rfl) (fun k _ => by rw [mc_x_new (by decide), mc_v_int (al_78).1 (by decide)]; rfl) (fun _ => rfl) (by decide) (by decide) rfl rfl rfl d_X_init_135 rfl ?_
  refine MC.putF (k := 13) (v := .ref 78) tg_32 (by decide) lays_8 toks_8 fq_8_13 fo_8_13 (fun _ => by rw [nt_8_13]; exact ⟨rfl, rfl⟩) ww_485 d_X_init_137 rfl ?_
  rw [mc_x_set (fs' := [.ref 33, .ref 35, .ref 41, .ref 47, .ref 54, .ref 61, .ref 62, .ref 63, .ref 64, .ref 68, .ref 71, .ref 76, .ref 77, .ref 78, .null, .null, .int 0, .int 0, .int 0, .long 0]) (Nat.le_of_ble_eq_true rfl) rfl]
  refine MC.aload_n (i := 0) rfl rfl d_X_init_140 rfl ?_
  refine MC.new (nn' := 80) (ck' := 47) (sk' := 3791) (t := 7) tg_79 (by decide) lays_7 toks_7 ww_338 ww_339 ww_117 dvl_7 (by decide) (by decide) rfl rfl rfl d_X_init_141 rfl ?_
  refine MC.dup rfl d_X_init_144 rfl ?_
  refine MC.initN (nn' := 96) (ck' := 63) (sk' := 4998) (fun w => C_To_init V l (79) tg_79 w) rfl ww_342 rfl ww_117 ci_To_init ww_341 ww_340n (by decide) (by simp [Value.category]) (by decide) (by decide) rfl rfl rfl d_X_init_145 rfl ?_
  refine MC.to (w' := mc_x w [.ref 33, .ref 35, .ref 41, .ref 47, .ref 54, .ref 61, .ref 62, .ref 63, .ref 64, .ref 68, .ref 71, .ref 76, .ref 77, .ref 78, .null, .null, .int 0, .int 0, .int 0, .long 0] 0 0 0) (mc_x_to (by decide)) ?_
  refine MC.putN (k := 14) (v := .ref 79) tg_32 (by decide) lays_8 toks_8 fq_8_14 (fun _ => by rw [nt_8_14]; exact ⟨rfl, rfl⟩) ww_486 d_X_init_148 rfl ?_
  rw [mc_x_set (fs' := [.ref 33, .ref 35, .ref 41, .ref 47, .ref 54, .ref 61, .ref 62, .ref 63, .ref 64, .ref 68, .ref 71, .ref 76, .ref 77, .ref 78, .ref 79, .null, .int 0, .int 0, .int 0, .long 0]) (Nat.le_of_ble_eq_true rfl) rfl]
  refine MC.aload_n (i := 0) rfl rfl d_X_init_151 rfl ?_
  refine MC.new (nn' := 97) (ck' := 64) (sk' := 5018) (t := 7) tg_96 (by decide) lays_7 toks_7 ww_338 ww_339 ww_117 dvl_7 (by decide) (by decide) rfl rfl rfl d_X_init_152 rfl ?_
  refine MC.dup rfl d_X_init_155 rfl ?_
  refine MC.initN (nn' := 113) (ck' := 80) (sk' := 6225) (fun w => C_To_init V l (96) tg_96 w) rfl ww_342 rfl ww_117 ci_To_init ww_341 ww_340n (by decide) (by simp [Value.category]) (by decide) (by decide) rfl rfl rfl d_X_init_156 rfl ?_
  refine MC.to (w' := mc_x w [.ref 33, .ref 35, .ref 41, .ref 47, .ref 54, .ref 61, .ref 62, .ref 63, .ref 64, .ref 68, .ref 71, .ref 76, .ref 77, .ref 78, .ref 79, .null, .int 0, .int 0, .int 0, .long 0] 0 0 0) (mc_x_to (by decide)) ?_
  refine MC.putN (k := 15) (v := .ref 96) tg_32 (by decide) lays_8 toks_8 fq_8_15 (fun _ => by rw [nt_8_15]; exact ⟨rfl, rfl⟩) ww_487 d_X_init_159 rfl ?_
  rw [mc_x_set (fs' := [.ref 33, .ref 35, .ref 41, .ref 47, .ref 54, .ref 61, .ref 62, .ref 63, .ref 64, .ref 68, .ref 71, .ref 76, .ref 77, .ref 78, .ref 79, .ref 96, .int 0, .int 0, .int 0, .long 0]) (Nat.le_of_ble_eq_true rfl) rfl]
  refine MC.aload_n (i := 0) rfl rfl d_X_init_162 rfl ?_
  refine MC.iconst ic_0 d_X_init_163 rfl ?_
  refine MC.putN (k := 16) (v := .int 0) tg_32 (by decide) lays_8 toks_8 fq_8_16 (fun _ => by rw [nt_8_16]; exact ⟨rfl, rfl⟩) ww_488 d_X_init_164 rfl ?_
  rw [mc_x_set (fs' := [.ref 33, .ref 35, .ref 41, .ref 47, .ref 54, .ref 61, .ref 62, .ref 63, .ref 64, .ref 68, .ref 71, .ref 76, .ref 77, .ref 78, .ref 79, .ref 96, .int 0, .int 0, .int 0, .long 0]) (Nat.le_of_ble_eq_true rfl) rfl]
  refine MC.aload_n (i := 0) rfl rfl d_X_init_167 rfl ?_
  refine MC.iconst ic_0 d_X_init_168 rfl ?_
  refine MC.putN (k := 17) (v := .int 0) tg_32 (by decide) lays_8 toks_8 fq_8_17 (fun _ => by rw [nt_8_17]; exact ⟨rfl, rfl⟩) ww_489 d_X_init_169 rfl ?_
  rw [mc_x_set (fs' := [.ref 33, .ref 35, .ref 41, .ref 47, .ref 54, .ref 61, .ref 62, .ref 63, .ref 64, .ref 68, .ref 71, .ref 76, .ref 77, .ref 78, .ref 79, .ref 96, .int 0, .int 0, .int 0, .long 0]) (Nat.le_of_ble_eq_true rfl) rfl]
  refine MC.aload_n (i := 0) rfl rfl d_X_init_172 rfl ?_
  refine MC.iconst ic_0 d_X_init_173 rfl ?_
  refine MC.putN (k := 18) (v := .int 0) tg_32 (by decide) lays_8 toks_8 fq_8_18 (fun _ => by rw [nt_8_18]; exact ⟨rfl, rfl⟩) ww_490 d_X_init_174 rfl ?_
  rw [mc_x_set (fs' := [.ref 33, .ref 35, .ref 41, .ref 47, .ref 54, .ref 61, .ref 62, .ref 63, .ref 64, .ref 68, .ref 71, .ref 76, .ref 77, .ref 78, .ref 79, .ref 96, .int 0, .int 0, .int 0, .long 0]) (Nat.le_of_ble_eq_true rfl) rfl]
  refine MC.aload_n (i := 0) rfl rfl d_X_init_177 rfl ?_
  refine MC.lconst (v := 0) rfl d_X_init_178 rfl ?_
  refine MC.putN (k := 19) (v := .long 0) tg_32 (by decide) lays_8 toks_8 fq_8_19 (fun _ => by rw [nt_8_19]; exact ⟨rfl, rfl⟩) ww_491 d_X_init_179 rfl ?_
  rw [mc_x_set (fs' := [.ref 33, .ref 35, .ref 41, .ref 47, .ref 54, .ref 61, .ref 62, .ref 63, .ref 64, .ref 68, .ref 71, .ref 76, .ref 77, .ref 78, .ref 79, .ref 96, .int 0, .int 0, .int 0, .long 0]) (Nat.le_of_ble_eq_true rfl) rfl]
  refine MC.iconst ic_0 d_X_init_182 rfl ?_
  refine MC.istore_n (i := 1) (lv' := [(1, .int 0), (0, .ref 32)]) rfl (by decide) rfl d_X_init_183 rfl ?_
  exact L1 16 0 rfl
