/-! methods: X_secret, To_hasPair, St_isAware, X_aware, To_chance, X_ear, To_speaks, St_mayTell, St_copyFrom, X_remember, St_whisper, X_tell, St_payable, St_mayPay, St_take, X_pay, X_rise, St_endQuarter, X_quarter, St_mayLend -/
theorem d_X_secret_0 : decode cX11_secret 0 = .ok (.aload_n 0, 1) := by decide +kernel
theorem d_X_secret_1 : decode cX11_secret 1 = .ok (.getfield 81, 3) := by decide +kernel
theorem d_X_secret_4 : decode cX11_secret 4 = .ok (.iload_n 1, 1) := by decide +kernel
theorem d_X_secret_5 : decode cX11_secret 5 = .ok (.invokevirtual 174, 3) := by decide +kernel
theorem d_X_secret_8 : decode cX11_secret 8 = .ok (.ifCond .ne 5, 3) := by decide +kernel
theorem d_X_secret_11 : decode cX11_secret 11 = .ok (.iconst (-1), 1) := by decide +kernel
theorem d_X_secret_12 : decode cX11_secret 12 = .ok (.ireturn, 1) := by decide +kernel
theorem d_X_secret_13 : decode cX11_secret 13 = .ok (.iload_n 2, 1) := by decide +kernel
theorem d_X_secret_14 : decode cX11_secret 14 = .ok (.tableswitch 168 0 9 #[54, 66, 76, 86, 96, 106, 123, 134, 146, 158], 54) := by decide +kernel
theorem d_X_secret_68 : decode cX11_secret 68 = .ok (.aload_n 0, 1) := by decide +kernel
theorem d_X_secret_69 : decode cX11_secret 69 = .ok (.getfield 81, 3) := by decide +kernel
theorem d_X_secret_72 : decode cX11_secret 72 = .ok (.getfield 177, 3) := by decide +kernel
theorem d_X_secret_75 : decode cX11_secret 75 = .ok (.iload_n 1, 1) := by decide +kernel
theorem d_X_secret_76 : decode cX11_secret 76 = .ok (.invokestatic 164, 3) := by decide +kernel
theorem d_X_secret_79 : decode cX11_secret 79 = .ok (.ireturn, 1) := by decide +kernel
theorem d_X_secret_80 : decode cX11_secret 80 = .ok (.aload_n 0, 1) := by decide +kernel
theorem d_X_secret_81 : decode cX11_secret 81 = .ok (.getfield 81, 3) := by decide +kernel
theorem d_X_secret_84 : decode cX11_secret 84 = .ok (.getfield 180, 3) := by decide +kernel
theorem d_X_secret_87 : decode cX11_secret 87 = .ok (.iload_n 1, 1) := by decide +kernel
theorem d_X_secret_88 : decode cX11_secret 88 = .ok (.iaload, 1) := by decide +kernel
theorem d_X_secret_89 : decode cX11_secret 89 = .ok (.ireturn, 1) := by decide +kernel
theorem d_X_secret_90 : decode cX11_secret 90 = .ok (.aload_n 0, 1) := by decide +kernel
theorem d_X_secret_91 : decode cX11_secret 91 = .ok (.getfield 81, 3) := by decide +kernel
theorem d_X_secret_94 : decode cX11_secret 94 = .ok (.getfield 183, 3) := by decide +kernel
theorem d_X_secret_97 : decode cX11_secret 97 = .ok (.iload_n 1, 1) := by decide +kernel
theorem d_X_secret_98 : decode cX11_secret 98 = .ok (.iaload, 1) := by decide +kernel
theorem d_X_secret_99 : decode cX11_secret 99 = .ok (.ireturn, 1) := by decide +kernel
theorem d_X_secret_100 : decode cX11_secret 100 = .ok (.aload_n 0, 1) := by decide +kernel
theorem d_X_secret_101 : decode cX11_secret 101 = .ok (.getfield 81, 3) := by decide +kernel
theorem d_X_secret_104 : decode cX11_secret 104 = .ok (.getfield 186, 3) := by decide +kernel
theorem d_X_secret_107 : decode cX11_secret 107 = .ok (.iload_n 1, 1) := by decide +kernel
theorem d_X_secret_108 : decode cX11_secret 108 = .ok (.iaload, 1) := by decide +kernel
theorem d_X_secret_109 : decode cX11_secret 109 = .ok (.ireturn, 1) := by decide +kernel
theorem d_X_secret_110 : decode cX11_secret 110 = .ok (.aload_n 0, 1) := by decide +kernel
theorem d_X_secret_111 : decode cX11_secret 111 = .ok (.getfield 19, 3) := by decide +kernel
theorem d_X_secret_114 : decode cX11_secret 114 = .ok (.getfield 189, 3) := by decide +kernel
theorem d_X_secret_117 : decode cX11_secret 117 = .ok (.iload_n 1, 1) := by decide +kernel
theorem d_X_secret_118 : decode cX11_secret 118 = .ok (.iaload, 1) := by decide +kernel
theorem d_X_secret_119 : decode cX11_secret 119 = .ok (.ireturn, 1) := by decide +kernel
theorem d_X_secret_120 : decode cX11_secret 120 = .ok (.aload_n 0, 1) := by decide +kernel
theorem d_X_secret_121 : decode cX11_secret 121 = .ok (.getfield 81, 3) := by decide +kernel
theorem d_X_secret_124 : decode cX11_secret 124 = .ok (.aload_n 0, 1) := by decide +kernel
theorem d_X_secret_125 : decode cX11_secret 125 = .ok (.getfield 19, 3) := by decide +kernel
theorem d_X_secret_128 : decode cX11_secret 128 = .ok (.getfield 189, 3) := by decide +kernel
theorem d_X_secret_131 : decode cX11_secret 131 = .ok (.iload_n 1, 1) := by decide +kernel
theorem d_X_secret_132 : decode cX11_secret 132 = .ok (.iaload, 1) := by decide +kernel
theorem d_X_secret_133 : decode cX11_secret 133 = .ok (.invokevirtual 192, 3) := by decide +kernel
theorem d_X_secret_136 : decode cX11_secret 136 = .ok (.ireturn, 1) := by decide +kernel
theorem d_X_secret_137 : decode cX11_secret 137 = .ok (.aload_n 0, 1) := by decide +kernel
theorem d_X_secret_138 : decode cX11_secret 138 = .ok (.aload_n 0, 1) := by decide +kernel
theorem d_X_secret_139 : decode cX11_secret 139 = .ok (.getfield 19, 3) := by decide +kernel
theorem d_X_secret_142 : decode cX11_secret 142 = .ok (.invokevirtual 153, 3) := by decide +kernel
theorem d_X_secret_145 : decode cX11_secret 145 = .ok (.iload_n 1, 1) := by decide +kernel
theorem d_X_secret_146 : decode cX11_secret 146 = .ok (.iaload, 1) := by decide +kernel
theorem d_X_secret_147 : decode cX11_secret 147 = .ok (.ireturn, 1) := by decide +kernel
theorem d_X_secret_148 : decode cX11_secret 148 = .ok (.aload_n 0, 1) := by decide +kernel
theorem d_X_secret_149 : decode cX11_secret 149 = .ok (.getfield 19, 3) := by decide +kernel
theorem d_X_secret_152 : decode cX11_secret 152 = .ok (.getfield 196, 3) := by decide +kernel
theorem d_X_secret_155 : decode cX11_secret 155 = .ok (.iload_n 1, 1) := by decide +kernel
theorem d_X_secret_156 : decode cX11_secret 156 = .ok (.invokestatic 164, 3) := by decide +kernel
theorem d_X_secret_159 : decode cX11_secret 159 = .ok (.ireturn, 1) := by decide +kernel
theorem d_X_secret_160 : decode cX11_secret 160 = .ok (.aload_n 0, 1) := by decide +kernel
theorem d_X_secret_161 : decode cX11_secret 161 = .ok (.getfield 19, 3) := by decide +kernel
theorem d_X_secret_164 : decode cX11_secret 164 = .ok (.getfield 199, 3) := by decide +kernel
theorem d_X_secret_167 : decode cX11_secret 167 = .ok (.iload_n 1, 1) := by decide +kernel
theorem d_X_secret_168 : decode cX11_secret 168 = .ok (.invokestatic 164, 3) := by decide +kernel
theorem d_X_secret_171 : decode cX11_secret 171 = .ok (.ireturn, 1) := by decide +kernel
theorem d_X_secret_172 : decode cX11_secret 172 = .ok (.aload_n 0, 1) := by decide +kernel
theorem d_X_secret_173 : decode cX11_secret 173 = .ok (.getfield 81, 3) := by decide +kernel
theorem d_X_secret_176 : decode cX11_secret 176 = .ok (.getfield 202, 3) := by decide +kernel
theorem d_X_secret_179 : decode cX11_secret 179 = .ok (.iload_n 1, 1) := by decide +kernel
theorem d_X_secret_180 : decode cX11_secret 180 = .ok (.iaload, 1) := by decide +kernel
theorem d_X_secret_181 : decode cX11_secret 181 = .ok (.ireturn, 1) := by decide +kernel
theorem d_X_secret_182 : decode cX11_secret 182 = .ok (.iconst (-1), 1) := by decide +kernel
theorem d_X_secret_183 : decode cX11_secret 183 = .ok (.ireturn, 1) := by decide +kernel
noncomputable def f_X_secret (x1 : Int32) (x2 : Int32) (h : mm_H) : Option (Int32 × mm_H) := (mm_gT h 14).bind fun t1 => (f_To_hasSecret t1 x1 h).bind fun v4 => if v4 = 0 then (some ((-1), h)) else (if x2 = 0 then ((mm_gT h 14).bind fun t5 => (f_X_bit (h.1 t5 8) x1).bind fun v8 => some (v8, h)) else if x2 = 1 then ((mm_gT h 14).bind fun t12 => (mm_ix x1 10).bind fun k14 => some ((h.1 (t12 + 6) k14), h)) else if x2 = 2 then ((mm_gT h 14).bind fun t19 => (mm_ix x1 10).bind fun k21 => some ((h.1 (t19 + 7) k21), h)) else if x2 = 3 then ((mm_gT h 14).bind fun t26 => (mm_ix x1 10).bind fun k28 => some ((h.1 (t26 + 8) k28), h)) else if x2 = 4 then ((mm_ix x1 10).bind fun k33 => some ((h.1 36 k33), h)) else if x2 = 5 then ((mm_gT h 14).bind fun t38 => (mm_ix x1 10).bind fun k40 => (f_To_knowers t38 (h.1 36 k40) h).bind fun v43 => some (v43, h)) else if x2 = 6 then ((f_X_weighed 35 h).bind fun v48 => (mm_ix x1 10).bind fun k49 => some ((v48.1 76 k49), v48)) else if x2 = 7 then ((f_X_bit (h.1 35 5) x1).bind fun v55 => some (v55, h)) else if x2 = 8 then ((f_X_bit (h.1 35 6) x1).bind fun v60 => some (v60, h)) else if x2 = 9 then ((mm_gT h 14).bind fun t64 => (mm_ix x1 10).bind fun k66 => some ((h.1 (t64 + 13) k66), h)) else (some ((-1), h)))
theorem T_X_secret (V : mm_V) (l : Launch) (x1 : Int32) (x2 : Int32) (h : mm_H) (r : (Int32 × mm_H)) (hf : f_X_secret x1 x2 h = some r) : MT V l Y_X_secret 6 [.ref 32, .int x1, .int x2] (fun r1 h1 => r1 = some (.int r.1) ∧ h1 = r.2) h := by
  unfold f_X_secret at hf
  refine MT.intro (pn_X rfl) [(0, .ref 32), (1, .int x1), (2, .int x2)] rfl (Nat.le_of_ble_eq_true rfl) ?_
  generalize hZ : mm_Z V _ = Z0
  refine MM.aload_n (i := 0) rfl rfl d_X_secret_0 rfl ?_
  obtain ⟨t1, e2, hf⟩ := mm_bind hf
  obtain ⟨e2, t_t1⟩ := mm_gTE e2
  refine MM.gT e2 tg_32 tq_14 lays_8 ww_486 d_X_secret_1 rfl ?_
  refine MM.iload_n (i := 1) rfl rfl d_X_secret_4 rfl ?_
  obtain ⟨v4, e3, hf⟩ := mm_bind hf
  refine MM.callV1 (T_To_hasSecret V l t1 x1 h _ e3) (fun _ _ q => q) cal_To_hasSecret rfl t_t1 ct_7 ww_885 ww_884 ww_883 (by decide) (by simp [Value.category]) d_X_secret_5 rfl ⟨rfl, rfl⟩ rfl ?_
  obtain ⟨m72, m73⟩ := mm_ifE hf
  refine MM.if_ne (tgt := 13) d_X_secret_8 rfl rfl (fun c71 => ?_) (fun c71 => ?_)
  · replace hf := m73 c71
    refine MM.iload_n (i := 2) rfl rfl d_X_secret_13 rfl ?_
    obtain ⟨m9, m10⟩ := mm_ifE hf
    by_cases c11 : x2 = 0
    · replace hf := m9 c11
      refine MM.tableIn (tgt := 68) 0 (by rw [c11]; decide +kernel) (by decide) d_X_secret_14 rfl rfl ?_
      refine MM.aload_n (i := 0) rfl rfl d_X_secret_68 rfl ?_
      obtain ⟨t5, e6, hf⟩ := mm_bind hf
      obtain ⟨e6, t_t5⟩ := mm_gTE e6
      refine MM.gT e6 tg_32 tq_14 lays_8 ww_486 d_X_secret_69 rfl ?_
      refine MM.getI 7 t_t5 lays_7 gq_7_8 ww_393 d_X_secret_72 rfl ?_
      refine MM.iload_n (i := 1) rfl rfl d_X_secret_75 rfl ?_
      obtain ⟨v8, e7, hf⟩ := mm_bind hf
      refine MM.callS1 (T_X_bit V l (h.1 t5 8) x1 h _ e7) (fun _ _ q => q) cal_X_bit rfl ww_763 ww_887 (by decide) (by simp [Value.category]) d_X_secret_76 rfl ⟨rfl, rfl⟩ rfl ?_
      obtain rfl := Option.some.inj hf
      subst hZ
      exact MM.iret rfl d_X_secret_79 ⟨rfl, rfl⟩
    replace hf := m10 c11
    obtain ⟨m16, m17⟩ := mm_ifE hf
    by_cases c18 : x2 = 1
    · replace hf := m16 c18
      refine MM.tableIn (tgt := 80) 1 (by rw [c18]; decide +kernel) (by decide) d_X_secret_14 rfl rfl ?_
      refine MM.aload_n (i := 0) rfl rfl d_X_secret_80 rfl ?_
      obtain ⟨t12, e13, hf⟩ := mm_bind hf
      obtain ⟨e13, t_t12⟩ := mm_gTE e13
      refine MM.gT e13 tg_32 tq_14 lays_8 ww_486 d_X_secret_81 rfl ?_
      refine MM.gR 7 6 t_t12 rq_7_9 rfl lays_7 ww_398 d_X_secret_84 rfl ?_
      refine MM.iload_n (i := 1) rfl rfl d_X_secret_87 rfl ?_
      obtain ⟨k14, e15, hf⟩ := mm_bind hf
      refine MM.gI e15 (al_7_9f t_t12) d_X_secret_88 rfl ?_
      obtain rfl := Option.some.inj hf
      subst hZ
      exact MM.iret rfl d_X_secret_89 ⟨rfl, rfl⟩
    replace hf := m17 c18
    obtain ⟨m23, m24⟩ := mm_ifE hf
    by_cases c25 : x2 = 2
    · replace hf := m23 c25
      refine MM.tableIn (tgt := 90) 2 (by rw [c25]; decide +kernel) (by decide) d_X_secret_14 rfl rfl ?_
      refine MM.aload_n (i := 0) rfl rfl d_X_secret_90 rfl ?_
      obtain ⟨t19, e20, hf⟩ := mm_bind hf
      obtain ⟨e20, t_t19⟩ := mm_gTE e20
      refine MM.gT e20 tg_32 tq_14 lays_8 ww_486 d_X_secret_91 rfl ?_
      refine MM.gR 7 7 t_t19 rq_7_10 rfl lays_7 ww_402 d_X_secret_94 rfl ?_
      refine MM.iload_n (i := 1) rfl rfl d_X_secret_97 rfl ?_
      obtain ⟨k21, e22, hf⟩ := mm_bind hf
      refine MM.gI e22 (al_7_10f t_t19) d_X_secret_98 rfl ?_
      obtain rfl := Option.some.inj hf
      subst hZ
      exact MM.iret rfl d_X_secret_99 ⟨rfl, rfl⟩
    replace hf := m24 c25
    obtain ⟨m30, m31⟩ := mm_ifE hf
    by_cases c32 : x2 = 3
    · replace hf := m30 c32
      refine MM.tableIn (tgt := 100) 3 (by rw [c32]; decide +kernel) (by decide) d_X_secret_14 rfl rfl ?_
      refine MM.aload_n (i := 0) rfl rfl d_X_secret_100 rfl ?_
      obtain ⟨t26, e27, hf⟩ := mm_bind hf
      obtain ⟨e27, t_t26⟩ := mm_gTE e27
      refine MM.gT e27 tg_32 tq_14 lays_8 ww_486 d_X_secret_101 rfl ?_
      refine MM.gR 7 8 t_t26 rq_7_11 rfl lays_7 ww_405 d_X_secret_104 rfl ?_
      refine MM.iload_n (i := 1) rfl rfl d_X_secret_107 rfl ?_
      obtain ⟨k28, e29, hf⟩ := mm_bind hf
      refine MM.gI e29 (al_7_11f t_t26) d_X_secret_108 rfl ?_
      obtain rfl := Option.some.inj hf
      subst hZ
      exact MM.iret rfl d_X_secret_109 ⟨rfl, rfl⟩
    replace hf := m31 c32
    obtain ⟨m35, m36⟩ := mm_ifE hf
    by_cases c37 : x2 = 4
    · replace hf := m35 c37
      refine MM.tableIn (tgt := 110) 4 (by rw [c37]; decide +kernel) (by decide) d_X_secret_14 rfl rfl ?_
      refine MM.aload_n (i := 0) rfl rfl d_X_secret_110 rfl ?_
      refine MM.gR 8 3 tg_32 rq_8_1 rfl lays_8 ww_473 d_X_secret_111 rfl ?_
      refine MM.gR 4 1 tg_35 rq_4_0 rfl lays_4 ww_202 d_X_secret_114 rfl ?_
      refine MM.iload_n (i := 1) rfl rfl d_X_secret_117 rfl ?_
      obtain ⟨k33, e34, hf⟩ := mm_bind hf
      refine MM.gI e34 al_36 d_X_secret_118 rfl ?_
      obtain rfl := Option.some.inj hf
      subst hZ
      exact MM.iret rfl d_X_secret_119 ⟨rfl, rfl⟩
    replace hf := m36 c37
    obtain ⟨m44, m45⟩ := mm_ifE hf
    by_cases c46 : x2 = 5
    · replace hf := m44 c46
      refine MM.tableIn (tgt := 120) 5 (by rw [c46]; decide +kernel) (by decide) d_X_secret_14 rfl rfl ?_
      refine MM.aload_n (i := 0) rfl rfl d_X_secret_120 rfl ?_
      obtain ⟨t38, e39, hf⟩ := mm_bind hf
      obtain ⟨e39, t_t38⟩ := mm_gTE e39
      refine MM.gT e39 tg_32 tq_14 lays_8 ww_486 d_X_secret_121 rfl ?_
      refine MM.aload_n (i := 0) rfl rfl d_X_secret_124 rfl ?_
      refine MM.gR 8 3 tg_32 rq_8_1 rfl lays_8 ww_473 d_X_secret_125 rfl ?_
      refine MM.gR 4 1 tg_35 rq_4_0 rfl lays_4 ww_202 d_X_secret_128 rfl ?_
      refine MM.iload_n (i := 1) rfl rfl d_X_secret_131 rfl ?_
      obtain ⟨k40, e41, hf⟩ := mm_bind hf
      refine MM.gI e41 al_36 d_X_secret_132 rfl ?_
      obtain ⟨v43, e42, hf⟩ := mm_bind hf
      refine MM.callV1 (T_To_knowers V l t38 (h.1 36 k40) h _ e42) (fun _ _ q => q) cal_To_knowers rfl t_t38 ct_7 ww_890 ww_889 ww_888 (by decide) (by simp [Value.category]) d_X_secret_133 rfl ⟨rfl, rfl⟩ rfl ?_
      obtain rfl := Option.some.inj hf
      subst hZ
      exact MM.iret rfl d_X_secret_136 ⟨rfl, rfl⟩
    replace hf := m45 c46
    obtain ⟨m51, m52⟩ := mm_ifE hf
    by_cases c53 : x2 = 6
    · replace hf := m51 c53
      refine MM.tableIn (tgt := 137) 6 (by rw [c53]; decide +kernel) (by decide) d_X_secret_14 rfl rfl ?_
      refine MM.aload_n (i := 0) rfl rfl d_X_secret_137 rfl ?_
      refine MM.aload_n (i := 0) rfl rfl d_X_secret_138 rfl ?_
      refine MM.gR 8 3 tg_32 rq_8_1 rfl lays_8 ww_473 d_X_secret_139 rfl ?_
      obtain ⟨v48, e47, hf⟩ := mm_bind hf
      refine MM.callV1 (T_X_weighed V l 35 h _ e47) (fun _ _ q => q) cal_X_weighed rfl tg_32 ct_8 ww_8 ww_900 ww_898 (by decide) (by simp [Value.category]) d_X_secret_142 rfl ⟨rfl, rfl⟩ rfl ?_
      refine MM.iload_n (i := 1) rfl rfl d_X_secret_145 rfl ?_
      obtain ⟨k49, e50, hf⟩ := mm_bind hf
      refine MM.gI e50 al_76 d_X_secret_146 rfl ?_
      obtain rfl := Option.some.inj hf
      subst hZ
      exact MM.iret rfl d_X_secret_147 ⟨rfl, rfl⟩
    replace hf := m52 c53
    obtain ⟨m56, m57⟩ := mm_ifE hf
    by_cases c58 : x2 = 7
    · replace hf := m56 c58
      refine MM.tableIn (tgt := 148) 7 (by rw [c58]; decide +kernel) (by decide) d_X_secret_14 rfl rfl ?_
      refine MM.aload_n (i := 0) rfl rfl d_X_secret_148 rfl ?_
      refine MM.gR 8 3 tg_32 rq_8_1 rfl lays_8 ww_473 d_X_secret_149 rfl ?_
      refine MM.getI 4 tg_35 lays_4 gq_4_5 ww_212 d_X_secret_152 rfl ?_
      refine MM.iload_n (i := 1) rfl rfl d_X_secret_155 rfl ?_
      obtain ⟨v55, e54, hf⟩ := mm_bind hf
      refine MM.callS1 (T_X_bit V l (h.1 35 5) x1 h _ e54) (fun _ _ q => q) cal_X_bit rfl ww_763 ww_887 (by decide) (by simp [Value.category]) d_X_secret_156 rfl ⟨rfl, rfl⟩ rfl ?_
      obtain rfl := Option.some.inj hf
      subst hZ
      exact MM.iret rfl d_X_secret_159 ⟨rfl, rfl⟩
    replace hf := m57 c58
    obtain ⟨m61, m62⟩ := mm_ifE hf
    by_cases c63 : x2 = 8
    · replace hf := m61 c63
      refine MM.tableIn (tgt := 160) 8 (by rw [c63]; decide +kernel) (by decide) d_X_secret_14 rfl rfl ?_
      refine MM.aload_n (i := 0) rfl rfl d_X_secret_160 rfl ?_
      refine MM.gR 8 3 tg_32 rq_8_1 rfl lays_8 ww_473 d_X_secret_161 rfl ?_
      refine MM.getI 4 tg_35 lays_4 gq_4_6 ww_214 d_X_secret_164 rfl ?_
      refine MM.iload_n (i := 1) rfl rfl d_X_secret_167 rfl ?_
      obtain ⟨v60, e59, hf⟩ := mm_bind hf
      refine MM.callS1 (T_X_bit V l (h.1 35 6) x1 h _ e59) (fun _ _ q => q) cal_X_bit rfl ww_763 ww_887 (by decide) (by simp [Value.category]) d_X_secret_168 rfl ⟨rfl, rfl⟩ rfl ?_
      obtain rfl := Option.some.inj hf
      subst hZ
      exact MM.iret rfl d_X_secret_171 ⟨rfl, rfl⟩
    replace hf := m62 c63
    obtain ⟨m68, m69⟩ := mm_ifE hf
    by_cases c70 : x2 = 9
    · replace hf := m68 c70
      refine MM.tableIn (tgt := 172) 9 (by rw [c70]; decide +kernel) (by decide) d_X_secret_14 rfl rfl ?_
      refine MM.aload_n (i := 0) rfl rfl d_X_secret_172 rfl ?_
      obtain ⟨t64, e65, hf⟩ := mm_bind hf
      obtain ⟨e65, t_t64⟩ := mm_gTE e65
      refine MM.gT e65 tg_32 tq_14 lays_8 ww_486 d_X_secret_173 rfl ?_
      refine MM.gR 7 13 t_t64 rq_7_18 rfl lays_7 ww_426 d_X_secret_176 rfl ?_
      refine MM.iload_n (i := 1) rfl rfl d_X_secret_179 rfl ?_
      obtain ⟨k66, e67, hf⟩ := mm_bind hf
      refine MM.gI e67 (al_7_18f t_t64) d_X_secret_180 rfl ?_
      obtain rfl := Option.some.inj hf
      subst hZ
      exact MM.iret rfl d_X_secret_181 ⟨rfl, rfl⟩
    replace hf := m69 c70
    have zc11 := mm_swOut c11
    have zc18 := mm_swOut c18
    have zc25 := mm_swOut c25
    have zc32 := mm_swOut c32
    have zc37 := mm_swOut c37
    have zc46 := mm_swOut c46
    have zc53 := mm_swOut c53
    have zc58 := mm_swOut c58
    have zc63 := mm_swOut c63
    have zc70 := mm_swOut c70
    refine MM.tableOut (tgt := 182) (by replace zc11 : _ ≠ (0 : Int) := zc11; replace zc18 : _ ≠ (1 : Int) := zc18; replace zc25 : _ ≠ (2 : Int) := zc25; replace zc32 : _ ≠ (3 : Int) := zc32; replace zc37 : _ ≠ (4 : Int) := zc37; replace zc46 : _ ≠ (5 : Int) := zc46; replace zc53 : _ ≠ (6 : Int) := zc53; replace zc58 : _ ≠ (7 : Int) := zc58; replace zc63 : _ ≠ (8 : Int) := zc63; replace zc70 : _ ≠ (9 : Int) := zc70; omega) d_X_secret_14 rfl ?_
    refine MM.iconst ic_m1 d_X_secret_182 rfl ?_
    obtain rfl := Option.some.inj hf
    subst hZ
    exact MM.iret rfl d_X_secret_183 ⟨rfl, rfl⟩
  · replace hf := m72 c71
    refine MM.iconst ic_m1 d_X_secret_11 rfl ?_
    obtain rfl := Option.some.inj hf
    subst hZ
    exact MM.iret rfl d_X_secret_12 ⟨rfl, rfl⟩
theorem d_To_hasPair_0 : decode cX8_hasPair 0 = .ok (.aload_n 0, 1) := by decide +kernel
theorem d_To_hasPair_1 : decode cX8_hasPair 1 = .ok (.iload_n 1, 1) := by decide +kernel
theorem d_To_hasPair_2 : decode cX8_hasPair 2 = .ok (.invokevirtual 87, 3) := by decide +kernel
theorem d_To_hasPair_5 : decode cX8_hasPair 5 = .ok (.ifCond .eq 20, 3) := by decide +kernel
theorem d_To_hasPair_8 : decode cX8_hasPair 8 = .ok (.aload_n 0, 1) := by decide +kernel
theorem d_To_hasPair_9 : decode cX8_hasPair 9 = .ok (.iload_n 2, 1) := by decide +kernel
theorem d_To_hasPair_10 : decode cX8_hasPair 10 = .ok (.invokevirtual 87, 3) := by decide +kernel
theorem d_To_hasPair_13 : decode cX8_hasPair 13 = .ok (.ifCond .eq 12, 3) := by decide +kernel
theorem d_To_hasPair_16 : decode cX8_hasPair 16 = .ok (.iload_n 1, 1) := by decide +kernel
theorem d_To_hasPair_17 : decode cX8_hasPair 17 = .ok (.iload_n 2, 1) := by decide +kernel
theorem d_To_hasPair_18 : decode cX8_hasPair 18 = .ok (.if_icmp .eq 7, 3) := by decide +kernel
theorem d_To_hasPair_21 : decode cX8_hasPair 21 = .ok (.iconst 1, 1) := by decide +kernel
theorem d_To_hasPair_22 : decode cX8_hasPair 22 = .ok (.goto 4, 3) := by decide +kernel
theorem d_To_hasPair_25 : decode cX8_hasPair 25 = .ok (.iconst 0, 1) := by decide +kernel
theorem d_To_hasPair_26 : decode cX8_hasPair 26 = .ok (.ireturn, 1) := by decide +kernel
noncomputable def f_To_hasPair (a0 : Nat) (x1 : Int32) (x2 : Int32) (h : mm_H) : Option Int32 := if mm_tg a0 = 7 then ((f_To_hasPerson a0 x1 h).bind fun v2 => if v2 = 0 then (some 0) else ((f_To_hasPerson a0 x2 h).bind fun v4 => if v4 = 0 then (some 0) else (if x1 = x2 then (some 0) else (some 1)))) else none
theorem T_To_hasPair (V : mm_V) (l : Launch) (a0 : Nat) (x1 : Int32) (x2 : Int32) (h : mm_H) (r : Int32) (hf : f_To_hasPair a0 x1 x2 h = some r) : MT V l Y_To_hasPair 2 [.ref a0, .int x1, .int x2] (fun r1 h1 => r1 = some (.int r) ∧ h1 = h) h := by
  unfold f_To_hasPair at hf
  obtain ⟨t_a0, hf⟩ := mm_chkE hf
  refine MT.intro (pn_To rfl) [(0, .ref a0), (1, .int x1), (2, .int x2)] rfl (Nat.le_of_ble_eq_true rfl) ?_
  generalize hZ : mm_Z V _ = Z0
  refine MM.aload_n (i := 0) rfl rfl d_To_hasPair_0 rfl ?_
  refine MM.iload_n (i := 1) rfl rfl d_To_hasPair_1 rfl ?_
  obtain ⟨v2, e1, hf⟩ := mm_bind hf
  refine MM.callV1 (T_To_hasPerson V l a0 x1 h _ e1) (fun _ _ q => q) cal_To_hasPerson rfl t_a0 ct_7 ww_934 ww_933 ww_932 (by decide) (by simp [Value.category]) d_To_hasPair_2 rfl ⟨rfl, rfl⟩ rfl ?_
  obtain ⟨m12, m13⟩ := mm_ifE hf
  refine MM.if_eq (tgt := 25) d_To_hasPair_5 rfl rfl (fun c11 => ?_) (fun c11 => ?_)
  · replace hf := m12 c11
    refine MM.iconst ic_0 d_To_hasPair_25 rfl ?_
    obtain rfl := Option.some.inj hf
    subst hZ
    exact MM.zret (Or.inl rfl) rfl d_To_hasPair_26 ⟨rfl, rfl⟩
  · replace hf := m13 c11
    refine MM.aload_n (i := 0) rfl rfl d_To_hasPair_8 rfl ?_
    refine MM.iload_n (i := 2) rfl rfl d_To_hasPair_9 rfl ?_
    obtain ⟨v4, e3, hf⟩ := mm_bind hf
    refine MM.callV1 (T_To_hasPerson V l a0 x2 h _ e3) (fun _ _ q => q) cal_To_hasPerson rfl t_a0 ct_7 ww_934 ww_933 ww_932 (by decide) (by simp [Value.category]) d_To_hasPair_10 rfl ⟨rfl, rfl⟩ rfl ?_
    obtain ⟨m9, m10⟩ := mm_ifE hf
    refine MM.if_eq (tgt := 25) d_To_hasPair_13 rfl rfl (fun c8 => ?_) (fun c8 => ?_)
    · replace hf := m9 c8
      refine MM.iconst ic_0 d_To_hasPair_25 rfl ?_
      obtain rfl := Option.some.inj hf
      subst hZ
      exact MM.zret (Or.inl rfl) rfl d_To_hasPair_26 ⟨rfl, rfl⟩
    · replace hf := m10 c8
      refine MM.iload_n (i := 1) rfl rfl d_To_hasPair_16 rfl ?_
      refine MM.iload_n (i := 2) rfl rfl d_To_hasPair_17 rfl ?_
      obtain ⟨m6, m7⟩ := mm_ifE hf
      refine MM.icmp_eq (tgt := 25) d_To_hasPair_18 rfl rfl (fun c5 => ?_) (fun c5 => ?_)
      · replace hf := m6 c5
        refine MM.iconst ic_0 d_To_hasPair_25 rfl ?_
        obtain rfl := Option.some.inj hf
        subst hZ
        exact MM.zret (Or.inl rfl) rfl d_To_hasPair_26 ⟨rfl, rfl⟩
      · replace hf := m7 c5
        refine MM.iconst ic_1 d_To_hasPair_21 rfl ?_
        refine MM.goto (tgt := 26) d_To_hasPair_22 rfl ?_
        obtain rfl := Option.some.inj hf
        subst hZ
        exact MM.zret (Or.inr rfl) rfl d_To_hasPair_26 ⟨rfl, rfl⟩
theorem d_St_isAware_0 : decode cX5_isAware 0 = .ok (.aload_n 0, 1) := by decide +kernel
theorem d_St_isAware_1 : decode cX5_isAware 1 = .ok (.getfield 15, 3) := by decide +kernel
theorem d_St_isAware_4 : decode cX5_isAware 4 = .ok (.iload_n 1, 1) := by decide +kernel
theorem d_St_isAware_5 : decode cX5_isAware 5 = .ok (.laload, 1) := by decide +kernel
theorem d_St_isAware_6 : decode cX5_isAware 6 = .ok (.iload_n 2, 1) := by decide +kernel
theorem d_St_isAware_7 : decode cX5_isAware 7 = .ok (.bipush 10, 2) := by decide +kernel
theorem d_St_isAware_9 : decode cX5_isAware 9 = .ok (.imul, 1) := by decide +kernel
theorem d_St_isAware_10 : decode cX5_isAware 10 = .ok (.iload_n 3, 1) := by decide +kernel
theorem d_St_isAware_11 : decode cX5_isAware 11 = .ok (.iadd, 1) := by decide +kernel
theorem d_St_isAware_12 : decode cX5_isAware 12 = .ok (.lshr, 1) := by decide +kernel
theorem d_St_isAware_13 : decode cX5_isAware 13 = .ok (.lconst 1, 1) := by decide +kernel
theorem d_St_isAware_14 : decode cX5_isAware 14 = .ok (.land, 1) := by decide +kernel
theorem d_St_isAware_15 : decode cX5_isAware 15 = .ok (.lconst 1, 1) := by decide +kernel
theorem d_St_isAware_16 : decode cX5_isAware 16 = .ok (.lcmp, 1) := by decide +kernel
theorem d_St_isAware_17 : decode cX5_isAware 17 = .ok (.ifCond .ne 7, 3) := by decide +kernel
theorem d_St_isAware_20 : decode cX5_isAware 20 = .ok (.iconst 1, 1) := by decide +kernel
theorem d_St_isAware_21 : decode cX5_isAware 21 = .ok (.goto 4, 3) := by decide +kernel
theorem d_St_isAware_24 : decode cX5_isAware 24 = .ok (.iconst 0, 1) := by decide +kernel
theorem d_St_isAware_25 : decode cX5_isAware 25 = .ok (.ireturn, 1) := by decide +kernel
noncomputable def f_St_isAware (a0 : Nat) (x1 : Int32) (x2 : Int32) (x3 : Int32) (h : mm_H) : Option Int32 := if mm_tg a0 = 4 then ((mm_ix x1 6).bind fun k1 => if (lg_cmp (((h.2.1 (a0 + 2) k1) >>> (Int32.toInt64 ((x2 * 10) + x3) &&& 63)) &&& 1) 1) = 0 then (some 1) else (some 0)) else none
theorem T_St_isAware (V : mm_V) (l : Launch) (a0 : Nat) (x1 : Int32) (x2 : Int32) (x3 : Int32) (h : mm_H) (r : Int32) (hf : f_St_isAware a0 x1 x2 x3 h = some r) : MT V l Y_St_isAware 1 [.ref a0, .int x1, .int x2, .int x3] (fun r1 h1 => r1 = some (.int r) ∧ h1 = h) h := by
  unfold f_St_isAware at hf
  obtain ⟨t_a0, hf⟩ := mm_chkE hf
  refine MT.intro (pn_St rfl) [(0, .ref a0), (1, .int x1), (2, .int x2), (3, .int x3)] rfl (Nat.le_of_ble_eq_true rfl) ?_
  generalize hZ : mm_Z V _ = Z0
  refine MM.aload_n (i := 0) rfl rfl d_St_isAware_0 rfl ?_
  refine MM.gR 4 2 t_a0 rq_4_1 rfl lays_4 ww_203 d_St_isAware_1 rfl ?_
  refine MM.iload_n (i := 1) rfl rfl d_St_isAware_4 rfl ?_
  obtain ⟨k1, e2, hf⟩ := mm_bind hf
  refine MM.gL e2 (al_4_1f t_a0) d_St_isAware_5 rfl ?_
  refine MM.iload_n (i := 2) rfl rfl d_St_isAware_6 rfl ?_
  refine MM.bipush bp_10 d_St_isAware_7 rfl ?_
  refine MM.imul d_St_isAware_9 rfl ?_
  refine MM.iload_n (i := 3) rfl rfl d_St_isAware_10 rfl ?_
  refine MM.iadd d_St_isAware_11 rfl ?_
  refine MM.lshr d_St_isAware_12 rfl ?_
  refine MM.lconst (v := 1) rfl d_St_isAware_13 rfl ?_
  refine MM.land d_St_isAware_14 rfl ?_
  refine MM.lconst (v := 1) rfl d_St_isAware_15 rfl ?_
  refine MM.lcmp d_St_isAware_16 rfl ?_
  obtain ⟨m4, m5⟩ := mm_ifE hf
  refine MM.if_ne (tgt := 24) d_St_isAware_17 rfl rfl (fun c3 => ?_) (fun c3 => ?_)
  · replace hf := m5 c3
    refine MM.iconst ic_0 d_St_isAware_24 rfl ?_
    obtain rfl := Option.some.inj hf
    subst hZ
    exact MM.zret (Or.inl rfl) rfl d_St_isAware_25 ⟨rfl, rfl⟩
  · replace hf := m4 c3
    refine MM.iconst ic_1 d_St_isAware_20 rfl ?_
    refine MM.goto (tgt := 25) d_St_isAware_21 rfl ?_
    obtain rfl := Option.some.inj hf
    subst hZ
    exact MM.zret (Or.inr rfl) rfl d_St_isAware_25 ⟨rfl, rfl⟩
theorem d_X_aware_0 : decode cX11_aware 0 = .ok (.aload_n 0, 1) := by decide +kernel
theorem d_X_aware_1 : decode cX11_aware 1 = .ok (.getfield 81, 3) := by decide +kernel
theorem d_X_aware_4 : decode cX11_aware 4 = .ok (.iload_n 1, 1) := by decide +kernel
theorem d_X_aware_5 : decode cX11_aware 5 = .ok (.iload_n 2, 1) := by decide +kernel
theorem d_X_aware_6 : decode cX11_aware 6 = .ok (.invokevirtual 205, 3) := by decide +kernel
theorem d_X_aware_9 : decode cX11_aware 9 = .ok (.ifCond .eq 14, 3) := by decide +kernel
theorem d_X_aware_12 : decode cX11_aware 12 = .ok (.aload_n 0, 1) := by decide +kernel
theorem d_X_aware_13 : decode cX11_aware 13 = .ok (.getfield 81, 3) := by decide +kernel
theorem d_X_aware_16 : decode cX11_aware 16 = .ok (.iload_n 3, 1) := by decide +kernel
theorem d_X_aware_17 : decode cX11_aware 17 = .ok (.invokevirtual 174, 3) := by decide +kernel
theorem d_X_aware_20 : decode cX11_aware 20 = .ok (.ifCond .ne 5, 3) := by decide +kernel
theorem d_X_aware_23 : decode cX11_aware 23 = .ok (.iconst (-1), 1) := by decide +kernel
theorem d_X_aware_24 : decode cX11_aware 24 = .ok (.ireturn, 1) := by decide +kernel
theorem d_X_aware_25 : decode cX11_aware 25 = .ok (.aload_n 0, 1) := by decide +kernel
theorem d_X_aware_26 : decode cX11_aware 26 = .ok (.getfield 19, 3) := by decide +kernel
theorem d_X_aware_29 : decode cX11_aware 29 = .ok (.iload_n 1, 1) := by decide +kernel
theorem d_X_aware_30 : decode cX11_aware 30 = .ok (.iload_n 2, 1) := by decide +kernel
theorem d_X_aware_31 : decode cX11_aware 31 = .ok (.iload_n 3, 1) := by decide +kernel
theorem d_X_aware_32 : decode cX11_aware 32 = .ok (.invokevirtual 209, 3) := by decide +kernel
theorem d_X_aware_35 : decode cX11_aware 35 = .ok (.ifCond .eq 7, 3) := by decide +kernel
theorem d_X_aware_38 : decode cX11_aware 38 = .ok (.iconst 1, 1) := by decide +kernel
theorem d_X_aware_39 : decode cX11_aware 39 = .ok (.goto 4, 3) := by decide +kernel
theorem d_X_aware_42 : decode cX11_aware 42 = .ok (.iconst 0, 1) := by decide +kernel
theorem d_X_aware_43 : decode cX11_aware 43 = .ok (.ireturn, 1) := by decide +kernel
noncomputable def f_X_aware (x1 : Int32) (x2 : Int32) (x3 : Int32) (h : mm_H) : Option Int32 := (mm_gT h 14).bind fun t1 => (f_To_hasPair t1 x1 x2 h).bind fun v4 => if v4 = 0 then (some (-1)) else ((mm_gT h 14).bind fun t5 => (f_To_hasSecret t5 x3 h).bind fun v8 => if v8 = 0 then (some (-1)) else ((f_St_isAware 35 x1 x2 x3 h).bind fun v10 => if v10 = 0 then (some 0) else (some 1)))
theorem T_X_aware (V : mm_V) (l : Launch) (x1 : Int32) (x2 : Int32) (x3 : Int32) (h : mm_H) (r : Int32) (hf : f_X_aware x1 x2 x3 h = some r) : MT V l Y_X_aware 3 [.ref 32, .int x1, .int x2, .int x3] (fun r1 h1 => r1 = some (.int r) ∧ h1 = h) h := by
  unfold f_X_aware at hf
  refine MT.intro (pn_X rfl) [(0, .ref 32), (1, .int x1), (2, .int x2), (3, .int x3)] rfl (Nat.le_of_ble_eq_true rfl) ?_
  generalize hZ : mm_Z V _ = Z0
  refine MM.aload_n (i := 0) rfl rfl d_X_aware_0 rfl ?_
  obtain ⟨t1, e2, hf⟩ := mm_bind hf
  obtain ⟨e2, t_t1⟩ := mm_gTE e2
  refine MM.gT e2 tg_32 tq_14 lays_8 ww_486 d_X_aware_1 rfl ?_
  refine MM.iload_n (i := 1) rfl rfl d_X_aware_4 rfl ?_
  refine MM.iload_n (i := 2) rfl rfl d_X_aware_5 rfl ?_
  obtain ⟨v4, e3, hf⟩ := mm_bind hf
  refine MM.callV1 (T_To_hasPair V l t1 x1 x2 h _ e3) (fun _ _ q => q) cal_To_hasPair rfl t_t1 ct_7 ww_930 ww_929 ww_928 (by decide) (by simp [Value.category]) d_X_aware_6 rfl ⟨rfl, rfl⟩ rfl ?_
  obtain ⟨m18, m19⟩ := mm_ifE hf
  refine MM.if_eq (tgt := 23) d_X_aware_9 rfl rfl (fun c17 => ?_) (fun c17 => ?_)
  · replace hf := m18 c17
    refine MM.iconst ic_m1 d_X_aware_23 rfl ?_
    obtain rfl := Option.some.inj hf
    subst hZ
    exact MM.iret rfl d_X_aware_24 ⟨rfl, rfl⟩
  · replace hf := m19 c17
    refine MM.aload_n (i := 0) rfl rfl d_X_aware_12 rfl ?_
    obtain ⟨t5, e6, hf⟩ := mm_bind hf
    obtain ⟨e6, t_t5⟩ := mm_gTE e6
    refine MM.gT e6 tg_32 tq_14 lays_8 ww_486 d_X_aware_13 rfl ?_
    refine MM.iload_n (i := 3) rfl rfl d_X_aware_16 rfl ?_
    obtain ⟨v8, e7, hf⟩ := mm_bind hf
    refine MM.callV1 (T_To_hasSecret V l t5 x3 h _ e7) (fun _ _ q => q) cal_To_hasSecret rfl t_t5 ct_7 ww_885 ww_884 ww_883 (by decide) (by simp [Value.category]) d_X_aware_17 rfl ⟨rfl, rfl⟩ rfl ?_
    obtain ⟨m15, m16⟩ := mm_ifE hf
    refine MM.if_ne (tgt := 25) d_X_aware_20 rfl rfl (fun c14 => ?_) (fun c14 => ?_)
    · replace hf := m16 c14
      refine MM.aload_n (i := 0) rfl rfl d_X_aware_25 rfl ?_
      refine MM.gR 8 3 tg_32 rq_8_1 rfl lays_8 ww_473 d_X_aware_26 rfl ?_
      refine MM.iload_n (i := 1) rfl rfl d_X_aware_29 rfl ?_
      refine MM.iload_n (i := 2) rfl rfl d_X_aware_30 rfl ?_
      refine MM.iload_n (i := 3) rfl rfl d_X_aware_31 rfl ?_
      obtain ⟨v10, e9, hf⟩ := mm_bind hf
      refine MM.callV1 (T_St_isAware V l 35 x1 x2 x3 h _ e9) (fun _ _ q => q) cal_St_isAware rfl tg_35 ct_4 ww_938 ww_937 ww_936 (by decide) (by simp [Value.category]) d_X_aware_32 rfl ⟨rfl, rfl⟩ rfl ?_
      obtain ⟨m12, m13⟩ := mm_ifE hf
      refine MM.if_eq (tgt := 42) d_X_aware_35 rfl rfl (fun c11 => ?_) (fun c11 => ?_)
      · replace hf := m12 c11
        refine MM.iconst ic_0 d_X_aware_42 rfl ?_
        obtain rfl := Option.some.inj hf
        subst hZ
        exact MM.iret rfl d_X_aware_43 ⟨rfl, rfl⟩
      · replace hf := m13 c11
        refine MM.iconst ic_1 d_X_aware_38 rfl ?_
        refine MM.goto (tgt := 43) d_X_aware_39 rfl ?_
        obtain rfl := Option.some.inj hf
        subst hZ
        exact MM.iret rfl d_X_aware_43 ⟨rfl, rfl⟩
    · replace hf := m15 c14
      refine MM.iconst ic_m1 d_X_aware_23 rfl ?_
      obtain rfl := Option.some.inj hf
      subst hZ
      exact MM.iret rfl d_X_aware_24 ⟨rfl, rfl⟩
theorem d_To_chance_0 : decode cX8_chance 0 = .ok (.aload_n 0, 1) := by decide +kernel
theorem d_To_chance_1 : decode cX8_chance 1 = .ok (.getfield 62, 3) := by decide +kernel
theorem d_To_chance_4 : decode cX8_chance 4 = .ok (.iload_n 1, 1) := by decide +kernel
theorem d_To_chance_5 : decode cX8_chance 5 = .ok (.bipush 6, 2) := by decide +kernel
theorem d_To_chance_7 : decode cX8_chance 7 = .ok (.imul, 1) := by decide +kernel
theorem d_To_chance_8 : decode cX8_chance 8 = .ok (.iload_n 2, 1) := by decide +kernel
theorem d_To_chance_9 : decode cX8_chance 9 = .ok (.iadd, 1) := by decide +kernel
theorem d_To_chance_10 : decode cX8_chance 10 = .ok (.iaload, 1) := by decide +kernel
theorem d_To_chance_11 : decode cX8_chance 11 = .ok (.istore_n 3, 1) := by decide +kernel
theorem d_To_chance_12 : decode cX8_chance 12 = .ok (.iload_n 3, 1) := by decide +kernel
theorem d_To_chance_13 : decode cX8_chance 13 = .ok (.ifCond .lt 24, 3) := by decide +kernel
theorem d_To_chance_16 : decode cX8_chance 16 = .ok (.aload_n 0, 1) := by decide +kernel
theorem d_To_chance_17 : decode cX8_chance 17 = .ok (.getfield 19, 3) := by decide +kernel
theorem d_To_chance_20 : decode cX8_chance 20 = .ok (.iload_n 1, 1) := by decide +kernel
theorem d_To_chance_21 : decode cX8_chance 21 = .ok (.iaload, 1) := by decide +kernel
theorem d_To_chance_22 : decode cX8_chance 22 = .ok (.iconst 1, 1) := by decide +kernel
theorem d_To_chance_23 : decode cX8_chance 23 = .ok (.if_icmp .ne 14, 3) := by decide +kernel
theorem d_To_chance_26 : decode cX8_chance 26 = .ok (.iload_n 3, 1) := by decide +kernel
theorem d_To_chance_27 : decode cX8_chance 27 = .ok (.iconst 1, 1) := by decide +kernel
theorem d_To_chance_28 : decode cX8_chance 28 = .ok (.iadd, 1) := by decide +kernel
theorem d_To_chance_29 : decode cX8_chance 29 = .ok (.bipush 10, 2) := by decide +kernel
theorem d_To_chance_31 : decode cX8_chance 31 = .ok (.invokestatic 97, 3) := by decide +kernel
theorem d_To_chance_34 : decode cX8_chance 34 = .ok (.goto 4, 3) := by decide +kernel
theorem d_To_chance_37 : decode cX8_chance 37 = .ok (.iload_n 3, 1) := by decide +kernel
theorem d_To_chance_38 : decode cX8_chance 38 = .ok (.ireturn, 1) := by decide +kernel
noncomputable def f_To_chance (a0 : Nat) (x1 : Int32) (x2 : Int32) (h : mm_H) : Option Int32 := if mm_tg a0 = 7 then ((mm_ix ((x1 * 6) + x2) 36).bind fun k1 => mm_let (h.1 (a0 + 12) k1) fun y3 => mm_jp (fun (j5 : Unit) => (some y3)) fun k7 => if y3 < 0 then (k7 ()) else ((mm_ix x1 6).bind fun k8 => if (h.1 (a0 + 2) k8) = 1 then ((f_JM_min (y3 + 1) 10).bind fun v11 => some v11) else (k7 ()))) else none
theorem T_To_chance (V : mm_V) (l : Launch) (a0 : Nat) (x1 : Int32) (x2 : Int32) (h : mm_H) (r : Int32) (hf : f_To_chance a0 x1 x2 h = some r) : MT V l Y_To_chance 2 [.ref a0, .int x1, .int x2] (fun r1 h1 => r1 = some (.int r) ∧ h1 = h) h := by
  unfold f_To_chance at hf
  obtain ⟨t_a0, hf⟩ := mm_chkE hf
  refine MT.intro (pn_To rfl) [(0, .ref a0), (1, .int x1), (2, .int x2)] rfl (Nat.le_of_ble_eq_true rfl) ?_
  generalize hZ : mm_Z V _ = Z0
  refine MM.aload_n (i := 0) rfl rfl d_To_chance_0 rfl ?_
  refine MM.gR 7 12 t_a0 rq_7_16 rfl lays_7 ww_420 d_To_chance_1 rfl ?_
  refine MM.iload_n (i := 1) rfl rfl d_To_chance_4 rfl ?_
  refine MM.bipush bp_6 d_To_chance_5 rfl ?_
  refine MM.imul d_To_chance_7 rfl ?_
  refine MM.iload_n (i := 2) rfl rfl d_To_chance_8 rfl ?_
  refine MM.iadd d_To_chance_9 rfl ?_
  obtain ⟨k1, e2, hf⟩ := mm_bind hf
  refine MM.gI e2 (al_7_16f t_a0) d_To_chance_10 rfl ?_
  obtain ⟨y3, e4, hf⟩ := mm_letE hf
  refine MM.istore_n (i := 3) (lv' := [(3, .int y3), (0, .ref a0), (1, .int x1), (2, .int x2)]) e4 rfl (Nat.le_of_ble_eq_true rfl) rfl d_To_chance_11 rfl ?_
  refine MM.iload_n (i := 3) rfl rfl d_To_chance_12 rfl ?_
  obtain ⟨k7, e18, hf⟩ := mm_jpE hf
  have K6 : ∀ j5, k7 j5 = some r → MM V l Y_To_chance 2 0 0 Z0 37 [(3, .int y3)] [] h := by
    intro j5 hf
    rw [e18] at hf
    refine MM.iload_n (i := 3) rfl rfl d_To_chance_37 rfl ?_
    obtain rfl := Option.some.inj hf
    subst hZ
    exact MM.iret rfl d_To_chance_38 ⟨rfl, rfl⟩
  clear e18
  obtain ⟨m16, m17⟩ := mm_ifE hf
  refine MM.if_lt (tgt := 37) d_To_chance_13 rfl rfl (fun c15 => ?_) (fun c15 => ?_)
  · replace hf := m16 c15
    exact MM.sub [0] (by rfl) (K6 _ hf)
  · replace hf := m17 c15
    refine MM.aload_n (i := 0) rfl rfl d_To_chance_16 rfl ?_
    refine MM.gR 7 2 t_a0 rq_7_2 rfl lays_7 ww_372 d_To_chance_17 rfl ?_
    refine MM.iload_n (i := 1) rfl rfl d_To_chance_20 rfl ?_
    obtain ⟨k8, e9, hf⟩ := mm_bind hf
    refine MM.gI e9 (al_7_2f t_a0) d_To_chance_21 rfl ?_
    refine MM.iconst ic_1 d_To_chance_22 rfl ?_
    obtain ⟨m13, m14⟩ := mm_ifE hf
    refine MM.icmp_ne (tgt := 37) d_To_chance_23 rfl rfl (fun c12 => ?_) (fun c12 => ?_)
    · replace hf := m14 c12
      exact MM.sub [0] (by rfl) (K6 _ hf)
    · replace hf := m13 c12
      refine MM.iload_n (i := 3) rfl rfl d_To_chance_26 rfl ?_
      refine MM.iconst ic_1 d_To_chance_27 rfl ?_
      refine MM.iadd d_To_chance_28 rfl ?_
      refine MM.bipush bp_10 d_To_chance_29 rfl ?_
      obtain ⟨v11, e10, hf⟩ := mm_bind hf
      refine MM.callS1 (T_JM_min V l (y3 + 1) 10 h _ e10) (fun _ _ q => q) cal_JM_min rfl ww_607 ww_948 (by decide) (by simp [Value.category]) d_To_chance_31 rfl ⟨rfl, rfl⟩ rfl ?_
      refine MM.goto (tgt := 38) d_To_chance_34 rfl ?_
      obtain rfl := Option.some.inj hf
      subst hZ
      exact MM.iret rfl d_To_chance_38 ⟨rfl, rfl⟩
theorem d_X_ear_0 : decode cX11_ear 0 = .ok (.aload_n 0, 1) := by decide +kernel
theorem d_X_ear_1 : decode cX11_ear 1 = .ok (.getfield 81, 3) := by decide +kernel
theorem d_X_ear_4 : decode cX11_ear 4 = .ok (.iload_n 1, 1) := by decide +kernel
theorem d_X_ear_5 : decode cX11_ear 5 = .ok (.iload_n 2, 1) := by decide +kernel
theorem d_X_ear_6 : decode cX11_ear 6 = .ok (.invokevirtual 205, 3) := by decide +kernel
theorem d_X_ear_9 : decode cX11_ear 9 = .ok (.ifCond .eq 15, 3) := by decide +kernel
theorem d_X_ear_12 : decode cX11_ear 12 = .ok (.aload_n 0, 1) := by decide +kernel
theorem d_X_ear_13 : decode cX11_ear 13 = .ok (.getfield 81, 3) := by decide +kernel
theorem d_X_ear_16 : decode cX11_ear 16 = .ok (.iload_n 1, 1) := by decide +kernel
theorem d_X_ear_17 : decode cX11_ear 17 = .ok (.iload_n 2, 1) := by decide +kernel
theorem d_X_ear_18 : decode cX11_ear 18 = .ok (.invokevirtual 213, 3) := by decide +kernel
theorem d_X_ear_21 : decode cX11_ear 21 = .ok (.goto 4, 3) := by decide +kernel
theorem d_X_ear_24 : decode cX11_ear 24 = .ok (.iconst (-1), 1) := by decide +kernel
theorem d_X_ear_25 : decode cX11_ear 25 = .ok (.ireturn, 1) := by decide +kernel
noncomputable def f_X_ear (x1 : Int32) (x2 : Int32) (h : mm_H) : Option Int32 := (mm_gT h 14).bind fun t1 => (f_To_hasPair t1 x1 x2 h).bind fun v4 => if v4 = 0 then (some (-1)) else ((mm_gT h 14).bind fun t5 => (f_To_chance t5 x1 x2 h).bind fun v8 => some v8)
theorem T_X_ear (V : mm_V) (l : Launch) (x1 : Int32) (x2 : Int32) (h : mm_H) (r : Int32) (hf : f_X_ear x1 x2 h = some r) : MT V l Y_X_ear 3 [.ref 32, .int x1, .int x2] (fun r1 h1 => r1 = some (.int r) ∧ h1 = h) h := by
  unfold f_X_ear at hf
  refine MT.intro (pn_X rfl) [(0, .ref 32), (1, .int x1), (2, .int x2)] rfl (Nat.le_of_ble_eq_true rfl) ?_
  generalize hZ : mm_Z V _ = Z0
  refine MM.aload_n (i := 0) rfl rfl d_X_ear_0 rfl ?_
  obtain ⟨t1, e2, hf⟩ := mm_bind hf
  obtain ⟨e2, t_t1⟩ := mm_gTE e2
  refine MM.gT e2 tg_32 tq_14 lays_8 ww_486 d_X_ear_1 rfl ?_
  refine MM.iload_n (i := 1) rfl rfl d_X_ear_4 rfl ?_
  refine MM.iload_n (i := 2) rfl rfl d_X_ear_5 rfl ?_
  obtain ⟨v4, e3, hf⟩ := mm_bind hf
  refine MM.callV1 (T_To_hasPair V l t1 x1 x2 h _ e3) (fun _ _ q => q) cal_To_hasPair rfl t_t1 ct_7 ww_930 ww_929 ww_928 (by decide) (by simp [Value.category]) d_X_ear_6 rfl ⟨rfl, rfl⟩ rfl ?_
  obtain ⟨m10, m11⟩ := mm_ifE hf
  refine MM.if_eq (tgt := 24) d_X_ear_9 rfl rfl (fun c9 => ?_) (fun c9 => ?_)
  · replace hf := m10 c9
    refine MM.iconst ic_m1 d_X_ear_24 rfl ?_
    obtain rfl := Option.some.inj hf
    subst hZ
    exact MM.iret rfl d_X_ear_25 ⟨rfl, rfl⟩
  · replace hf := m11 c9
    refine MM.aload_n (i := 0) rfl rfl d_X_ear_12 rfl ?_
    obtain ⟨t5, e6, hf⟩ := mm_bind hf
    obtain ⟨e6, t_t5⟩ := mm_gTE e6
    refine MM.gT e6 tg_32 tq_14 lays_8 ww_486 d_X_ear_13 rfl ?_
    refine MM.iload_n (i := 1) rfl rfl d_X_ear_16 rfl ?_
    refine MM.iload_n (i := 2) rfl rfl d_X_ear_17 rfl ?_
    obtain ⟨v8, e7, hf⟩ := mm_bind hf
    refine MM.callV1 (T_To_chance V l t5 x1 x2 h _ e7) (fun _ _ q => q) cal_To_chance rfl t_t5 ct_7 ww_946 ww_945 ww_944 (by decide) (by simp [Value.category]) d_X_ear_18 rfl ⟨rfl, rfl⟩ rfl ?_
    refine MM.goto (tgt := 25) d_X_ear_21 rfl ?_
    obtain rfl := Option.some.inj hf
    subst hZ
    exact MM.iret rfl d_X_ear_25 ⟨rfl, rfl⟩
theorem d_To_speaks_0 : decode cX8_speaks 0 = .ok (.aload_n 0, 1) := by decide +kernel
theorem d_To_speaks_1 : decode cX8_speaks 1 = .ok (.getfield 19, 3) := by decide +kernel
theorem d_To_speaks_4 : decode cX8_speaks 4 = .ok (.iload_n 1, 1) := by decide +kernel
theorem d_To_speaks_5 : decode cX8_speaks 5 = .ok (.iaload, 1) := by decide +kernel
theorem d_To_speaks_6 : decode cX8_speaks 6 = .ok (.iconst 2, 1) := by decide +kernel
theorem d_To_speaks_7 : decode cX8_speaks 7 = .ok (.if_icmp .eq 17, 3) := by decide +kernel
theorem d_To_speaks_10 : decode cX8_speaks 10 = .ok (.aload_n 0, 1) := by decide +kernel
theorem d_To_speaks_11 : decode cX8_speaks 11 = .ok (.getfield 19, 3) := by decide +kernel
theorem d_To_speaks_14 : decode cX8_speaks 14 = .ok (.iload_n 1, 1) := by decide +kernel
theorem d_To_speaks_15 : decode cX8_speaks 15 = .ok (.iaload, 1) := by decide +kernel
theorem d_To_speaks_16 : decode cX8_speaks 16 = .ok (.iconst 3, 1) := by decide +kernel
theorem d_To_speaks_17 : decode cX8_speaks 17 = .ok (.if_icmp .eq 7, 3) := by decide +kernel
theorem d_To_speaks_20 : decode cX8_speaks 20 = .ok (.iconst 1, 1) := by decide +kernel
theorem d_To_speaks_21 : decode cX8_speaks 21 = .ok (.goto 4, 3) := by decide +kernel
theorem d_To_speaks_24 : decode cX8_speaks 24 = .ok (.iconst 0, 1) := by decide +kernel
theorem d_To_speaks_25 : decode cX8_speaks 25 = .ok (.ireturn, 1) := by decide +kernel
noncomputable def f_To_speaks (a0 : Nat) (x1 : Int32) (h : mm_H) : Option Int32 := if mm_tg a0 = 7 then ((mm_ix x1 6).bind fun k1 => if (h.1 (a0 + 2) k1) = 2 then (some 0) else ((mm_ix x1 6).bind fun k3 => if (h.1 (a0 + 2) k3) = 3 then (some 0) else (some 1))) else none
theorem T_To_speaks (V : mm_V) (l : Launch) (a0 : Nat) (x1 : Int32) (h : mm_H) (r : Int32) (hf : f_To_speaks a0 x1 h = some r) : MT V l Y_To_speaks 1 [.ref a0, .int x1] (fun r1 h1 => r1 = some (.int r) ∧ h1 = h) h := by
  unfold f_To_speaks at hf
  obtain ⟨t_a0, hf⟩ := mm_chkE hf
  refine MT.intro (pn_To rfl) [(0, .ref a0), (1, .int x1)] rfl (Nat.le_of_ble_eq_true rfl) ?_
  generalize hZ : mm_Z V _ = Z0
  refine MM.aload_n (i := 0) rfl rfl d_To_speaks_0 rfl ?_
  refine MM.gR 7 2 t_a0 rq_7_2 rfl lays_7 ww_372 d_To_speaks_1 rfl ?_
  refine MM.iload_n (i := 1) rfl rfl d_To_speaks_4 rfl ?_
  obtain ⟨k1, e2, hf⟩ := mm_bind hf
  refine MM.gI e2 (al_7_2f t_a0) d_To_speaks_5 rfl ?_
  refine MM.iconst ic_2 d_To_speaks_6 rfl ?_
  obtain ⟨m9, m10⟩ := mm_ifE hf
  refine MM.icmp_eq (tgt := 24) d_To_speaks_7 rfl rfl (fun c8 => ?_) (fun c8 => ?_)
  · replace hf := m9 c8
    refine MM.iconst ic_0 d_To_speaks_24 rfl ?_
    obtain rfl := Option.some.inj hf
    subst hZ
    exact MM.zret (Or.inl rfl) rfl d_To_speaks_25 ⟨rfl, rfl⟩
  · replace hf := m10 c8
    refine MM.aload_n (i := 0) rfl rfl d_To_speaks_10 rfl ?_
    refine MM.gR 7 2 t_a0 rq_7_2 rfl lays_7 ww_372 d_To_speaks_11 rfl ?_
    refine MM.iload_n (i := 1) rfl rfl d_To_speaks_14 rfl ?_
    obtain ⟨k3, e4, hf⟩ := mm_bind hf
    refine MM.gI e4 (al_7_2f t_a0) d_To_speaks_15 rfl ?_
    refine MM.iconst ic_3 d_To_speaks_16 rfl ?_
    obtain ⟨m6, m7⟩ := mm_ifE hf
    refine MM.icmp_eq (tgt := 24) d_To_speaks_17 rfl rfl (fun c5 => ?_) (fun c5 => ?_)
    · replace hf := m6 c5
      refine MM.iconst ic_0 d_To_speaks_24 rfl ?_
      obtain rfl := Option.some.inj hf
      subst hZ
      exact MM.zret (Or.inl rfl) rfl d_To_speaks_25 ⟨rfl, rfl⟩
    · replace hf := m7 c5
      refine MM.iconst ic_1 d_To_speaks_20 rfl ?_
      refine MM.goto (tgt := 25) d_To_speaks_21 rfl ?_
      obtain rfl := Option.some.inj hf
      subst hZ
      exact MM.zret (Or.inr rfl) rfl d_To_speaks_25 ⟨rfl, rfl⟩
theorem d_St_mayTell_0 : decode cX5_mayTell 0 = .ok (.aload_n 1, 1) := by decide +kernel
theorem d_St_mayTell_1 : decode cX5_mayTell 1 = .ok (.iload_n 2, 1) := by decide +kernel
theorem d_St_mayTell_2 : decode cX5_mayTell 2 = .ok (.iload_n 3, 1) := by decide +kernel
theorem d_St_mayTell_3 : decode cX5_mayTell 3 = .ok (.invokevirtual 110, 3) := by decide +kernel
theorem d_St_mayTell_6 : decode cX5_mayTell 6 = .ok (.ifCond .eq 53, 3) := by decide +kernel
theorem d_St_mayTell_9 : decode cX5_mayTell 9 = .ok (.aload_n 1, 1) := by decide +kernel
theorem d_St_mayTell_10 : decode cX5_mayTell 10 = .ok (.iload 4, 2) := by decide +kernel
theorem d_St_mayTell_12 : decode cX5_mayTell 12 = .ok (.invokevirtual 114, 3) := by decide +kernel
theorem d_St_mayTell_15 : decode cX5_mayTell 15 = .ok (.ifCond .eq 44, 3) := by decide +kernel
theorem d_St_mayTell_18 : decode cX5_mayTell 18 = .ok (.aload_n 1, 1) := by decide +kernel
theorem d_St_mayTell_19 : decode cX5_mayTell 19 = .ok (.iload_n 2, 1) := by decide +kernel
theorem d_St_mayTell_20 : decode cX5_mayTell 20 = .ok (.invokevirtual 118, 3) := by decide +kernel
theorem d_St_mayTell_23 : decode cX5_mayTell 23 = .ok (.ifCond .eq 36, 3) := by decide +kernel
theorem d_St_mayTell_26 : decode cX5_mayTell 26 = .ok (.aload_n 0, 1) := by decide +kernel
theorem d_St_mayTell_27 : decode cX5_mayTell 27 = .ok (.getfield 9, 3) := by decide +kernel
theorem d_St_mayTell_30 : decode cX5_mayTell 30 = .ok (.iload 4, 2) := by decide +kernel
theorem d_St_mayTell_32 : decode cX5_mayTell 32 = .ok (.iaload, 1) := by decide +kernel
theorem d_St_mayTell_33 : decode cX5_mayTell 33 = .ok (.iload_n 2, 1) := by decide +kernel
theorem d_St_mayTell_34 : decode cX5_mayTell 34 = .ok (.invokestatic 68, 3) := by decide +kernel
theorem d_St_mayTell_37 : decode cX5_mayTell 37 = .ok (.iconst 1, 1) := by decide +kernel
theorem d_St_mayTell_38 : decode cX5_mayTell 38 = .ok (.if_icmp .ne 21, 3) := by decide +kernel
theorem d_St_mayTell_41 : decode cX5_mayTell 41 = .ok (.aload_n 0, 1) := by decide +kernel
theorem d_St_mayTell_42 : decode cX5_mayTell 42 = .ok (.getfield 9, 3) := by decide +kernel
theorem d_St_mayTell_45 : decode cX5_mayTell 45 = .ok (.iload 4, 2) := by decide +kernel
theorem d_St_mayTell_47 : decode cX5_mayTell 47 = .ok (.iaload, 1) := by decide +kernel
theorem d_St_mayTell_48 : decode cX5_mayTell 48 = .ok (.iload_n 3, 1) := by decide +kernel
theorem d_St_mayTell_49 : decode cX5_mayTell 49 = .ok (.invokestatic 68, 3) := by decide +kernel
theorem d_St_mayTell_52 : decode cX5_mayTell 52 = .ok (.ifCond .ne 7, 3) := by decide +kernel
theorem d_St_mayTell_55 : decode cX5_mayTell 55 = .ok (.iconst 1, 1) := by decide +kernel
theorem d_St_mayTell_56 : decode cX5_mayTell 56 = .ok (.goto 4, 3) := by decide +kernel
theorem d_St_mayTell_59 : decode cX5_mayTell 59 = .ok (.iconst 0, 1) := by decide +kernel
theorem d_St_mayTell_60 : decode cX5_mayTell 60 = .ok (.ireturn, 1) := by decide +kernel
noncomputable def f_St_mayTell (a0 : Nat) (a1 : Nat) (x2 : Int32) (x3 : Int32) (x4 : Int32) (h : mm_H) : Option Int32 := if mm_tg a0 = 4 ∧ mm_tg a1 = 7 then ((f_To_hasPair a1 x2 x3 h).bind fun v2 => if v2 = 0 then (some 0) else ((f_To_hasSecret a1 x4 h).bind fun v4 => if v4 = 0 then (some 0) else ((f_To_speaks a1 x2 h).bind fun v6 => if v6 = 0 then (some 0) else ((mm_ix x4 10).bind fun k7 => (f_X_bit (h.1 (a0 + 1) k7) x2).bind fun v10 => if v10 = 1 then ((mm_ix x4 10).bind fun k11 => (f_X_bit (h.1 (a0 + 1) k11) x3).bind fun v14 => if v14 = 0 then (some 1) else (some 0)) else (some 0))))) else none
theorem T_St_mayTell (V : mm_V) (l : Launch) (a0 : Nat) (a1 : Nat) (x2 : Int32) (x3 : Int32) (x4 : Int32) (h : mm_H) (r : Int32) (hf : f_St_mayTell a0 a1 x2 x3 x4 h = some r) : MT V l Y_St_mayTell 3 [.ref a0, .ref a1, .int x2, .int x3, .int x4] (fun r1 h1 => r1 = some (.int r) ∧ h1 = h) h := by
  unfold f_St_mayTell at hf
  obtain ⟨⟨t_a0, t_a1⟩, hf⟩ := mm_chkE hf
  refine MT.intro (pn_St rfl) [(0, .ref a0), (1, .ref a1), (2, .int x2), (3, .int x3), (4, .int x4)] rfl (Nat.le_of_ble_eq_true rfl) ?_
  generalize hZ : mm_Z V _ = Z0
  refine MM.aload_n (i := 1) rfl rfl d_St_mayTell_0 rfl ?_
  refine MM.iload_n (i := 2) rfl rfl d_St_mayTell_1 rfl ?_
  refine MM.iload_n (i := 3) rfl rfl d_St_mayTell_2 rfl ?_
  obtain ⟨v2, e1, hf⟩ := mm_bind hf
  refine MM.callV1 (T_To_hasPair V l a1 x2 x3 h _ e1) (fun _ _ q => q) cal_To_hasPair rfl t_a1 ct_7 ww_930 ww_929 ww_957 (by decide) (by simp [Value.category]) d_St_mayTell_3 rfl ⟨rfl, rfl⟩ rfl ?_
  obtain ⟨m28, m29⟩ := mm_ifE hf
  refine MM.if_eq (tgt := 59) d_St_mayTell_6 rfl rfl (fun c27 => ?_) (fun c27 => ?_)
  · replace hf := m28 c27
    refine MM.iconst ic_0 d_St_mayTell_59 rfl ?_
    obtain rfl := Option.some.inj hf
    subst hZ
    exact MM.zret (Or.inl rfl) rfl d_St_mayTell_60 ⟨rfl, rfl⟩
  · replace hf := m29 c27
    refine MM.aload_n (i := 1) rfl rfl d_St_mayTell_9 rfl ?_
    refine MM.iload rfl d_St_mayTell_10 rfl ?_
    obtain ⟨v4, e3, hf⟩ := mm_bind hf
    refine MM.callV1 (T_To_hasSecret V l a1 x4 h _ e3) (fun _ _ q => q) cal_To_hasSecret rfl t_a1 ct_7 ww_885 ww_884 ww_958 (by decide) (by simp [Value.category]) d_St_mayTell_12 rfl ⟨rfl, rfl⟩ rfl ?_
    obtain ⟨m25, m26⟩ := mm_ifE hf
    refine MM.if_eq (tgt := 59) d_St_mayTell_15 rfl rfl (fun c24 => ?_) (fun c24 => ?_)
    · replace hf := m25 c24
      refine MM.iconst ic_0 d_St_mayTell_59 rfl ?_
      obtain rfl := Option.some.inj hf
      subst hZ
      exact MM.zret (Or.inl rfl) rfl d_St_mayTell_60 ⟨rfl, rfl⟩
    · replace hf := m26 c24
      refine MM.aload_n (i := 1) rfl rfl d_St_mayTell_18 rfl ?_
      refine MM.iload_n (i := 2) rfl rfl d_St_mayTell_19 rfl ?_
      obtain ⟨v6, e5, hf⟩ := mm_bind hf
      refine MM.callV1 (T_To_speaks V l a1 x2 h _ e5) (fun _ _ q => q) cal_To_speaks rfl t_a1 ct_7 ww_961 ww_960 ww_959 (by decide) (by simp [Value.category]) d_St_mayTell_20 rfl ⟨rfl, rfl⟩ rfl ?_
      obtain ⟨m22, m23⟩ := mm_ifE hf
      refine MM.if_eq (tgt := 59) d_St_mayTell_23 rfl rfl (fun c21 => ?_) (fun c21 => ?_)
      · replace hf := m22 c21
        refine MM.iconst ic_0 d_St_mayTell_59 rfl ?_
        obtain rfl := Option.some.inj hf
        subst hZ
        exact MM.zret (Or.inl rfl) rfl d_St_mayTell_60 ⟨rfl, rfl⟩
      · replace hf := m23 c21
        refine MM.aload_n (i := 0) rfl rfl d_St_mayTell_26 rfl ?_
        refine MM.gR 4 1 t_a0 rq_4_0 rfl lays_4 ww_201 d_St_mayTell_27 rfl ?_
        refine MM.iload rfl d_St_mayTell_30 rfl ?_
        obtain ⟨k7, e8, hf⟩ := mm_bind hf
        refine MM.gI e8 (al_4_0f t_a0) d_St_mayTell_32 rfl ?_
        refine MM.iload_n (i := 2) rfl rfl d_St_mayTell_33 rfl ?_
        obtain ⟨v10, e9, hf⟩ := mm_bind hf
        refine MM.callSN1 (T_X_bit V l (h.1 (a0 + 1) k7) x2 h _ e9) (fun _ _ q => q) cal_X_bit rfl ww_763 ww_906n (by decide) (by simp [Value.category]) d_St_mayTell_34 rfl ⟨rfl, rfl⟩ rfl ?_
        refine MM.iconst ic_1 d_St_mayTell_37 rfl ?_
        obtain ⟨m19, m20⟩ := mm_ifE hf
        refine MM.icmp_ne (tgt := 59) d_St_mayTell_38 rfl rfl (fun c18 => ?_) (fun c18 => ?_)
        · replace hf := m20 c18
          refine MM.iconst ic_0 d_St_mayTell_59 rfl ?_
          obtain rfl := Option.some.inj hf
          subst hZ
          exact MM.zret (Or.inl rfl) rfl d_St_mayTell_60 ⟨rfl, rfl⟩
        · replace hf := m19 c18
          refine MM.aload_n (i := 0) rfl rfl d_St_mayTell_41 rfl ?_
          refine MM.gR 4 1 t_a0 rq_4_0 rfl lays_4 ww_201 d_St_mayTell_42 rfl ?_
          refine MM.iload rfl d_St_mayTell_45 rfl ?_
          obtain ⟨k11, e12, hf⟩ := mm_bind hf
          refine MM.gI e12 (al_4_0f t_a0) d_St_mayTell_47 rfl ?_
          refine MM.iload_n (i := 3) rfl rfl d_St_mayTell_48 rfl ?_
          obtain ⟨v14, e13, hf⟩ := mm_bind hf
          refine MM.callSN1 (T_X_bit V l (h.1 (a0 + 1) k11) x3 h _ e13) (fun _ _ q => q) cal_X_bit rfl ww_763 ww_906n (by decide) (by simp [Value.category]) d_St_mayTell_49 rfl ⟨rfl, rfl⟩ rfl ?_
          obtain ⟨m16, m17⟩ := mm_ifE hf
          refine MM.if_ne (tgt := 59) d_St_mayTell_52 rfl rfl (fun c15 => ?_) (fun c15 => ?_)
          · replace hf := m17 c15
            refine MM.iconst ic_0 d_St_mayTell_59 rfl ?_
            obtain rfl := Option.some.inj hf
            subst hZ
            exact MM.zret (Or.inl rfl) rfl d_St_mayTell_60 ⟨rfl, rfl⟩
          · replace hf := m16 c15
            refine MM.iconst ic_1 d_St_mayTell_55 rfl ?_
            refine MM.goto (tgt := 60) d_St_mayTell_56 rfl ?_
            obtain rfl := Option.some.inj hf
            subst hZ
            exact MM.zret (Or.inr rfl) rfl d_St_mayTell_60 ⟨rfl, rfl⟩
theorem d_St_copyFrom_0 : decode cX5_copyFrom 0 = .ok (.aload_n 1, 1) := by decide +kernel
theorem d_St_copyFrom_1 : decode cX5_copyFrom 1 = .ok (.getfield 9, 3) := by decide +kernel
theorem d_St_copyFrom_4 : decode cX5_copyFrom 4 = .ok (.iconst 0, 1) := by decide +kernel
theorem d_St_copyFrom_5 : decode cX5_copyFrom 5 = .ok (.aload_n 0, 1) := by decide +kernel
theorem d_St_copyFrom_6 : decode cX5_copyFrom 6 = .ok (.getfield 9, 3) := by decide +kernel
theorem d_St_copyFrom_9 : decode cX5_copyFrom 9 = .ok (.iconst 0, 1) := by decide +kernel
theorem d_St_copyFrom_10 : decode cX5_copyFrom 10 = .ok (.bipush 10, 2) := by decide +kernel
theorem d_St_copyFrom_12 : decode cX5_copyFrom 12 = .ok (.invokestatic 49, 3) := by decide +kernel
theorem d_St_copyFrom_15 : decode cX5_copyFrom 15 = .ok (.aload_n 1, 1) := by decide +kernel
theorem d_St_copyFrom_16 : decode cX5_copyFrom 16 = .ok (.getfield 15, 3) := by decide +kernel
theorem d_St_copyFrom_19 : decode cX5_copyFrom 19 = .ok (.iconst 0, 1) := by decide +kernel
theorem d_St_copyFrom_20 : decode cX5_copyFrom 20 = .ok (.aload_n 0, 1) := by decide +kernel
theorem d_St_copyFrom_21 : decode cX5_copyFrom 21 = .ok (.getfield 15, 3) := by decide +kernel
theorem d_St_copyFrom_24 : decode cX5_copyFrom 24 = .ok (.iconst 0, 1) := by decide +kernel
theorem d_St_copyFrom_25 : decode cX5_copyFrom 25 = .ok (.bipush 6, 2) := by decide +kernel
theorem d_St_copyFrom_27 : decode cX5_copyFrom 27 = .ok (.invokestatic 49, 3) := by decide +kernel
theorem d_St_copyFrom_30 : decode cX5_copyFrom 30 = .ok (.aload_n 1, 1) := by decide +kernel
theorem d_St_copyFrom_31 : decode cX5_copyFrom 31 = .ok (.getfield 19, 3) := by decide +kernel
theorem d_St_copyFrom_34 : decode cX5_copyFrom 34 = .ok (.iconst 0, 1) := by decide +kernel
theorem d_St_copyFrom_35 : decode cX5_copyFrom 35 = .ok (.aload_n 0, 1) := by decide +kernel
theorem d_St_copyFrom_36 : decode cX5_copyFrom 36 = .ok (.getfield 19, 3) := by decide +kernel
theorem d_St_copyFrom_39 : decode cX5_copyFrom 39 = .ok (.iconst 0, 1) := by decide +kernel
theorem d_St_copyFrom_40 : decode cX5_copyFrom 40 = .ok (.bipush 6, 2) := by decide +kernel
theorem d_St_copyFrom_42 : decode cX5_copyFrom 42 = .ok (.invokestatic 49, 3) := by decide +kernel
theorem d_St_copyFrom_45 : decode cX5_copyFrom 45 = .ok (.aload_n 1, 1) := by decide +kernel
theorem d_St_copyFrom_46 : decode cX5_copyFrom 46 = .ok (.getfield 22, 3) := by decide +kernel
theorem d_St_copyFrom_49 : decode cX5_copyFrom 49 = .ok (.iconst 0, 1) := by decide +kernel
theorem d_St_copyFrom_50 : decode cX5_copyFrom 50 = .ok (.aload_n 0, 1) := by decide +kernel
theorem d_St_copyFrom_51 : decode cX5_copyFrom 51 = .ok (.getfield 22, 3) := by decide +kernel
theorem d_St_copyFrom_54 : decode cX5_copyFrom 54 = .ok (.iconst 0, 1) := by decide +kernel
theorem d_St_copyFrom_55 : decode cX5_copyFrom 55 = .ok (.bipush 6, 2) := by decide +kernel
theorem d_St_copyFrom_57 : decode cX5_copyFrom 57 = .ok (.invokestatic 49, 3) := by decide +kernel
theorem d_St_copyFrom_60 : decode cX5_copyFrom 60 = .ok (.aload_n 1, 1) := by decide +kernel
theorem d_St_copyFrom_61 : decode cX5_copyFrom 61 = .ok (.getfield 25, 3) := by decide +kernel
theorem d_St_copyFrom_64 : decode cX5_copyFrom 64 = .ok (.iconst 0, 1) := by decide +kernel
theorem d_St_copyFrom_65 : decode cX5_copyFrom 65 = .ok (.aload_n 0, 1) := by decide +kernel
theorem d_St_copyFrom_66 : decode cX5_copyFrom 66 = .ok (.getfield 25, 3) := by decide +kernel
theorem d_St_copyFrom_69 : decode cX5_copyFrom 69 = .ok (.iconst 0, 1) := by decide +kernel
theorem d_St_copyFrom_70 : decode cX5_copyFrom 70 = .ok (.bipush 6, 2) := by decide +kernel
theorem d_St_copyFrom_72 : decode cX5_copyFrom 72 = .ok (.invokestatic 49, 3) := by decide +kernel
theorem d_St_copyFrom_75 : decode cX5_copyFrom 75 = .ok (.aload_n 0, 1) := by decide +kernel
theorem d_St_copyFrom_76 : decode cX5_copyFrom 76 = .ok (.aload_n 1, 1) := by decide +kernel
theorem d_St_copyFrom_77 : decode cX5_copyFrom 77 = .ok (.getfield 28, 3) := by decide +kernel
theorem d_St_copyFrom_80 : decode cX5_copyFrom 80 = .ok (.putfield 28, 3) := by decide +kernel
theorem d_St_copyFrom_83 : decode cX5_copyFrom 83 = .ok (.aload_n 0, 1) := by decide +kernel
theorem d_St_copyFrom_84 : decode cX5_copyFrom 84 = .ok (.aload_n 1, 1) := by decide +kernel
theorem d_St_copyFrom_85 : decode cX5_copyFrom 85 = .ok (.getfield 32, 3) := by decide +kernel
theorem d_St_copyFrom_88 : decode cX5_copyFrom 88 = .ok (.putfield 32, 3) := by decide +kernel
theorem d_St_copyFrom_91 : decode cX5_copyFrom 91 = .ok (.aload_n 0, 1) := by decide +kernel
theorem d_St_copyFrom_92 : decode cX5_copyFrom 92 = .ok (.aload_n 1, 1) := by decide +kernel
theorem d_St_copyFrom_93 : decode cX5_copyFrom 93 = .ok (.getfield 35, 3) := by decide +kernel
theorem d_St_copyFrom_96 : decode cX5_copyFrom 96 = .ok (.putfield 35, 3) := by decide +kernel
theorem d_St_copyFrom_99 : decode cX5_copyFrom 99 = .ok (.aload_n 0, 1) := by decide +kernel
theorem d_St_copyFrom_100 : decode cX5_copyFrom 100 = .ok (.aload_n 1, 1) := by decide +kernel
theorem d_St_copyFrom_101 : decode cX5_copyFrom 101 = .ok (.getfield 38, 3) := by decide +kernel
theorem d_St_copyFrom_104 : decode cX5_copyFrom 104 = .ok (.putfield 38, 3) := by decide +kernel
theorem d_St_copyFrom_107 : decode cX5_copyFrom 107 = .ok (.aload_n 0, 1) := by decide +kernel
theorem d_St_copyFrom_108 : decode cX5_copyFrom 108 = .ok (.aload_n 1, 1) := by decide +kernel
theorem d_St_copyFrom_109 : decode cX5_copyFrom 109 = .ok (.getfield 41, 3) := by decide +kernel
theorem d_St_copyFrom_112 : decode cX5_copyFrom 112 = .ok (.putfield 41, 3) := by decide +kernel
theorem d_St_copyFrom_115 : decode cX5_copyFrom 115 = .ok (.return_, 1) := by decide +kernel
noncomputable def f_St_copyFrom (a0 : Nat) (a1 : Nat) (h : mm_H) : Option mm_H := if mm_tg a0 = 4 ∧ mm_tg a1 = 4 then (mm_let (mm_cpI h (a1 + 1) (a0 + 1) 10) fun h1 => mm_let (mm_cpL h1 (a1 + 2) (a0 + 2) 6) fun h3 => mm_let (mm_cpI h3 (a1 + 3) (a0 + 3) 6) fun h5 => mm_let (mm_cpI h5 (a1 + 4) (a0 + 4) 6) fun h7 => mm_let (mm_cpI h7 (a1 + 5) (a0 + 5) 6) fun h9 => mm_let (mm_pI h9 a0 5 (h9.1 a1 5)) fun h11 => mm_let (mm_pI h11 a0 6 (h11.1 a1 6)) fun h13 => mm_let (mm_pI h13 a0 7 (h13.1 a1 7)) fun h15 => mm_let (mm_pI h15 a0 8 (h15.1 a1 8)) fun h17 => mm_let (mm_pI h17 a0 9 (h17.1 a1 9)) fun h19 => some h19) else none
theorem T_St_copyFrom (V : mm_V) (l : Launch) (a0 : Nat) (a1 : Nat) (h : mm_H) (r : mm_H) (hf : f_St_copyFrom a0 a1 h = some r) : MT V l Y_St_copyFrom 1 [.ref a0, .ref a1] (fun r1 h1 => r1 = none ∧ h1 = r) h := by
  unfold f_St_copyFrom at hf
  obtain ⟨⟨t_a0, t_a1⟩, hf⟩ := mm_chkE hf
  refine MT.intro (pn_St rfl) [(0, .ref a0), (1, .ref a1)] rfl (Nat.le_of_ble_eq_true rfl) ?_
  generalize hZ : mm_Z V _ = Z0
  refine MM.aload_n (i := 1) rfl rfl d_St_copyFrom_0 rfl ?_
  refine MM.gR 4 1 t_a1 rq_4_0 rfl lays_4 ww_201 d_St_copyFrom_1 rfl ?_
  refine MM.iconst ic_0 d_St_copyFrom_4 rfl ?_
  refine MM.aload_n (i := 0) rfl rfl d_St_copyFrom_5 rfl ?_
  refine MM.gR 4 1 t_a0 rq_4_0 rfl lays_4 ww_201 d_St_copyFrom_6 rfl ?_
  refine MM.iconst ic_0 d_St_copyFrom_9 rfl ?_
  refine MM.bipush bp_10 d_St_copyFrom_10 rfl ?_
  obtain ⟨h1, e2, hf⟩ := mm_letE hf
  refine MM.copyI (n := 10) e2 (al_4_0f t_a1) (al_4_0f t_a0) ww_826 ww_828 ww_827 ww_130 (by decide) (by decide) (by decide +kernel) (by decide) (by decide) d_St_copyFrom_12 rfl ?_
  refine MM.aload_n (i := 1) rfl rfl d_St_copyFrom_15 rfl ?_
  refine MM.gR 4 2 t_a1 rq_4_1 rfl lays_4 ww_203 d_St_copyFrom_16 rfl ?_
  refine MM.iconst ic_0 d_St_copyFrom_19 rfl ?_
  refine MM.aload_n (i := 0) rfl rfl d_St_copyFrom_20 rfl ?_
  refine MM.gR 4 2 t_a0 rq_4_1 rfl lays_4 ww_203 d_St_copyFrom_21 rfl ?_
  refine MM.iconst ic_0 d_St_copyFrom_24 rfl ?_
  refine MM.bipush bp_6 d_St_copyFrom_25 rfl ?_
  obtain ⟨h3, e4, hf⟩ := mm_letE hf
  refine MM.copyL (n := 6) e4 (al_4_1f t_a1) (al_4_1f t_a0) ww_826 ww_828 ww_827 ww_130 (by decide) (by decide) (by decide +kernel) (by decide) (by decide) d_St_copyFrom_27 rfl ?_
  refine MM.aload_n (i := 1) rfl rfl d_St_copyFrom_30 rfl ?_
  refine MM.gR 4 3 t_a1 rq_4_2 rfl lays_4 ww_204 d_St_copyFrom_31 rfl ?_
  refine MM.iconst ic_0 d_St_copyFrom_34 rfl ?_
  refine MM.aload_n (i := 0) rfl rfl d_St_copyFrom_35 rfl ?_
  refine MM.gR 4 3 t_a0 rq_4_2 rfl lays_4 ww_204 d_St_copyFrom_36 rfl ?_
  refine MM.iconst ic_0 d_St_copyFrom_39 rfl ?_
  refine MM.bipush bp_6 d_St_copyFrom_40 rfl ?_
  obtain ⟨h5, e6, hf⟩ := mm_letE hf
  refine MM.copyI (n := 6) e6 (al_4_2f t_a1) (al_4_2f t_a0) ww_826 ww_828 ww_827 ww_130 (by decide) (by decide) (by decide +kernel) (by decide) (by decide) d_St_copyFrom_42 rfl ?_
  refine MM.aload_n (i := 1) rfl rfl d_St_copyFrom_45 rfl ?_
  refine MM.gR 4 4 t_a1 rq_4_3 rfl lays_4 ww_206 d_St_copyFrom_46 rfl ?_
  refine MM.iconst ic_0 d_St_copyFrom_49 rfl ?_
  refine MM.aload_n (i := 0) rfl rfl d_St_copyFrom_50 rfl ?_
  refine MM.gR 4 4 t_a0 rq_4_3 rfl lays_4 ww_206 d_St_copyFrom_51 rfl ?_
  refine MM.iconst ic_0 d_St_copyFrom_54 rfl ?_
  refine MM.bipush bp_6 d_St_copyFrom_55 rfl ?_
  obtain ⟨h7, e8, hf⟩ := mm_letE hf
  refine MM.copyI (n := 6) e8 (al_4_3f t_a1) (al_4_3f t_a0) ww_826 ww_828 ww_827 ww_130 (by decide) (by decide) (by decide +kernel) (by decide) (by decide) d_St_copyFrom_57 rfl ?_
  refine MM.aload_n (i := 1) rfl rfl d_St_copyFrom_60 rfl ?_
  refine MM.gR 4 5 t_a1 rq_4_4 rfl lays_4 ww_208 d_St_copyFrom_61 rfl ?_
  refine MM.iconst ic_0 d_St_copyFrom_64 rfl ?_
  refine MM.aload_n (i := 0) rfl rfl d_St_copyFrom_65 rfl ?_
  refine MM.gR 4 5 t_a0 rq_4_4 rfl lays_4 ww_208 d_St_copyFrom_66 rfl ?_
  refine MM.iconst ic_0 d_St_copyFrom_69 rfl ?_
  refine MM.bipush bp_6 d_St_copyFrom_70 rfl ?_
  obtain ⟨h9, e10, hf⟩ := mm_letE hf
  refine MM.copyI (n := 6) e10 (al_4_4f t_a1) (al_4_4f t_a0) ww_826 ww_828 ww_827 ww_130 (by decide) (by decide) (by decide +kernel) (by decide) (by decide) d_St_copyFrom_72 rfl ?_
  refine MM.aload_n (i := 0) rfl rfl d_St_copyFrom_75 rfl ?_
  refine MM.aload_n (i := 1) rfl rfl d_St_copyFrom_76 rfl ?_
  refine MM.getI 4 t_a1 lays_4 gq_4_5 ww_211 d_St_copyFrom_77 rfl ?_
  obtain ⟨h11, e12, hf⟩ := mm_letE hf
  refine MM.putI e12 4 t_a0 lays_4 toks_4 pq_4_5 ww_211 d_St_copyFrom_80 rfl ?_
  refine MM.aload_n (i := 0) rfl rfl d_St_copyFrom_83 rfl ?_
  refine MM.aload_n (i := 1) rfl rfl d_St_copyFrom_84 rfl ?_
  refine MM.getI 4 t_a1 lays_4 gq_4_6 ww_213 d_St_copyFrom_85 rfl ?_
  obtain ⟨h13, e14, hf⟩ := mm_letE hf
  refine MM.putI e14 4 t_a0 lays_4 toks_4 pq_4_6 ww_213 d_St_copyFrom_88 rfl ?_
  refine MM.aload_n (i := 0) rfl rfl d_St_copyFrom_91 rfl ?_
  refine MM.aload_n (i := 1) rfl rfl d_St_copyFrom_92 rfl ?_
  refine MM.getI 4 t_a1 lays_4 gq_4_7 ww_215 d_St_copyFrom_93 rfl ?_
  obtain ⟨h15, e16, hf⟩ := mm_letE hf
  refine MM.putI e16 4 t_a0 lays_4 toks_4 pq_4_7 ww_215 d_St_copyFrom_96 rfl ?_
  refine MM.aload_n (i := 0) rfl rfl d_St_copyFrom_99 rfl ?_
  refine MM.aload_n (i := 1) rfl rfl d_St_copyFrom_100 rfl ?_
  refine MM.getI 4 t_a1 lays_4 gq_4_8 ww_218 d_St_copyFrom_101 rfl ?_
  obtain ⟨h17, e18, hf⟩ := mm_letE hf
  refine MM.putI e18 4 t_a0 lays_4 toks_4 pq_4_8 ww_218 d_St_copyFrom_104 rfl ?_
  refine MM.aload_n (i := 0) rfl rfl d_St_copyFrom_107 rfl ?_
  refine MM.aload_n (i := 1) rfl rfl d_St_copyFrom_108 rfl ?_
  refine MM.getI 4 t_a1 lays_4 gq_4_9 ww_220 d_St_copyFrom_109 rfl ?_
  obtain ⟨h19, e20, hf⟩ := mm_letE hf
  refine MM.putI e20 4 t_a0 lays_4 toks_4 pq_4_9 ww_220 d_St_copyFrom_112 rfl ?_
  obtain rfl := Option.some.inj hf
  subst hZ
  exact MM.vret rfl d_St_copyFrom_115 ⟨rfl, rfl⟩
theorem d_X_remember_0 : decode cX11_remember 0 = .ok (.aload_n 0, 1) := by decide +kernel
theorem d_X_remember_1 : decode cX11_remember 1 = .ok (.getfield 36, 3) := by decide +kernel
theorem d_X_remember_4 : decode cX11_remember 4 = .ok (.aload_n 0, 1) := by decide +kernel
theorem d_X_remember_5 : decode cX11_remember 5 = .ok (.getfield 92, 3) := by decide +kernel
theorem d_X_remember_8 : decode cX11_remember 8 = .ok (.aaload, 1) := by decide +kernel
theorem d_X_remember_9 : decode cX11_remember 9 = .ok (.aload_n 0, 1) := by decide +kernel
theorem d_X_remember_10 : decode cX11_remember 10 = .ok (.getfield 19, 3) := by decide +kernel
theorem d_X_remember_13 : decode cX11_remember 13 = .ok (.invokevirtual 251, 3) := by decide +kernel
theorem d_X_remember_16 : decode cX11_remember 16 = .ok (.aload_n 0, 1) := by decide +kernel
theorem d_X_remember_17 : decode cX11_remember 17 = .ok (.aload_n 0, 1) := by decide +kernel
theorem d_X_remember_18 : decode cX11_remember 18 = .ok (.getfield 92, 3) := by decide +kernel
theorem d_X_remember_21 : decode cX11_remember 21 = .ok (.iconst 1, 1) := by decide +kernel
theorem d_X_remember_22 : decode cX11_remember 22 = .ok (.iadd, 1) := by decide +kernel
theorem d_X_remember_23 : decode cX11_remember 23 = .ok (.bipush 16, 2) := by decide +kernel
theorem d_X_remember_25 : decode cX11_remember 25 = .ok (.irem, 1) := by decide +kernel
theorem d_X_remember_26 : decode cX11_remember 26 = .ok (.putfield 92, 3) := by decide +kernel
theorem d_X_remember_29 : decode cX11_remember 29 = .ok (.aload_n 0, 1) := by decide +kernel
theorem d_X_remember_30 : decode cX11_remember 30 = .ok (.aload_n 0, 1) := by decide +kernel
theorem d_X_remember_31 : decode cX11_remember 31 = .ok (.getfield 88, 3) := by decide +kernel
theorem d_X_remember_34 : decode cX11_remember 34 = .ok (.iconst 1, 1) := by decide +kernel
theorem d_X_remember_35 : decode cX11_remember 35 = .ok (.iadd, 1) := by decide +kernel
theorem d_X_remember_36 : decode cX11_remember 36 = .ok (.bipush 16, 2) := by decide +kernel
theorem d_X_remember_38 : decode cX11_remember 38 = .ok (.invokestatic 347, 3) := by decide +kernel
theorem d_X_remember_41 : decode cX11_remember 41 = .ok (.putfield 88, 3) := by decide +kernel
theorem d_X_remember_44 : decode cX11_remember 44 = .ok (.return_, 1) := by decide +kernel
noncomputable def f_X_remember (h : mm_H) : Option mm_H := (mm_ix (h.1 32 17) 16).bind fun k1 => (f_St_copyFrom (113 + 6 * k1) 35 h).bind fun v6 => mm_let (mm_pI v6 32 17 (((v6.1 32 17) + 1) - ((v6.1 32 17) + 1) / 16 * 16)) fun h7 => (f_JM_min ((h7.1 32 16) + 1) 16).bind fun v10 => mm_let (mm_pI h7 32 16 v10) fun h11 => some h11
theorem T_X_remember (V : mm_V) (l : Launch) (h : mm_H) (r : mm_H) (hf : f_X_remember h = some r) : MT V l Y_X_remember 2 [.ref 32] (fun r1 h1 => r1 = none ∧ h1 = r) h := by
  unfold f_X_remember at hf
  refine MT.intro (pn_X rfl) [(0, .ref 32)] rfl (Nat.le_of_ble_eq_true rfl) ?_
  generalize hZ : mm_Z V _ = Z0
  refine MM.aload_n (i := 0) rfl rfl d_X_remember_0 rfl ?_
  refine MM.gR 8 29 tg_32 rq_8_5 rfl lays_8 ww_477 d_X_remember_1 rfl ?_
  refine MM.aload_n (i := 0) rfl rfl d_X_remember_4 rfl ?_
  refine MM.getI 8 tg_32 lays_8 gq_8_17 ww_489 d_X_remember_5 rfl ?_
  obtain ⟨k1, e2, hf⟩ := mm_bind hf
  refine MM.gS61 e2 (rfl : (113 + 6 * k1) = (113 + 6 * k1)) d_X_remember_8 rfl ?_
  refine MM.aload_n (i := 0) rfl rfl d_X_remember_9 rfl ?_
  refine MM.gR 8 3 tg_32 rq_8_1 rfl lays_8 ww_473 d_X_remember_10 rfl ?_
  obtain ⟨v6, e5, hf⟩ := mm_bind hf
  refine MM.callV0 (T_St_copyFrom V l (113 + 6 * k1) 35 h _ e5) (fun _ _ q => q) cal_St_copyFrom rfl (tgs_61 e2) ct_4 ww_969 ww_968 ww_967 (by decide) (by simp [Value.category]) d_X_remember_13 rfl ⟨rfl, rfl⟩ rfl ?_
  refine MM.aload_n (i := 0) rfl rfl d_X_remember_16 rfl ?_
  refine MM.aload_n (i := 0) rfl rfl d_X_remember_17 rfl ?_
  refine MM.getI 8 tg_32 lays_8 gq_8_17 ww_489 d_X_remember_18 rfl ?_
  refine MM.iconst ic_1 d_X_remember_21 rfl ?_
  refine MM.iadd d_X_remember_22 rfl ?_
  refine MM.bipush bp_16 d_X_remember_23 rfl ?_
  refine MM.irem (by decide) d_X_remember_25 rfl ?_
  obtain ⟨h7, e8, hf⟩ := mm_letE hf
  refine MM.putI e8 8 tg_32 lays_8 toks_8 pq_8_17 ww_489 d_X_remember_26 rfl ?_
  refine MM.aload_n (i := 0) rfl rfl d_X_remember_29 rfl ?_
  refine MM.aload_n (i := 0) rfl rfl d_X_remember_30 rfl ?_
  refine MM.getI 8 tg_32 lays_8 gq_8_16 ww_488 d_X_remember_31 rfl ?_
  refine MM.iconst ic_1 d_X_remember_34 rfl ?_
  refine MM.iadd d_X_remember_35 rfl ?_
  refine MM.bipush bp_16 d_X_remember_36 rfl ?_
  obtain ⟨v10, e9, hf⟩ := mm_bind hf
  refine MM.callS1 (T_JM_min V l ((h7.1 32 16) + 1) 16 h7 _ e9) (fun _ _ q => q) cal_JM_min rfl ww_607 ww_971 (by decide) (by simp [Value.category]) d_X_remember_38 rfl ⟨rfl, rfl⟩ rfl ?_
  obtain ⟨h11, e12, hf⟩ := mm_letE hf
  refine MM.putI e12 8 tg_32 lays_8 toks_8 pq_8_16 ww_488 d_X_remember_41 rfl ?_
  obtain rfl := Option.some.inj hf
  subst hZ
  exact MM.vret rfl d_X_remember_44 ⟨rfl, rfl⟩
theorem d_St_whisper_0 : decode cX5_whisper 0 = .ok (.aload_n 0, 1) := by decide +kernel
theorem d_St_whisper_1 : decode cX5_whisper 1 = .ok (.getfield 9, 3) := by decide +kernel
theorem d_St_whisper_4 : decode cX5_whisper 4 = .ok (.iload 4, 2) := by decide +kernel
theorem d_St_whisper_6 : decode cX5_whisper 6 = .ok (.dup2, 1) := by decide +kernel
theorem d_St_whisper_7 : decode cX5_whisper 7 = .ok (.iaload, 1) := by decide +kernel
theorem d_St_whisper_8 : decode cX5_whisper 8 = .ok (.iconst 1, 1) := by decide +kernel
theorem d_St_whisper_9 : decode cX5_whisper 9 = .ok (.iload_n 3, 1) := by decide +kernel
theorem d_St_whisper_10 : decode cX5_whisper 10 = .ok (.ishl, 1) := by decide +kernel
theorem d_St_whisper_11 : decode cX5_whisper 11 = .ok (.ior, 1) := by decide +kernel
theorem d_St_whisper_12 : decode cX5_whisper 12 = .ok (.iastore, 1) := by decide +kernel
theorem d_St_whisper_13 : decode cX5_whisper 13 = .ok (.aload_n 0, 1) := by decide +kernel
theorem d_St_whisper_14 : decode cX5_whisper 14 = .ok (.getfield 15, 3) := by decide +kernel
theorem d_St_whisper_17 : decode cX5_whisper 17 = .ok (.iload_n 2, 1) := by decide +kernel
theorem d_St_whisper_18 : decode cX5_whisper 18 = .ok (.dup2, 1) := by decide +kernel
theorem d_St_whisper_19 : decode cX5_whisper 19 = .ok (.laload, 1) := by decide +kernel
theorem d_St_whisper_20 : decode cX5_whisper 20 = .ok (.lconst 1, 1) := by decide +kernel
theorem d_St_whisper_21 : decode cX5_whisper 21 = .ok (.iload_n 3, 1) := by decide +kernel
theorem d_St_whisper_22 : decode cX5_whisper 22 = .ok (.bipush 10, 2) := by decide +kernel
theorem d_St_whisper_24 : decode cX5_whisper 24 = .ok (.imul, 1) := by decide +kernel
theorem d_St_whisper_25 : decode cX5_whisper 25 = .ok (.iload 4, 2) := by decide +kernel
theorem d_St_whisper_27 : decode cX5_whisper 27 = .ok (.iadd, 1) := by decide +kernel
theorem d_St_whisper_28 : decode cX5_whisper 28 = .ok (.lshl, 1) := by decide +kernel
theorem d_St_whisper_29 : decode cX5_whisper 29 = .ok (.lor, 1) := by decide +kernel
theorem d_St_whisper_30 : decode cX5_whisper 30 = .ok (.lastore, 1) := by decide +kernel
theorem d_St_whisper_31 : decode cX5_whisper 31 = .ok (.aload_n 0, 1) := by decide +kernel
theorem d_St_whisper_32 : decode cX5_whisper 32 = .ok (.getfield 15, 3) := by decide +kernel
theorem d_St_whisper_35 : decode cX5_whisper 35 = .ok (.iload_n 3, 1) := by decide +kernel
theorem d_St_whisper_36 : decode cX5_whisper 36 = .ok (.dup2, 1) := by decide +kernel
theorem d_St_whisper_37 : decode cX5_whisper 37 = .ok (.laload, 1) := by decide +kernel
theorem d_St_whisper_38 : decode cX5_whisper 38 = .ok (.lconst 1, 1) := by decide +kernel
theorem d_St_whisper_39 : decode cX5_whisper 39 = .ok (.iload_n 2, 1) := by decide +kernel
theorem d_St_whisper_40 : decode cX5_whisper 40 = .ok (.bipush 10, 2) := by decide +kernel
theorem d_St_whisper_42 : decode cX5_whisper 42 = .ok (.imul, 1) := by decide +kernel
theorem d_St_whisper_43 : decode cX5_whisper 43 = .ok (.iload 4, 2) := by decide +kernel
theorem d_St_whisper_45 : decode cX5_whisper 45 = .ok (.iadd, 1) := by decide +kernel
theorem d_St_whisper_46 : decode cX5_whisper 46 = .ok (.lshl, 1) := by decide +kernel
theorem d_St_whisper_47 : decode cX5_whisper 47 = .ok (.lor, 1) := by decide +kernel
theorem d_St_whisper_48 : decode cX5_whisper 48 = .ok (.lastore, 1) := by decide +kernel
theorem d_St_whisper_49 : decode cX5_whisper 49 = .ok (.aload_n 1, 1) := by decide +kernel
theorem d_St_whisper_50 : decode cX5_whisper 50 = .ok (.getfield 121, 3) := by decide +kernel
theorem d_St_whisper_53 : decode cX5_whisper 53 = .ok (.iload 4, 2) := by decide +kernel
theorem d_St_whisper_55 : decode cX5_whisper 55 = .ok (.invokestatic 68, 3) := by decide +kernel
theorem d_St_whisper_58 : decode cX5_whisper 58 = .ok (.iconst 1, 1) := by decide +kernel
theorem d_St_whisper_59 : decode cX5_whisper 59 = .ok (.if_icmp .ne 27, 3) := by decide +kernel
theorem d_St_whisper_62 : decode cX5_whisper 62 = .ok (.aload_n 1, 1) := by decide +kernel
theorem d_St_whisper_63 : decode cX5_whisper 63 = .ok (.getfield 89, 3) := by decide +kernel
theorem d_St_whisper_66 : decode cX5_whisper 66 = .ok (.iload 4, 2) := by decide +kernel
theorem d_St_whisper_68 : decode cX5_whisper 68 = .ok (.iaload, 1) := by decide +kernel
theorem d_St_whisper_69 : decode cX5_whisper 69 = .ok (.iload_n 3, 1) := by decide +kernel
theorem d_St_whisper_70 : decode cX5_whisper 70 = .ok (.if_icmp .ne 16, 3) := by decide +kernel
theorem d_St_whisper_73 : decode cX5_whisper 73 = .ok (.aload_n 0, 1) := by decide +kernel
theorem d_St_whisper_74 : decode cX5_whisper 74 = .ok (.dup, 1) := by decide +kernel
theorem d_St_whisper_75 : decode cX5_whisper 75 = .ok (.getfield 28, 3) := by decide +kernel
theorem d_St_whisper_78 : decode cX5_whisper 78 = .ok (.iconst 1, 1) := by decide +kernel
theorem d_St_whisper_79 : decode cX5_whisper 79 = .ok (.iload 4, 2) := by decide +kernel
theorem d_St_whisper_81 : decode cX5_whisper 81 = .ok (.ishl, 1) := by decide +kernel
theorem d_St_whisper_82 : decode cX5_whisper 82 = .ok (.ior, 1) := by decide +kernel
theorem d_St_whisper_83 : decode cX5_whisper 83 = .ok (.putfield 28, 3) := by decide +kernel
theorem d_St_whisper_86 : decode cX5_whisper 86 = .ok (.return_, 1) := by decide +kernel
noncomputable def f_St_whisper (a0 : Nat) (a1 : Nat) (x2 : Int32) (x3 : Int32) (x4 : Int32) (h : mm_H) : Option mm_H := if mm_tg a0 = 4 ∧ mm_tg a1 = 7 then ((mm_ix x4 10).bind fun k1 => (mm_ix x4 10).bind fun k3 => mm_let (mm_pI h (a0 + 1) k3 ((h.1 (a0 + 1) k1) ||| ((1 : Int32) <<< (x3 &&& 31)))) fun h5 => (mm_ix x2 6).bind fun k7 => (mm_ix x2 6).bind fun k9 => mm_let (mm_pL h5 (a0 + 2) k9 ((h5.2.1 (a0 + 2) k7) ||| ((1 : Int64) <<< (Int32.toInt64 ((x3 * 10) + x4) &&& 63)))) fun h11 => (mm_ix x3 6).bind fun k13 => (mm_ix x3 6).bind fun k15 => mm_let (mm_pL h11 (a0 + 2) k15 ((h11.2.1 (a0 + 2) k13) ||| ((1 : Int64) <<< (Int32.toInt64 ((x2 * 10) + x4) &&& 63)))) fun h17 => (f_X_bit (h17.1 a1 8) x4).bind fun v20 => if v20 = 1 then ((mm_ix x4 10).bind fun k21 => if (h17.1 (a1 + 6) k21) = x3 then (mm_let (mm_pI h17 a0 5 ((h17.1 a0 5) ||| ((1 : Int32) <<< (x4 &&& 31)))) fun h23 => some h23) else (some h17)) else (some h17)) else none
theorem T_St_whisper (V : mm_V) (l : Launch) (a0 : Nat) (a1 : Nat) (x2 : Int32) (x3 : Int32) (x4 : Int32) (h : mm_H) (r : mm_H) (hf : f_St_whisper a0 a1 x2 x3 x4 h = some r) : MT V l Y_St_whisper 2 [.ref a0, .ref a1, .int x2, .int x3, .int x4] (fun r1 h1 => r1 = none ∧ h1 = r) h := by
  unfold f_St_whisper at hf
  obtain ⟨⟨t_a0, t_a1⟩, hf⟩ := mm_chkE hf
  refine MT.intro (pn_St rfl) [(0, .ref a0), (1, .ref a1), (2, .int x2), (3, .int x3), (4, .int x4)] rfl (Nat.le_of_ble_eq_true rfl) ?_
  generalize hZ : mm_Z V _ = Z0
  refine MM.aload_n (i := 0) rfl rfl d_St_whisper_0 rfl ?_
  refine MM.gR 4 1 t_a0 rq_4_0 rfl lays_4 ww_201 d_St_whisper_1 rfl ?_
  refine MM.iload rfl d_St_whisper_4 rfl ?_
  refine MM.dup2 rfl rfl d_St_whisper_6 rfl ?_
  obtain ⟨k1, e2, hf⟩ := mm_bind hf
  refine MM.gI e2 (al_4_0f t_a0) d_St_whisper_7 rfl ?_
  refine MM.iconst ic_1 d_St_whisper_8 rfl ?_
  refine MM.iload_n (i := 3) rfl rfl d_St_whisper_9 rfl ?_
  refine MM.ishl d_St_whisper_10 rfl ?_
  refine MM.ior d_St_whisper_11 rfl ?_
  obtain ⟨k3, e4, hf⟩ := mm_bind hf
  obtain ⟨h5, e6, hf⟩ := mm_letE hf
  refine MM.sI e4 e6 (al_4_0f t_a0) d_St_whisper_12 rfl ?_
  refine MM.aload_n (i := 0) rfl rfl d_St_whisper_13 rfl ?_
  refine MM.gR 4 2 t_a0 rq_4_1 rfl lays_4 ww_203 d_St_whisper_14 rfl ?_
  refine MM.iload_n (i := 2) rfl rfl d_St_whisper_17 rfl ?_
  refine MM.dup2 rfl rfl d_St_whisper_18 rfl ?_
  obtain ⟨k7, e8, hf⟩ := mm_bind hf
  refine MM.gL e8 (al_4_1f t_a0) d_St_whisper_19 rfl ?_
  refine MM.lconst (v := 1) rfl d_St_whisper_20 rfl ?_
  refine MM.iload_n (i := 3) rfl rfl d_St_whisper_21 rfl ?_
  refine MM.bipush bp_10 d_St_whisper_22 rfl ?_
  refine MM.imul d_St_whisper_24 rfl ?_
  refine MM.iload rfl d_St_whisper_25 rfl ?_
  refine MM.iadd d_St_whisper_27 rfl ?_
  refine MM.lshl d_St_whisper_28 rfl ?_
  refine MM.lor d_St_whisper_29 rfl ?_
  obtain ⟨k9, e10, hf⟩ := mm_bind hf
  obtain ⟨h11, e12, hf⟩ := mm_letE hf
  refine MM.sL e10 e12 (al_4_1f t_a0) d_St_whisper_30 rfl ?_
  refine MM.aload_n (i := 0) rfl rfl d_St_whisper_31 rfl ?_
  refine MM.gR 4 2 t_a0 rq_4_1 rfl lays_4 ww_203 d_St_whisper_32 rfl ?_
  refine MM.iload_n (i := 3) rfl rfl d_St_whisper_35 rfl ?_
  refine MM.dup2 rfl rfl d_St_whisper_36 rfl ?_
  obtain ⟨k13, e14, hf⟩ := mm_bind hf
  refine MM.gL e14 (al_4_1f t_a0) d_St_whisper_37 rfl ?_
  refine MM.lconst (v := 1) rfl d_St_whisper_38 rfl ?_
  refine MM.iload_n (i := 2) rfl rfl d_St_whisper_39 rfl ?_
  refine MM.bipush bp_10 d_St_whisper_40 rfl ?_
  refine MM.imul d_St_whisper_42 rfl ?_
  refine MM.iload rfl d_St_whisper_43 rfl ?_
  refine MM.iadd d_St_whisper_45 rfl ?_
  refine MM.lshl d_St_whisper_46 rfl ?_
  refine MM.lor d_St_whisper_47 rfl ?_
  obtain ⟨k15, e16, hf⟩ := mm_bind hf
  obtain ⟨h17, e18, hf⟩ := mm_letE hf
  refine MM.sL e16 e18 (al_4_1f t_a0) d_St_whisper_48 rfl ?_
  refine MM.aload_n (i := 1) rfl rfl d_St_whisper_49 rfl ?_
  refine MM.getI 7 t_a1 lays_7 gq_7_8 ww_395 d_St_whisper_50 rfl ?_
  refine MM.iload rfl d_St_whisper_53 rfl ?_
  obtain ⟨v20, e19, hf⟩ := mm_bind hf
  refine MM.callSN1 (T_X_bit V l (h17.1 a1 8) x4 h17 _ e19) (fun _ _ q => q) cal_X_bit rfl ww_763 ww_906n (by decide) (by simp [Value.category]) d_St_whisper_55 rfl ⟨rfl, rfl⟩ rfl ?_
  refine MM.iconst ic_1 d_St_whisper_58 rfl ?_
  obtain ⟨m29, m30⟩ := mm_ifE hf
  refine MM.icmp_ne (tgt := 86) d_St_whisper_59 rfl rfl (fun c28 => ?_) (fun c28 => ?_)
  · replace hf := m30 c28
    obtain rfl := Option.some.inj hf
    subst hZ
    exact MM.vret rfl d_St_whisper_86 ⟨rfl, rfl⟩
  · replace hf := m29 c28
    refine MM.aload_n (i := 1) rfl rfl d_St_whisper_62 rfl ?_
    refine MM.gR 7 6 t_a1 rq_7_9 rfl lays_7 ww_397 d_St_whisper_63 rfl ?_
    refine MM.iload rfl d_St_whisper_66 rfl ?_
    obtain ⟨k21, e22, hf⟩ := mm_bind hf
    refine MM.gI e22 (al_7_9f t_a1) d_St_whisper_68 rfl ?_
    refine MM.iload_n (i := 3) rfl rfl d_St_whisper_69 rfl ?_
    obtain ⟨m26, m27⟩ := mm_ifE hf
    refine MM.icmp_ne (tgt := 86) d_St_whisper_70 rfl rfl (fun c25 => ?_) (fun c25 => ?_)
    · replace hf := m27 c25
      obtain rfl := Option.some.inj hf
      subst hZ
      exact MM.vret rfl d_St_whisper_86 ⟨rfl, rfl⟩
    · replace hf := m26 c25
      refine MM.aload_n (i := 0) rfl rfl d_St_whisper_73 rfl ?_
      refine MM.dup rfl d_St_whisper_74 rfl ?_
      refine MM.getI 4 t_a0 lays_4 gq_4_5 ww_211 d_St_whisper_75 rfl ?_
      refine MM.iconst ic_1 d_St_whisper_78 rfl ?_
      refine MM.iload rfl d_St_whisper_79 rfl ?_
      refine MM.ishl d_St_whisper_81 rfl ?_
      refine MM.ior d_St_whisper_82 rfl ?_
      obtain ⟨h23, e24, hf⟩ := mm_letE hf
      refine MM.putI e24 4 t_a0 lays_4 toks_4 pq_4_5 ww_211 d_St_whisper_83 rfl ?_
      obtain rfl := Option.some.inj hf
      subst hZ
      exact MM.vret rfl d_St_whisper_86 ⟨rfl, rfl⟩
theorem d_X_tell_0 : decode cX11_tell 0 = .ok (.aload_n 0, 1) := by decide +kernel
theorem d_X_tell_1 : decode cX11_tell 1 = .ok (.getfield 19, 3) := by decide +kernel
theorem d_X_tell_4 : decode cX11_tell 4 = .ok (.aload_n 0, 1) := by decide +kernel
theorem d_X_tell_5 : decode cX11_tell 5 = .ok (.getfield 81, 3) := by decide +kernel
theorem d_X_tell_8 : decode cX11_tell 8 = .ok (.iload_n 1, 1) := by decide +kernel
theorem d_X_tell_9 : decode cX11_tell 9 = .ok (.iload_n 2, 1) := by decide +kernel
theorem d_X_tell_10 : decode cX11_tell 10 = .ok (.iload_n 3, 1) := by decide +kernel
theorem d_X_tell_11 : decode cX11_tell 11 = .ok (.invokevirtual 216, 3) := by decide +kernel
theorem d_X_tell_14 : decode cX11_tell 14 = .ok (.ifCond .ne 5, 3) := by decide +kernel
theorem d_X_tell_17 : decode cX11_tell 17 = .ok (.iconst (-1), 1) := by decide +kernel
theorem d_X_tell_18 : decode cX11_tell 18 = .ok (.ireturn, 1) := by decide +kernel
theorem d_X_tell_19 : decode cX11_tell 19 = .ok (.aload_n 0, 1) := by decide +kernel
theorem d_X_tell_20 : decode cX11_tell 20 = .ok (.invokevirtual 220, 3) := by decide +kernel
theorem d_X_tell_23 : decode cX11_tell 23 = .ok (.aload_n 0, 1) := by decide +kernel
theorem d_X_tell_24 : decode cX11_tell 24 = .ok (.getfield 19, 3) := by decide +kernel
theorem d_X_tell_27 : decode cX11_tell 27 = .ok (.aload_n 0, 1) := by decide +kernel
theorem d_X_tell_28 : decode cX11_tell 28 = .ok (.getfield 81, 3) := by decide +kernel
theorem d_X_tell_31 : decode cX11_tell 31 = .ok (.iload_n 1, 1) := by decide +kernel
theorem d_X_tell_32 : decode cX11_tell 32 = .ok (.iload_n 2, 1) := by decide +kernel
theorem d_X_tell_33 : decode cX11_tell 33 = .ok (.iload_n 3, 1) := by decide +kernel
theorem d_X_tell_34 : decode cX11_tell 34 = .ok (.invokevirtual 223, 3) := by decide +kernel
theorem d_X_tell_37 : decode cX11_tell 37 = .ok (.aload_n 0, 1) := by decide +kernel
theorem d_X_tell_38 : decode cX11_tell 38 = .ok (.aload_n 0, 1) := by decide +kernel
theorem d_X_tell_39 : decode cX11_tell 39 = .ok (.getfield 19, 3) := by decide +kernel
theorem d_X_tell_42 : decode cX11_tell 42 = .ok (.invokevirtual 153, 3) := by decide +kernel
theorem d_X_tell_45 : decode cX11_tell 45 = .ok (.iload_n 3, 1) := by decide +kernel
theorem d_X_tell_46 : decode cX11_tell 46 = .ok (.iaload, 1) := by decide +kernel
theorem d_X_tell_47 : decode cX11_tell 47 = .ok (.ireturn, 1) := by decide +kernel
noncomputable def f_X_tell (x1 : Int32) (x2 : Int32) (x3 : Int32) (h : mm_H) : Option (Int32 × mm_H) := (mm_gT h 14).bind fun t1 => (f_St_mayTell 35 t1 x1 x2 x3 h).bind fun v4 => if v4 = 0 then (some ((-1), h)) else ((f_X_remember h).bind fun v6 => (mm_gT v6 14).bind fun t7 => (f_St_whisper 35 t7 x1 x2 x3 v6).bind fun v10 => (f_X_weighed 35 v10).bind fun v12 => (mm_ix x3 10).bind fun k13 => some ((v12.1 76 k13), v12))
theorem T_X_tell (V : mm_V) (l : Launch) (x1 : Int32) (x2 : Int32) (x3 : Int32) (h : mm_H) (r : (Int32 × mm_H)) (hf : f_X_tell x1 x2 x3 h = some r) : MT V l Y_X_tell 6 [.ref 32, .int x1, .int x2, .int x3] (fun r1 h1 => r1 = some (.int r.1) ∧ h1 = r.2) h := by
  unfold f_X_tell at hf
  refine MT.intro (pn_X rfl) [(0, .ref 32), (1, .int x1), (2, .int x2), (3, .int x3)] rfl (Nat.le_of_ble_eq_true rfl) ?_
  generalize hZ : mm_Z V _ = Z0
  refine MM.aload_n (i := 0) rfl rfl d_X_tell_0 rfl ?_
  refine MM.gR 8 3 tg_32 rq_8_1 rfl lays_8 ww_473 d_X_tell_1 rfl ?_
  refine MM.aload_n (i := 0) rfl rfl d_X_tell_4 rfl ?_
  obtain ⟨t1, e2, hf⟩ := mm_bind hf
  obtain ⟨e2, t_t1⟩ := mm_gTE e2
  refine MM.gT e2 tg_32 tq_14 lays_8 ww_486 d_X_tell_5 rfl ?_
  refine MM.iload_n (i := 1) rfl rfl d_X_tell_8 rfl ?_
  refine MM.iload_n (i := 2) rfl rfl d_X_tell_9 rfl ?_
  refine MM.iload_n (i := 3) rfl rfl d_X_tell_10 rfl ?_
  obtain ⟨v4, e3, hf⟩ := mm_bind hf
  refine MM.callV1 (T_St_mayTell V l 35 t1 x1 x2 x3 h _ e3) (fun _ _ q => q) cal_St_mayTell rfl tg_35 ct_4 ww_955 ww_954 ww_953 (by decide) (by simp [Value.category]) d_X_tell_11 rfl ⟨rfl, rfl⟩ rfl ?_
  obtain ⟨m16, m17⟩ := mm_ifE hf
  refine MM.if_ne (tgt := 19) d_X_tell_14 rfl rfl (fun c15 => ?_) (fun c15 => ?_)
  · replace hf := m17 c15
    refine MM.aload_n (i := 0) rfl rfl d_X_tell_19 rfl ?_
    obtain ⟨v6, e5, hf⟩ := mm_bind hf
    refine MM.callV0 (T_X_remember V l  h _ e5) (fun _ _ q => q) cal_X_remember rfl tg_32 ct_8 ww_9 ww_965 ww_963 (by decide) (by simp [Value.category]) d_X_tell_20 rfl ⟨rfl, rfl⟩ rfl ?_
    refine MM.aload_n (i := 0) rfl rfl d_X_tell_23 rfl ?_
    refine MM.gR 8 3 tg_32 rq_8_1 rfl lays_8 ww_473 d_X_tell_24 rfl ?_
    refine MM.aload_n (i := 0) rfl rfl d_X_tell_27 rfl ?_
    obtain ⟨t7, e8, hf⟩ := mm_bind hf
    obtain ⟨e8, t_t7⟩ := mm_gTE e8
    refine MM.gT e8 tg_32 tq_14 lays_8 ww_486 d_X_tell_28 rfl ?_
    refine MM.iload_n (i := 1) rfl rfl d_X_tell_31 rfl ?_
    refine MM.iload_n (i := 2) rfl rfl d_X_tell_32 rfl ?_
    refine MM.iload_n (i := 3) rfl rfl d_X_tell_33 rfl ?_
    obtain ⟨v10, e9, hf⟩ := mm_bind hf
    refine MM.callV0 (T_St_whisper V l 35 t7 x1 x2 x3 v6 _ e9) (fun _ _ q => q) cal_St_whisper rfl tg_35 ct_4 ww_974 ww_973 ww_972 (by decide) (by simp [Value.category]) d_X_tell_34 rfl ⟨rfl, rfl⟩ rfl ?_
    refine MM.aload_n (i := 0) rfl rfl d_X_tell_37 rfl ?_
    refine MM.aload_n (i := 0) rfl rfl d_X_tell_38 rfl ?_
    refine MM.gR 8 3 tg_32 rq_8_1 rfl lays_8 ww_473 d_X_tell_39 rfl ?_
    obtain ⟨v12, e11, hf⟩ := mm_bind hf
    refine MM.callV1 (T_X_weighed V l 35 v10 _ e11) (fun _ _ q => q) cal_X_weighed rfl tg_32 ct_8 ww_8 ww_900 ww_898 (by decide) (by simp [Value.category]) d_X_tell_42 rfl ⟨rfl, rfl⟩ rfl ?_
    refine MM.iload_n (i := 3) rfl rfl d_X_tell_45 rfl ?_
    obtain ⟨k13, e14, hf⟩ := mm_bind hf
    refine MM.gI e14 al_76 d_X_tell_46 rfl ?_
    obtain rfl := Option.some.inj hf
    subst hZ
    exact MM.iret rfl d_X_tell_47 ⟨rfl, rfl⟩
  · replace hf := m16 c15
    refine MM.iconst ic_m1 d_X_tell_17 rfl ?_
    obtain rfl := Option.some.inj hf
    subst hZ
    exact MM.iret rfl d_X_tell_18 ⟨rfl, rfl⟩
theorem d_St_payable_0 : decode cX5_payable 0 = .ok (.aload_n 0, 1) := by decide +kernel
theorem d_St_payable_1 : decode cX5_payable 1 = .ok (.aload_n 1, 1) := by decide +kernel
theorem d_St_payable_2 : decode cX5_payable 2 = .ok (.iload_n 2, 1) := by decide +kernel
theorem d_St_payable_3 : decode cX5_payable 3 = .ok (.invokevirtual 124, 3) := by decide +kernel
theorem d_St_payable_6 : decode cX5_payable 6 = .ok (.aload_n 0, 1) := by decide +kernel
theorem d_St_payable_7 : decode cX5_payable 7 = .ok (.getfield 32, 3) := by decide +kernel
theorem d_St_payable_10 : decode cX5_payable 10 = .ok (.iconst (-1), 1) := by decide +kernel
theorem d_St_payable_11 : decode cX5_payable 11 = .ok (.ixor, 1) := by decide +kernel
theorem d_St_payable_12 : decode cX5_payable 12 = .ok (.iand, 1) := by decide +kernel
theorem d_St_payable_13 : decode cX5_payable 13 = .ok (.ireturn, 1) := by decide +kernel
noncomputable def f_St_payable (a0 : Nat) (a1 : Nat) (x2 : Int32) (h : mm_H) : Option Int32 := if mm_tg a0 = 4 ∧ mm_tg a1 = 7 then ((f_St_known a0 a1 x2 h).bind fun v2 => some (v2 &&& ((h.1 a0 6) ^^^ (-1)))) else none
theorem T_St_payable (V : mm_V) (l : Launch) (a0 : Nat) (a1 : Nat) (x2 : Int32) (h : mm_H) (r : Int32) (hf : f_St_payable a0 a1 x2 h = some r) : MT V l Y_St_payable 3 [.ref a0, .ref a1, .int x2] (fun r1 h1 => r1 = some (.int r) ∧ h1 = h) h := by
  unfold f_St_payable at hf
  obtain ⟨⟨t_a0, t_a1⟩, hf⟩ := mm_chkE hf
  refine MT.intro (pn_St rfl) [(0, .ref a0), (1, .ref a1), (2, .int x2)] rfl (Nat.le_of_ble_eq_true rfl) ?_
  generalize hZ : mm_Z V _ = Z0
  refine MM.aload_n (i := 0) rfl rfl d_St_payable_0 rfl ?_
  refine MM.aload_n (i := 1) rfl rfl d_St_payable_1 rfl ?_
  refine MM.iload_n (i := 2) rfl rfl d_St_payable_2 rfl ?_
  obtain ⟨v2, e1, hf⟩ := mm_bind hf
  refine MM.callV1 (T_St_known V l a0 a1 x2 h _ e1) (fun _ _ q => q) cal_St_known rfl t_a0 ct_4 ww_991 ww_990 ww_989 (by decide) (by simp [Value.category]) d_St_payable_3 rfl ⟨rfl, rfl⟩ rfl ?_
  refine MM.aload_n (i := 0) rfl rfl d_St_payable_6 rfl ?_
  refine MM.getI 4 t_a0 lays_4 gq_4_6 ww_213 d_St_payable_7 rfl ?_
  refine MM.iconst ic_m1 d_St_payable_10 rfl ?_
  refine MM.ixor d_St_payable_11 rfl ?_
  refine MM.iand d_St_payable_12 rfl ?_
  obtain rfl := Option.some.inj hf
  subst hZ
  exact MM.iret rfl d_St_payable_13 ⟨rfl, rfl⟩
theorem d_St_mayPay_0 : decode cX5_mayPay 0 = .ok (.aload_n 0, 1) := by decide +kernel
theorem d_St_mayPay_1 : decode cX5_mayPay 1 = .ok (.getfield 35, 3) := by decide +kernel
theorem d_St_mayPay_4 : decode cX5_mayPay 4 = .ok (.iload_n 2, 1) := by decide +kernel
theorem d_St_mayPay_5 : decode cX5_mayPay 5 = .ok (.invokestatic 68, 3) := by decide +kernel
theorem d_St_mayPay_8 : decode cX5_mayPay 8 = .ok (.ifCond .ne 39, 3) := by decide +kernel
theorem d_St_mayPay_11 : decode cX5_mayPay 11 = .ok (.iload_n 3, 1) := by decide +kernel
theorem d_St_mayPay_12 : decode cX5_mayPay 12 = .ok (.ifCond .le 35, 3) := by decide +kernel
theorem d_St_mayPay_15 : decode cX5_mayPay 15 = .ok (.iload_n 3, 1) := by decide +kernel
theorem d_St_mayPay_16 : decode cX5_mayPay 16 = .ok (.aload_n 0, 1) := by decide +kernel
theorem d_St_mayPay_17 : decode cX5_mayPay 17 = .ok (.aload_n 1, 1) := by decide +kernel
theorem d_St_mayPay_18 : decode cX5_mayPay 18 = .ok (.iload_n 2, 1) := by decide +kernel
theorem d_St_mayPay_19 : decode cX5_mayPay 19 = .ok (.invokevirtual 128, 3) := by decide +kernel
theorem d_St_mayPay_22 : decode cX5_mayPay 22 = .ok (.iconst (-1), 1) := by decide +kernel
theorem d_St_mayPay_23 : decode cX5_mayPay 23 = .ok (.ixor, 1) := by decide +kernel
theorem d_St_mayPay_24 : decode cX5_mayPay 24 = .ok (.iand, 1) := by decide +kernel
theorem d_St_mayPay_25 : decode cX5_mayPay 25 = .ok (.ifCond .ne 22, 3) := by decide +kernel
theorem d_St_mayPay_28 : decode cX5_mayPay 28 = .ok (.aload 4, 2) := by decide +kernel
theorem d_St_mayPay_30 : decode cX5_mayPay 30 = .ok (.iload_n 3, 1) := by decide +kernel
theorem d_St_mayPay_31 : decode cX5_mayPay 31 = .ok (.invokestatic 131, 3) := by decide +kernel
theorem d_St_mayPay_34 : decode cX5_mayPay 34 = .ok (.aload_n 1, 1) := by decide +kernel
theorem d_St_mayPay_35 : decode cX5_mayPay 35 = .ok (.getfield 135, 3) := by decide +kernel
theorem d_St_mayPay_38 : decode cX5_mayPay 38 = .ok (.iload_n 2, 1) := by decide +kernel
theorem d_St_mayPay_39 : decode cX5_mayPay 39 = .ok (.iaload, 1) := by decide +kernel
theorem d_St_mayPay_40 : decode cX5_mayPay 40 = .ok (.if_icmp .lt 7, 3) := by decide +kernel
theorem d_St_mayPay_43 : decode cX5_mayPay 43 = .ok (.iconst 1, 1) := by decide +kernel
theorem d_St_mayPay_44 : decode cX5_mayPay 44 = .ok (.goto 4, 3) := by decide +kernel
theorem d_St_mayPay_47 : decode cX5_mayPay 47 = .ok (.iconst 0, 1) := by decide +kernel
theorem d_St_mayPay_48 : decode cX5_mayPay 48 = .ok (.ireturn, 1) := by decide +kernel
noncomputable def f_St_mayPay (a0 : Nat) (a1 : Nat) (x2 : Int32) (x3 : Int32) (a4 : Nat) (h : mm_H) : Option Int32 := if mm_tg a0 = 4 ∧ mm_tg a1 = 7 ∧ mm_tg a4 = 20 then ((f_X_bit (h.1 a0 7) x2).bind fun v2 => if v2 = 0 then (if x3 ≤ 0 then (some 0) else ((f_St_payable a0 a1 x2 h).bind fun v4 => if (x3 &&& (v4 ^^^ (-1))) = 0 then ((f_X_together a4 x3 h).bind fun v6 => (mm_ix x2 6).bind fun k7 => if v6 < (h.1 (a1 + 4) k7) then (some 0) else (some 1)) else (some 0))) else (some 0)) else none
theorem T_St_mayPay (V : mm_V) (l : Launch) (a0 : Nat) (a1 : Nat) (x2 : Int32) (x3 : Int32) (a4 : Nat) (h : mm_H) (r : Int32) (hf : f_St_mayPay a0 a1 x2 x3 a4 h = some r) : MT V l Y_St_mayPay 4 [.ref a0, .ref a1, .int x2, .int x3, .ref a4] (fun r1 h1 => r1 = some (.int r) ∧ h1 = h) h := by
  unfold f_St_mayPay at hf
  obtain ⟨⟨t_a0, t_a1, t_a4⟩, hf⟩ := mm_chkE hf
  refine MT.intro (pn_St rfl) [(0, .ref a0), (1, .ref a1), (2, .int x2), (3, .int x3), (4, .ref a4)] rfl (Nat.le_of_ble_eq_true rfl) ?_
  generalize hZ : mm_Z V _ = Z0
  refine MM.aload_n (i := 0) rfl rfl d_St_mayPay_0 rfl ?_
  refine MM.getI 4 t_a0 lays_4 gq_4_7 ww_215 d_St_mayPay_1 rfl ?_
  refine MM.iload_n (i := 2) rfl rfl d_St_mayPay_4 rfl ?_
  obtain ⟨v2, e1, hf⟩ := mm_bind hf
  refine MM.callSN1 (T_X_bit V l (h.1 a0 7) x2 h _ e1) (fun _ _ q => q) cal_X_bit rfl ww_763 ww_906n (by decide) (by simp [Value.category]) d_St_mayPay_5 rfl ⟨rfl, rfl⟩ rfl ?_
  obtain ⟨m19, m20⟩ := mm_ifE hf
  refine MM.if_ne (tgt := 47) d_St_mayPay_8 rfl rfl (fun c18 => ?_) (fun c18 => ?_)
  · replace hf := m20 c18
    refine MM.iconst ic_0 d_St_mayPay_47 rfl ?_
    obtain rfl := Option.some.inj hf
    subst hZ
    exact MM.zret (Or.inl rfl) rfl d_St_mayPay_48 ⟨rfl, rfl⟩
  · replace hf := m19 c18
    refine MM.iload_n (i := 3) rfl rfl d_St_mayPay_11 rfl ?_
    obtain ⟨m16, m17⟩ := mm_ifE hf
    refine MM.if_le (tgt := 47) d_St_mayPay_12 rfl rfl (fun c15 => ?_) (fun c15 => ?_)
    · replace hf := m16 c15
      refine MM.iconst ic_0 d_St_mayPay_47 rfl ?_
      obtain rfl := Option.some.inj hf
      subst hZ
      exact MM.zret (Or.inl rfl) rfl d_St_mayPay_48 ⟨rfl, rfl⟩
    · replace hf := m17 c15
      refine MM.iload_n (i := 3) rfl rfl d_St_mayPay_15 rfl ?_
      refine MM.aload_n (i := 0) rfl rfl d_St_mayPay_16 rfl ?_
      refine MM.aload_n (i := 1) rfl rfl d_St_mayPay_17 rfl ?_
      refine MM.iload_n (i := 2) rfl rfl d_St_mayPay_18 rfl ?_
      obtain ⟨v4, e3, hf⟩ := mm_bind hf
      refine MM.callV1 (T_St_payable V l a0 a1 x2 h _ e3) (fun _ _ q => q) cal_St_payable rfl t_a0 ct_4 ww_987 ww_986 ww_985 (by decide) (by simp [Value.category]) d_St_mayPay_19 rfl ⟨rfl, rfl⟩ rfl ?_
      refine MM.iconst ic_m1 d_St_mayPay_22 rfl ?_
      refine MM.ixor d_St_mayPay_23 rfl ?_
      refine MM.iand d_St_mayPay_24 rfl ?_
      obtain ⟨m13, m14⟩ := mm_ifE hf
      refine MM.if_ne (tgt := 47) d_St_mayPay_25 rfl rfl (fun c12 => ?_) (fun c12 => ?_)
      · replace hf := m14 c12
        refine MM.iconst ic_0 d_St_mayPay_47 rfl ?_
        obtain rfl := Option.some.inj hf
        subst hZ
        exact MM.zret (Or.inl rfl) rfl d_St_mayPay_48 ⟨rfl, rfl⟩
      · replace hf := m13 c12
        refine MM.aload rfl d_St_mayPay_28 rfl ?_
        refine MM.iload_n (i := 3) rfl rfl d_St_mayPay_30 rfl ?_
        obtain ⟨v6, e5, hf⟩ := mm_bind hf
        refine MM.callSN1 (T_X_together V l a4 x3 h _ e5) (fun _ _ q => q) cal_X_together rfl ww_994 ww_993n (by decide) (by simp [Value.category]) d_St_mayPay_31 rfl ⟨rfl, rfl⟩ rfl ?_
        refine MM.aload_n (i := 1) rfl rfl d_St_mayPay_34 rfl ?_
        refine MM.gR 7 4 t_a1 rq_7_4 rfl lays_7 ww_382 d_St_mayPay_35 rfl ?_
        refine MM.iload_n (i := 2) rfl rfl d_St_mayPay_38 rfl ?_
        obtain ⟨k7, e8, hf⟩ := mm_bind hf
        refine MM.gI e8 (al_7_4f t_a1) d_St_mayPay_39 rfl ?_
        obtain ⟨m10, m11⟩ := mm_ifE hf
        refine MM.icmp_lt (tgt := 47) d_St_mayPay_40 rfl rfl (fun c9 => ?_) (fun c9 => ?_)
        · replace hf := m10 c9
          refine MM.iconst ic_0 d_St_mayPay_47 rfl ?_
          obtain rfl := Option.some.inj hf
          subst hZ
          exact MM.zret (Or.inl rfl) rfl d_St_mayPay_48 ⟨rfl, rfl⟩
        · replace hf := m11 c9
          refine MM.iconst ic_1 d_St_mayPay_43 rfl ?_
          refine MM.goto (tgt := 48) d_St_mayPay_44 rfl ?_
          obtain rfl := Option.some.inj hf
          subst hZ
          exact MM.zret (Or.inr rfl) rfl d_St_mayPay_48 ⟨rfl, rfl⟩
theorem d_St_take_0 : decode cX5_take 0 = .ok (.aload_n 0, 1) := by decide +kernel
theorem d_St_take_1 : decode cX5_take 1 = .ok (.dup, 1) := by decide +kernel
theorem d_St_take_2 : decode cX5_take 2 = .ok (.getfield 35, 3) := by decide +kernel
theorem d_St_take_5 : decode cX5_take 5 = .ok (.iconst 1, 1) := by decide +kernel
theorem d_St_take_6 : decode cX5_take 6 = .ok (.iload_n 1, 1) := by decide +kernel
theorem d_St_take_7 : decode cX5_take 7 = .ok (.ishl, 1) := by decide +kernel
theorem d_St_take_8 : decode cX5_take 8 = .ok (.ior, 1) := by decide +kernel
theorem d_St_take_9 : decode cX5_take 9 = .ok (.putfield 35, 3) := by decide +kernel
theorem d_St_take_12 : decode cX5_take 12 = .ok (.aload_n 0, 1) := by decide +kernel
theorem d_St_take_13 : decode cX5_take 13 = .ok (.dup, 1) := by decide +kernel
theorem d_St_take_14 : decode cX5_take 14 = .ok (.getfield 32, 3) := by decide +kernel
theorem d_St_take_17 : decode cX5_take 17 = .ok (.iload_n 2, 1) := by decide +kernel
theorem d_St_take_18 : decode cX5_take 18 = .ok (.ior, 1) := by decide +kernel
theorem d_St_take_19 : decode cX5_take 19 = .ok (.putfield 32, 3) := by decide +kernel
theorem d_St_take_22 : decode cX5_take 22 = .ok (.return_, 1) := by decide +kernel
noncomputable def f_St_take (a0 : Nat) (x1 : Int32) (x2 : Int32) (h : mm_H) : Option mm_H := if mm_tg a0 = 4 then (mm_let (mm_pI h a0 7 ((h.1 a0 7) ||| ((1 : Int32) <<< (x1 &&& 31)))) fun h1 => mm_let (mm_pI h1 a0 6 ((h1.1 a0 6) ||| x2)) fun h3 => some h3) else none
theorem T_St_take (V : mm_V) (l : Launch) (a0 : Nat) (x1 : Int32) (x2 : Int32) (h : mm_H) (r : mm_H) (hf : f_St_take a0 x1 x2 h = some r) : MT V l Y_St_take 1 [.ref a0, .int x1, .int x2] (fun r1 h1 => r1 = none ∧ h1 = r) h := by
  unfold f_St_take at hf
  obtain ⟨t_a0, hf⟩ := mm_chkE hf
  refine MT.intro (pn_St rfl) [(0, .ref a0), (1, .int x1), (2, .int x2)] rfl (Nat.le_of_ble_eq_true rfl) ?_
  generalize hZ : mm_Z V _ = Z0
  refine MM.aload_n (i := 0) rfl rfl d_St_take_0 rfl ?_
  refine MM.dup rfl d_St_take_1 rfl ?_
  refine MM.getI 4 t_a0 lays_4 gq_4_7 ww_215 d_St_take_2 rfl ?_
  refine MM.iconst ic_1 d_St_take_5 rfl ?_
  refine MM.iload_n (i := 1) rfl rfl d_St_take_6 rfl ?_
  refine MM.ishl d_St_take_7 rfl ?_
  refine MM.ior d_St_take_8 rfl ?_
  obtain ⟨h1, e2, hf⟩ := mm_letE hf
  refine MM.putI e2 4 t_a0 lays_4 toks_4 pq_4_7 ww_215 d_St_take_9 rfl ?_
  refine MM.aload_n (i := 0) rfl rfl d_St_take_12 rfl ?_
  refine MM.dup rfl d_St_take_13 rfl ?_
  refine MM.getI 4 t_a0 lays_4 gq_4_6 ww_213 d_St_take_14 rfl ?_
  refine MM.iload_n (i := 2) rfl rfl d_St_take_17 rfl ?_
  refine MM.ior d_St_take_18 rfl ?_
  obtain ⟨h3, e4, hf⟩ := mm_letE hf
  refine MM.putI e4 4 t_a0 lays_4 toks_4 pq_4_6 ww_213 d_St_take_19 rfl ?_
  obtain rfl := Option.some.inj hf
  subst hZ
  exact MM.vret rfl d_St_take_22 ⟨rfl, rfl⟩
theorem d_X_pay_0 : decode cX11_pay 0 = .ok (.aload_n 0, 1) := by decide +kernel
theorem d_X_pay_1 : decode cX11_pay 1 = .ok (.getfield 81, 3) := by decide +kernel
theorem d_X_pay_4 : decode cX11_pay 4 = .ok (.iload_n 1, 1) := by decide +kernel
theorem d_X_pay_5 : decode cX11_pay 5 = .ok (.invokevirtual 133, 3) := by decide +kernel
theorem d_X_pay_8 : decode cX11_pay 8 = .ok (.ifCond .eq 27, 3) := by decide +kernel
theorem d_X_pay_11 : decode cX11_pay 11 = .ok (.aload_n 0, 1) := by decide +kernel
theorem d_X_pay_12 : decode cX11_pay 12 = .ok (.getfield 19, 3) := by decide +kernel
theorem d_X_pay_15 : decode cX11_pay 15 = .ok (.aload_n 0, 1) := by decide +kernel
theorem d_X_pay_16 : decode cX11_pay 16 = .ok (.getfield 81, 3) := by decide +kernel
theorem d_X_pay_19 : decode cX11_pay 19 = .ok (.iload_n 1, 1) := by decide +kernel
theorem d_X_pay_20 : decode cX11_pay 20 = .ok (.iload_n 2, 1) := by decide +kernel
theorem d_X_pay_21 : decode cX11_pay 21 = .ok (.aload_n 0, 1) := by decide +kernel
theorem d_X_pay_22 : decode cX11_pay 22 = .ok (.aload_n 0, 1) := by decide +kernel
theorem d_X_pay_23 : decode cX11_pay 23 = .ok (.getfield 19, 3) := by decide +kernel
theorem d_X_pay_26 : decode cX11_pay 26 = .ok (.invokevirtual 153, 3) := by decide +kernel
theorem d_X_pay_29 : decode cX11_pay 29 = .ok (.invokevirtual 227, 3) := by decide +kernel
theorem d_X_pay_32 : decode cX11_pay 32 = .ok (.ifCond .ne 5, 3) := by decide +kernel
theorem d_X_pay_35 : decode cX11_pay 35 = .ok (.iconst (-1), 1) := by decide +kernel
theorem d_X_pay_36 : decode cX11_pay 36 = .ok (.ireturn, 1) := by decide +kernel
theorem d_X_pay_37 : decode cX11_pay 37 = .ok (.aload_n 0, 1) := by decide +kernel
theorem d_X_pay_38 : decode cX11_pay 38 = .ok (.invokevirtual 220, 3) := by decide +kernel
theorem d_X_pay_41 : decode cX11_pay 41 = .ok (.aload_n 0, 1) := by decide +kernel
theorem d_X_pay_42 : decode cX11_pay 42 = .ok (.getfield 19, 3) := by decide +kernel
theorem d_X_pay_45 : decode cX11_pay 45 = .ok (.iload_n 1, 1) := by decide +kernel
theorem d_X_pay_46 : decode cX11_pay 46 = .ok (.iload_n 2, 1) := by decide +kernel
theorem d_X_pay_47 : decode cX11_pay 47 = .ok (.invokevirtual 231, 3) := by decide +kernel
theorem d_X_pay_50 : decode cX11_pay 50 = .ok (.aload_n 0, 1) := by decide +kernel
theorem d_X_pay_51 : decode cX11_pay 51 = .ok (.getfield 68, 3) := by decide +kernel
theorem d_X_pay_54 : decode cX11_pay 54 = .ok (.iload_n 2, 1) := by decide +kernel
theorem d_X_pay_55 : decode cX11_pay 55 = .ok (.invokestatic 157, 3) := by decide +kernel
theorem d_X_pay_58 : decode cX11_pay 58 = .ok (.ireturn, 1) := by decide +kernel
noncomputable def f_X_pay (x1 : Int32) (x2 : Int32) (h : mm_H) : Option (Int32 × mm_H) := (mm_gT h 14).bind fun t1 => (f_To_hasPerson t1 x1 h).bind fun v4 => if v4 = 0 then (some ((-1), h)) else ((mm_gT h 14).bind fun t5 => (f_X_weighed 35 h).bind fun v8 => (f_St_mayPay 35 t5 x1 x2 76 v8).bind fun v10 => if v10 = 0 then (some ((-1), v8)) else ((f_X_remember v8).bind fun v12 => (f_St_take 35 x1 x2 v12).bind fun v14 => (f_X_together 76 x2 v14).bind fun v16 => some (v16, v14)))
theorem T_X_pay (V : mm_V) (l : Launch) (x1 : Int32) (x2 : Int32) (h : mm_H) (r : (Int32 × mm_H)) (hf : f_X_pay x1 x2 h = some r) : MT V l Y_X_pay 6 [.ref 32, .int x1, .int x2] (fun r1 h1 => r1 = some (.int r.1) ∧ h1 = r.2) h := by
  unfold f_X_pay at hf
  refine MT.intro (pn_X rfl) [(0, .ref 32), (1, .int x1), (2, .int x2)] rfl (Nat.le_of_ble_eq_true rfl) ?_
  generalize hZ : mm_Z V _ = Z0
  refine MM.aload_n (i := 0) rfl rfl d_X_pay_0 rfl ?_
  obtain ⟨t1, e2, hf⟩ := mm_bind hf
  obtain ⟨e2, t_t1⟩ := mm_gTE e2
  refine MM.gT e2 tg_32 tq_14 lays_8 ww_486 d_X_pay_1 rfl ?_
  refine MM.iload_n (i := 1) rfl rfl d_X_pay_4 rfl ?_
  obtain ⟨v4, e3, hf⟩ := mm_bind hf
  refine MM.callV1 (T_To_hasPerson V l t1 x1 h _ e3) (fun _ _ q => q) cal_To_hasPerson rfl t_t1 ct_7 ww_934 ww_933 ww_980 (by decide) (by simp [Value.category]) d_X_pay_5 rfl ⟨rfl, rfl⟩ rfl ?_
  obtain ⟨m21, m22⟩ := mm_ifE hf
  refine MM.if_eq (tgt := 35) d_X_pay_8 rfl rfl (fun c20 => ?_) (fun c20 => ?_)
  · replace hf := m21 c20
    refine MM.iconst ic_m1 d_X_pay_35 rfl ?_
    obtain rfl := Option.some.inj hf
    subst hZ
    exact MM.iret rfl d_X_pay_36 ⟨rfl, rfl⟩
  · replace hf := m22 c20
    refine MM.aload_n (i := 0) rfl rfl d_X_pay_11 rfl ?_
    refine MM.gR 8 3 tg_32 rq_8_1 rfl lays_8 ww_473 d_X_pay_12 rfl ?_
    refine MM.aload_n (i := 0) rfl rfl d_X_pay_15 rfl ?_
    obtain ⟨t5, e6, hf⟩ := mm_bind hf
    obtain ⟨e6, t_t5⟩ := mm_gTE e6
    refine MM.gT e6 tg_32 tq_14 lays_8 ww_486 d_X_pay_16 rfl ?_
    refine MM.iload_n (i := 1) rfl rfl d_X_pay_19 rfl ?_
    refine MM.iload_n (i := 2) rfl rfl d_X_pay_20 rfl ?_
    refine MM.aload_n (i := 0) rfl rfl d_X_pay_21 rfl ?_
    refine MM.aload_n (i := 0) rfl rfl d_X_pay_22 rfl ?_
    refine MM.gR 8 3 tg_32 rq_8_1 rfl lays_8 ww_473 d_X_pay_23 rfl ?_
    obtain ⟨v8, e7, hf⟩ := mm_bind hf
    refine MM.callV1 (T_X_weighed V l 35 h _ e7) (fun _ _ q => q) cal_X_weighed rfl tg_32 ct_8 ww_8 ww_900 ww_898 (by decide) (by simp [Value.category]) d_X_pay_26 rfl ⟨rfl, rfl⟩ rfl ?_
    obtain ⟨v10, e9, hf⟩ := mm_bind hf
    refine MM.callV1 (T_St_mayPay V l 35 t5 x1 x2 76 v8 _ e9) (fun _ _ q => q) cal_St_mayPay rfl tg_35 ct_4 ww_983 ww_982 ww_981 (by decide) (by simp [Value.category]) d_X_pay_29 rfl ⟨rfl, rfl⟩ rfl ?_
    obtain ⟨m18, m19⟩ := mm_ifE hf
    refine MM.if_ne (tgt := 37) d_X_pay_32 rfl rfl (fun c17 => ?_) (fun c17 => ?_)
    · replace hf := m19 c17
      refine MM.aload_n (i := 0) rfl rfl d_X_pay_37 rfl ?_
      obtain ⟨v12, e11, hf⟩ := mm_bind hf
      refine MM.callV0 (T_X_remember V l  v8 _ e11) (fun _ _ q => q) cal_X_remember rfl tg_32 ct_8 ww_9 ww_965 ww_963 (by decide) (by simp [Value.category]) d_X_pay_38 rfl ⟨rfl, rfl⟩ rfl ?_
      refine MM.aload_n (i := 0) rfl rfl d_X_pay_41 rfl ?_
      refine MM.gR 8 3 tg_32 rq_8_1 rfl lays_8 ww_473 d_X_pay_42 rfl ?_
      refine MM.iload_n (i := 1) rfl rfl d_X_pay_45 rfl ?_
      refine MM.iload_n (i := 2) rfl rfl d_X_pay_46 rfl ?_
      obtain ⟨v14, e13, hf⟩ := mm_bind hf
      refine MM.callV0 (T_St_take V l 35 x1 x2 v12 _ e13) (fun _ _ q => q) cal_St_take rfl tg_35 ct_4 ww_998 ww_997 ww_996 (by decide) (by simp [Value.category]) d_X_pay_47 rfl ⟨rfl, rfl⟩ rfl ?_
      refine MM.aload_n (i := 0) rfl rfl d_X_pay_50 rfl ?_
      refine MM.gR 8 44 tg_32 rq_8_11 rfl lays_8 ww_483 d_X_pay_51 rfl ?_
      refine MM.iload_n (i := 2) rfl rfl d_X_pay_54 rfl ?_
      obtain ⟨v16, e15, hf⟩ := mm_bind hf
      refine MM.callS1 (T_X_together V l 76 x2 v14 _ e15) (fun _ _ q => q) cal_X_together rfl ww_994 ww_1000 (by decide) (by simp [Value.category]) d_X_pay_55 rfl ⟨rfl, rfl⟩ rfl ?_
      obtain rfl := Option.some.inj hf
      subst hZ
      exact MM.iret rfl d_X_pay_58 ⟨rfl, rfl⟩
    · replace hf := m18 c17
      refine MM.iconst ic_m1 d_X_pay_35 rfl ?_
      obtain rfl := Option.some.inj hf
      subst hZ
      exact MM.iret rfl d_X_pay_36 ⟨rfl, rfl⟩
theorem d_X_rise_0 : decode cX11_rise 0 = .ok (.aload_n 0, 1) := by decide +kernel
theorem d_X_rise_1 : decode cX11_rise 1 = .ok (.getfield 81, 3) := by decide +kernel
theorem d_X_rise_4 : decode cX11_rise 4 = .ok (.iload_n 1, 1) := by decide +kernel
theorem d_X_rise_5 : decode cX11_rise 5 = .ok (.invokevirtual 133, 3) := by decide +kernel
theorem d_X_rise_8 : decode cX11_rise 8 = .ok (.ifCond .eq 17, 3) := by decide +kernel
theorem d_X_rise_11 : decode cX11_rise 11 = .ok (.aload_n 0, 1) := by decide +kernel
theorem d_X_rise_12 : decode cX11_rise 12 = .ok (.getfield 19, 3) := by decide +kernel
theorem d_X_rise_15 : decode cX11_rise 15 = .ok (.getfield 143, 3) := by decide +kernel
theorem d_X_rise_18 : decode cX11_rise 18 = .ok (.iload_n 1, 1) := by decide +kernel
theorem d_X_rise_19 : decode cX11_rise 19 = .ok (.iaload, 1) := by decide +kernel
theorem d_X_rise_20 : decode cX11_rise 20 = .ok (.bipush 9, 2) := by decide +kernel
theorem d_X_rise_22 : decode cX11_rise 22 = .ok (.if_icmp .lt 5, 3) := by decide +kernel
theorem d_X_rise_25 : decode cX11_rise 25 = .ok (.iconst (-1), 1) := by decide +kernel
theorem d_X_rise_26 : decode cX11_rise 26 = .ok (.ireturn, 1) := by decide +kernel
theorem d_X_rise_27 : decode cX11_rise 27 = .ok (.aload_n 0, 1) := by decide +kernel
theorem d_X_rise_28 : decode cX11_rise 28 = .ok (.invokevirtual 220, 3) := by decide +kernel
theorem d_X_rise_31 : decode cX11_rise 31 = .ok (.aload_n 0, 1) := by decide +kernel
theorem d_X_rise_32 : decode cX11_rise 32 = .ok (.getfield 19, 3) := by decide +kernel
theorem d_X_rise_35 : decode cX11_rise 35 = .ok (.getfield 143, 3) := by decide +kernel
theorem d_X_rise_38 : decode cX11_rise 38 = .ok (.iload_n 1, 1) := by decide +kernel
theorem d_X_rise_39 : decode cX11_rise 39 = .ok (.dup2, 1) := by decide +kernel
theorem d_X_rise_40 : decode cX11_rise 40 = .ok (.iaload, 1) := by decide +kernel
theorem d_X_rise_41 : decode cX11_rise 41 = .ok (.iconst 1, 1) := by decide +kernel
theorem d_X_rise_42 : decode cX11_rise 42 = .ok (.iadd, 1) := by decide +kernel
theorem d_X_rise_43 : decode cX11_rise 43 = .ok (.iastore, 1) := by decide +kernel
theorem d_X_rise_44 : decode cX11_rise 44 = .ok (.aload_n 0, 1) := by decide +kernel
theorem d_X_rise_45 : decode cX11_rise 45 = .ok (.getfield 19, 3) := by decide +kernel
theorem d_X_rise_48 : decode cX11_rise 48 = .ok (.getfield 143, 3) := by decide +kernel
theorem d_X_rise_51 : decode cX11_rise 51 = .ok (.iload_n 1, 1) := by decide +kernel
theorem d_X_rise_52 : decode cX11_rise 52 = .ok (.iaload, 1) := by decide +kernel
theorem d_X_rise_53 : decode cX11_rise 53 = .ok (.ireturn, 1) := by decide +kernel
noncomputable def f_X_rise (x1 : Int32) (h : mm_H) : Option (Int32 × mm_H) := (mm_gT h 14).bind fun t1 => (f_To_hasPerson t1 x1 h).bind fun v4 => if v4 = 0 then (some ((-1), h)) else ((mm_ix x1 6).bind fun k5 => if (h.1 38 k5) < 9 then ((f_X_remember h).bind fun v8 => (mm_ix x1 6).bind fun k9 => (mm_ix x1 6).bind fun k11 => mm_let (mm_pI v8 38 k11 ((v8.1 38 k9) + 1)) fun h13 => (mm_ix x1 6).bind fun k15 => some ((h13.1 38 k15), h13)) else (some ((-1), h)))
theorem T_X_rise (V : mm_V) (l : Launch) (x1 : Int32) (h : mm_H) (r : (Int32 × mm_H)) (hf : f_X_rise x1 h = some r) : MT V l Y_X_rise 3 [.ref 32, .int x1] (fun r1 h1 => r1 = some (.int r.1) ∧ h1 = r.2) h := by
  unfold f_X_rise at hf
  refine MT.intro (pn_X rfl) [(0, .ref 32), (1, .int x1)] rfl (Nat.le_of_ble_eq_true rfl) ?_
  generalize hZ : mm_Z V _ = Z0
  refine MM.aload_n (i := 0) rfl rfl d_X_rise_0 rfl ?_
  obtain ⟨t1, e2, hf⟩ := mm_bind hf
  obtain ⟨e2, t_t1⟩ := mm_gTE e2
  refine MM.gT e2 tg_32 tq_14 lays_8 ww_486 d_X_rise_1 rfl ?_
  refine MM.iload_n (i := 1) rfl rfl d_X_rise_4 rfl ?_
  obtain ⟨v4, e3, hf⟩ := mm_bind hf
  refine MM.callV1 (T_To_hasPerson V l t1 x1 h _ e3) (fun _ _ q => q) cal_To_hasPerson rfl t_t1 ct_7 ww_934 ww_933 ww_980 (by decide) (by simp [Value.category]) d_X_rise_5 rfl ⟨rfl, rfl⟩ rfl ?_
  obtain ⟨m21, m22⟩ := mm_ifE hf
  refine MM.if_eq (tgt := 25) d_X_rise_8 rfl rfl (fun c20 => ?_) (fun c20 => ?_)
  · replace hf := m21 c20
    refine MM.iconst ic_m1 d_X_rise_25 rfl ?_
    obtain rfl := Option.some.inj hf
    subst hZ
    exact MM.iret rfl d_X_rise_26 ⟨rfl, rfl⟩
  · replace hf := m22 c20
    refine MM.aload_n (i := 0) rfl rfl d_X_rise_11 rfl ?_
    refine MM.gR 8 3 tg_32 rq_8_1 rfl lays_8 ww_473 d_X_rise_12 rfl ?_
    refine MM.gR 4 3 tg_35 rq_4_2 rfl lays_4 ww_205 d_X_rise_15 rfl ?_
    refine MM.iload_n (i := 1) rfl rfl d_X_rise_18 rfl ?_
    obtain ⟨k5, e6, hf⟩ := mm_bind hf
    refine MM.gI e6 al_38 d_X_rise_19 rfl ?_
    refine MM.bipush bp_9 d_X_rise_20 rfl ?_
    obtain ⟨m18, m19⟩ := mm_ifE hf
    refine MM.icmp_lt (tgt := 27) d_X_rise_22 rfl rfl (fun c17 => ?_) (fun c17 => ?_)
    · replace hf := m18 c17
      refine MM.aload_n (i := 0) rfl rfl d_X_rise_27 rfl ?_
      obtain ⟨v8, e7, hf⟩ := mm_bind hf
      refine MM.callV0 (T_X_remember V l  h _ e7) (fun _ _ q => q) cal_X_remember rfl tg_32 ct_8 ww_9 ww_965 ww_963 (by decide) (by simp [Value.category]) d_X_rise_28 rfl ⟨rfl, rfl⟩ rfl ?_
      refine MM.aload_n (i := 0) rfl rfl d_X_rise_31 rfl ?_
      refine MM.gR 8 3 tg_32 rq_8_1 rfl lays_8 ww_473 d_X_rise_32 rfl ?_
      refine MM.gR 4 3 tg_35 rq_4_2 rfl lays_4 ww_205 d_X_rise_35 rfl ?_
      refine MM.iload_n (i := 1) rfl rfl d_X_rise_38 rfl ?_
      refine MM.dup2 rfl rfl d_X_rise_39 rfl ?_
      obtain ⟨k9, e10, hf⟩ := mm_bind hf
      refine MM.gI e10 al_38 d_X_rise_40 rfl ?_
      refine MM.iconst ic_1 d_X_rise_41 rfl ?_
      refine MM.iadd d_X_rise_42 rfl ?_
      obtain ⟨k11, e12, hf⟩ := mm_bind hf
      obtain ⟨h13, e14, hf⟩ := mm_letE hf
      refine MM.sI e12 e14 al_38 d_X_rise_43 rfl ?_
      refine MM.aload_n (i := 0) rfl rfl d_X_rise_44 rfl ?_
      refine MM.gR 8 3 tg_32 rq_8_1 rfl lays_8 ww_473 d_X_rise_45 rfl ?_
      refine MM.gR 4 3 tg_35 rq_4_2 rfl lays_4 ww_205 d_X_rise_48 rfl ?_
      refine MM.iload_n (i := 1) rfl rfl d_X_rise_51 rfl ?_
      obtain ⟨k15, e16, hf⟩ := mm_bind hf
      refine MM.gI e16 al_38 d_X_rise_52 rfl ?_
      obtain rfl := Option.some.inj hf
      subst hZ
      exact MM.iret rfl d_X_rise_53 ⟨rfl, rfl⟩
    · replace hf := m19 c17
      refine MM.iconst ic_m1 d_X_rise_25 rfl ?_
      obtain rfl := Option.some.inj hf
      subst hZ
      exact MM.iret rfl d_X_rise_26 ⟨rfl, rfl⟩
theorem d_St_endQuarter_0 : decode cX5_endQuarter 0 = .ok (.iconst 0, 1) := by decide +kernel
theorem d_St_endQuarter_1 : decode cX5_endQuarter 1 = .ok (.istore_n 2, 1) := by decide +kernel
theorem d_St_endQuarter_2 : decode cX5_endQuarter 2 = .ok (.iconst 0, 1) := by decide +kernel
theorem d_St_endQuarter_3 : decode cX5_endQuarter 3 = .ok (.istore_n 3, 1) := by decide +kernel
theorem d_St_endQuarter_4 : decode cX5_endQuarter 4 = .ok (.iload_n 3, 1) := by decide +kernel
theorem d_St_endQuarter_5 : decode cX5_endQuarter 5 = .ok (.aload_n 1, 1) := by decide +kernel
theorem d_St_endQuarter_6 : decode cX5_endQuarter 6 = .ok (.getfield 138, 3) := by decide +kernel
theorem d_St_endQuarter_9 : decode cX5_endQuarter 9 = .ok (.if_icmp .ge 45, 3) := by decide +kernel
theorem d_St_endQuarter_12 : decode cX5_endQuarter 12 = .ok (.aload_n 1, 1) := by decide +kernel
theorem d_St_endQuarter_13 : decode cX5_endQuarter 13 = .ok (.getfield 135, 3) := by decide +kernel
theorem d_St_endQuarter_16 : decode cX5_endQuarter 16 = .ok (.iload_n 3, 1) := by decide +kernel
theorem d_St_endQuarter_17 : decode cX5_endQuarter 17 = .ok (.iaload, 1) := by decide +kernel
theorem d_St_endQuarter_18 : decode cX5_endQuarter 18 = .ok (.ifCond .le 30, 3) := by decide +kernel
theorem d_St_endQuarter_21 : decode cX5_endQuarter 21 = .ok (.aload_n 0, 1) := by decide +kernel
theorem d_St_endQuarter_22 : decode cX5_endQuarter 22 = .ok (.getfield 35, 3) := by decide +kernel
theorem d_St_endQuarter_25 : decode cX5_endQuarter 25 = .ok (.iload_n 3, 1) := by decide +kernel
theorem d_St_endQuarter_26 : decode cX5_endQuarter 26 = .ok (.invokestatic 68, 3) := by decide +kernel
theorem d_St_endQuarter_29 : decode cX5_endQuarter 29 = .ok (.ifCond .ne 19, 3) := by decide +kernel
theorem d_St_endQuarter_32 : decode cX5_endQuarter 32 = .ok (.iload_n 2, 1) := by decide +kernel
theorem d_St_endQuarter_33 : decode cX5_endQuarter 33 = .ok (.iconst 1, 1) := by decide +kernel
theorem d_St_endQuarter_34 : decode cX5_endQuarter 34 = .ok (.iload_n 3, 1) := by decide +kernel
theorem d_St_endQuarter_35 : decode cX5_endQuarter 35 = .ok (.ishl, 1) := by decide +kernel
theorem d_St_endQuarter_36 : decode cX5_endQuarter 36 = .ok (.ior, 1) := by decide +kernel
theorem d_St_endQuarter_37 : decode cX5_endQuarter 37 = .ok (.istore_n 2, 1) := by decide +kernel
theorem d_St_endQuarter_38 : decode cX5_endQuarter 38 = .ok (.aload_n 0, 1) := by decide +kernel
theorem d_St_endQuarter_39 : decode cX5_endQuarter 39 = .ok (.getfield 22, 3) := by decide +kernel
theorem d_St_endQuarter_42 : decode cX5_endQuarter 42 = .ok (.iload_n 3, 1) := by decide +kernel
theorem d_St_endQuarter_43 : decode cX5_endQuarter 43 = .ok (.dup2, 1) := by decide +kernel
theorem d_St_endQuarter_44 : decode cX5_endQuarter 44 = .ok (.iaload, 1) := by decide +kernel
theorem d_St_endQuarter_45 : decode cX5_endQuarter 45 = .ok (.iconst 1, 1) := by decide +kernel
theorem d_St_endQuarter_46 : decode cX5_endQuarter 46 = .ok (.iadd, 1) := by decide +kernel
theorem d_St_endQuarter_47 : decode cX5_endQuarter 47 = .ok (.iastore, 1) := by decide +kernel
theorem d_St_endQuarter_48 : decode cX5_endQuarter 48 = .ok (.iinc 3 1, 3) := by decide +kernel
theorem d_St_endQuarter_51 : decode cX5_endQuarter 51 = .ok (.goto (-47), 3) := by decide +kernel
theorem d_St_endQuarter_54 : decode cX5_endQuarter 54 = .ok (.aload_n 0, 1) := by decide +kernel
theorem d_St_endQuarter_55 : decode cX5_endQuarter 55 = .ok (.iconst 0, 1) := by decide +kernel
theorem d_St_endQuarter_56 : decode cX5_endQuarter 56 = .ok (.putfield 35, 3) := by decide +kernel
theorem d_St_endQuarter_59 : decode cX5_endQuarter 59 = .ok (.aload_n 0, 1) := by decide +kernel
theorem d_St_endQuarter_60 : decode cX5_endQuarter 60 = .ok (.iconst 0, 1) := by decide +kernel
theorem d_St_endQuarter_61 : decode cX5_endQuarter 61 = .ok (.putfield 32, 3) := by decide +kernel
theorem d_St_endQuarter_64 : decode cX5_endQuarter 64 = .ok (.aload_n 0, 1) := by decide +kernel
theorem d_St_endQuarter_65 : decode cX5_endQuarter 65 = .ok (.dup, 1) := by decide +kernel
theorem d_St_endQuarter_66 : decode cX5_endQuarter 66 = .ok (.getfield 41, 3) := by decide +kernel
theorem d_St_endQuarter_69 : decode cX5_endQuarter 69 = .ok (.iconst 1, 1) := by decide +kernel
theorem d_St_endQuarter_70 : decode cX5_endQuarter 70 = .ok (.iadd, 1) := by decide +kernel
theorem d_St_endQuarter_71 : decode cX5_endQuarter 71 = .ok (.putfield 41, 3) := by decide +kernel
theorem d_St_endQuarter_74 : decode cX5_endQuarter 74 = .ok (.iload_n 2, 1) := by decide +kernel
theorem d_St_endQuarter_75 : decode cX5_endQuarter 75 = .ok (.ireturn, 1) := by decide +kernel
noncomputable def f_St_endQuarter (a0 : Nat) (a1 : Nat) (h : mm_H) : Option (Int32 × mm_H) := if mm_tg a0 = 4 ∧ mm_tg a1 = 7 then ((mm_while (σ := (Int32 × Int32 × mm_H)) (ρ := (Int32 × mm_H)) (fun s1 => if (s1.2.2.1 a1 0) ≤ s1.2.1 then (some (Sum.inr (s1.1, s1.2.2))) else ((mm_ix s1.2.1 6).bind fun k7 => (if (s1.2.2.1 (a1 + 4) k7) ≤ 0 then (some (s1.1, s1.2.2)) else ((f_X_bit (s1.2.2.1 a0 7) s1.2.1).bind fun v12 => if v12 = 0 then (mm_let (s1.1 ||| ((1 : Int32) <<< (s1.2.1 &&& 31))) fun y13 => (mm_ix s1.2.1 6).bind fun k15 => (mm_ix s1.2.1 6).bind fun k17 => mm_let (mm_pI s1.2.2 (a0 + 4) k17 ((s1.2.2.1 (a0 + 4) k15) + 1)) fun h19 => some (y13, h19)) else (some (s1.1, s1.2.2))) : Option (Int32 × mm_H)).bind fun j9 => mm_let (s1.2.1 + 1) fun y27 => some (Sum.inl (j9.1, y27, j9.2)))) (0, 0, h)).bind fun v4 => mm_let (mm_pI v4.2 a0 7 0) fun h33 => mm_let (mm_pI h33 a0 6 0) fun h35 => mm_let (mm_pI h35 a0 9 ((h35.1 a0 9) + 1)) fun h37 => some (v4.1, h37)) else none
theorem T_St_endQuarter (V : mm_V) (l : Launch) (a0 : Nat) (a1 : Nat) (h : mm_H) (r : (Int32 × mm_H)) (hf : f_St_endQuarter a0 a1 h = some r) : MT V l Y_St_endQuarter 2 [.ref a0, .ref a1] (fun r1 h1 => r1 = some (.int r.1) ∧ h1 = r.2) h := by
  unfold f_St_endQuarter at hf
  obtain ⟨⟨t_a0, t_a1⟩, hf⟩ := mm_chkE hf
  refine MT.intro (pn_St rfl) [(0, .ref a0), (1, .ref a1)] rfl (Nat.le_of_ble_eq_true rfl) ?_
  generalize hZ : mm_Z V _ = Z0
  refine MM.iconst ic_0 d_St_endQuarter_0 rfl ?_
  refine MM.istore_n (i := 2) (lv' := [(2, .int 0), (0, .ref a0), (1, .ref a1)]) rfl rfl (Nat.le_of_ble_eq_true rfl) rfl d_St_endQuarter_1 rfl ?_
  refine MM.iconst ic_0 d_St_endQuarter_2 rfl ?_
  refine MM.istore_n (i := 3) (lv' := [(3, .int 0), (2, .int 0), (0, .ref a0), (1, .ref a1)]) rfl rfl (Nat.le_of_ble_eq_true rfl) rfl d_St_endQuarter_3 rfl ?_
  obtain ⟨v4, e6, hf⟩ := mm_bind hf
  have K5 : MM V l Y_St_endQuarter 2 0 0 Z0 54 [(0, .ref a0), (2, .int v4.1)] [] v4.2 := by
    refine MM.aload_n (i := 0) rfl rfl d_St_endQuarter_54 rfl ?_
    refine MM.iconst ic_0 d_St_endQuarter_55 rfl ?_
    obtain ⟨h33, e34, hf⟩ := mm_letE hf
    refine MM.putI e34 4 t_a0 lays_4 toks_4 pq_4_7 ww_215 d_St_endQuarter_56 rfl ?_
    refine MM.aload_n (i := 0) rfl rfl d_St_endQuarter_59 rfl ?_
    refine MM.iconst ic_0 d_St_endQuarter_60 rfl ?_
    obtain ⟨h35, e36, hf⟩ := mm_letE hf
    refine MM.putI e36 4 t_a0 lays_4 toks_4 pq_4_6 ww_213 d_St_endQuarter_61 rfl ?_
    refine MM.aload_n (i := 0) rfl rfl d_St_endQuarter_64 rfl ?_
    refine MM.dup rfl d_St_endQuarter_65 rfl ?_
    refine MM.getI 4 t_a0 lays_4 gq_4_9 ww_220 d_St_endQuarter_66 rfl ?_
    refine MM.iconst ic_1 d_St_endQuarter_69 rfl ?_
    refine MM.iadd d_St_endQuarter_70 rfl ?_
    obtain ⟨h37, e38, hf⟩ := mm_letE hf
    refine MM.putI e38 4 t_a0 lays_4 toks_4 pq_4_9 ww_220 d_St_endQuarter_71 rfl ?_
    refine MM.iload_n (i := 2) rfl rfl d_St_endQuarter_74 rfl ?_
    obtain rfl := Option.some.inj hf
    subst hZ
    exact MM.iret rfl d_St_endQuarter_75 ⟨rfl, rfl⟩
  clear hf
  refine MM.sub [2, 3, 1, 0] (by rfl) (mm_while_ind (fun s1 => MM V l Y_St_endQuarter 2 0 0 Z0 4 [(0, .ref a0), (1, .ref a1), (2, .int s1.1), (3, .int s1.2.1)] [] s1.2.2) e6 (fun s1 q2 hf hx3 => ?_))
  refine MM.iload_n (i := 3) rfl rfl d_St_endQuarter_4 rfl ?_
  refine MM.aload_n (i := 1) rfl rfl d_St_endQuarter_5 rfl ?_
  refine MM.getI 7 t_a1 lays_7 gq_7_0 ww_368 d_St_endQuarter_6 rfl ?_
  obtain ⟨m31, m32⟩ := mm_ifE hf
  refine MM.icmp_ge (tgt := 54) d_St_endQuarter_9 rfl rfl (fun c30 => ?_) (fun c30 => ?_)
  · replace hf := m31 c30
    obtain rfl := Option.some.inj hf
    obtain rfl := Option.some.inj (mm_wxR hx3)
    exact MM.sub [0, 2] (by rfl) K5
  · replace hf := m32 c30
    refine MM.aload_n (i := 1) rfl rfl d_St_endQuarter_12 rfl ?_
    refine MM.gR 7 4 t_a1 rq_7_4 rfl lays_7 ww_382 d_St_endQuarter_13 rfl ?_
    refine MM.iload_n (i := 3) rfl rfl d_St_endQuarter_16 rfl ?_
    obtain ⟨k7, e8, hf⟩ := mm_bind hf
    refine MM.gI e8 (al_7_4f t_a1) d_St_endQuarter_17 rfl ?_
    obtain ⟨j9, e29, hf⟩ := mm_bind hf
    have K10 : MM V l Y_St_endQuarter 2 0 0 Z0 48 [(0, .ref a0), (1, .ref a1), (2, .int j9.1), (3, .int s1.2.1)] [] j9.2 := by
      obtain ⟨y27, e28, hf⟩ := mm_letE hf
      refine MM.iinc (k0 := 3) (lv' := [(3, .int y27), (0, .ref a0), (1, .ref a1), (2, .int j9.1)]) (by rw [ic_1]; exact e28) rfl (Nat.le_of_ble_eq_true rfl) rfl d_St_endQuarter_48 rfl ?_
      refine MM.goto (tgt := 4) d_St_endQuarter_51 rfl ?_
      obtain rfl := Option.some.inj hf
      have h9 := mm_wxL hx3
      exact MM.sub [1, 2, 3, 0] (by rfl) h9
    clear hf
    have hf := e29
    clear e29
    obtain ⟨m25, m26⟩ := mm_ifE hf
    refine MM.if_le (tgt := 48) d_St_endQuarter_18 rfl rfl (fun c24 => ?_) (fun c24 => ?_)
    · replace hf := m25 c24
      obtain rfl := Option.some.inj hf
      exact MM.sub [0, 1, 2, 3] (by rfl) K10
    · replace hf := m26 c24
      refine MM.aload_n (i := 0) rfl rfl d_St_endQuarter_21 rfl ?_
      refine MM.getI 4 t_a0 lays_4 gq_4_7 ww_215 d_St_endQuarter_22 rfl ?_
      refine MM.iload_n (i := 3) rfl rfl d_St_endQuarter_25 rfl ?_
      obtain ⟨v12, e11, hf⟩ := mm_bind hf
      refine MM.callSN1 (T_X_bit V l (s1.2.2.1 a0 7) s1.2.1 s1.2.2 _ e11) (fun _ _ q => q) cal_X_bit rfl ww_763 ww_906n (by decide) (by simp [Value.category]) d_St_endQuarter_26 rfl ⟨rfl, rfl⟩ rfl ?_
      obtain ⟨m22, m23⟩ := mm_ifE hf
      refine MM.if_ne (tgt := 48) d_St_endQuarter_29 rfl rfl (fun c21 => ?_) (fun c21 => ?_)
      · replace hf := m23 c21
        obtain rfl := Option.some.inj hf
        exact MM.sub [0, 1, 2, 3] (by rfl) K10
      · replace hf := m22 c21
        refine MM.iload_n (i := 2) rfl rfl d_St_endQuarter_32 rfl ?_
        refine MM.iconst ic_1 d_St_endQuarter_33 rfl ?_
        refine MM.iload_n (i := 3) rfl rfl d_St_endQuarter_34 rfl ?_
        refine MM.ishl d_St_endQuarter_35 rfl ?_
        refine MM.ior d_St_endQuarter_36 rfl ?_
        obtain ⟨y13, e14, hf⟩ := mm_letE hf
        refine MM.istore_n (i := 2) (lv' := [(2, .int y13), (0, .ref a0), (1, .ref a1), (3, .int s1.2.1)]) e14 rfl (Nat.le_of_ble_eq_true rfl) rfl d_St_endQuarter_37 rfl ?_
        refine MM.aload_n (i := 0) rfl rfl d_St_endQuarter_38 rfl ?_
        refine MM.gR 4 4 t_a0 rq_4_3 rfl lays_4 ww_206 d_St_endQuarter_39 rfl ?_
        refine MM.iload_n (i := 3) rfl rfl d_St_endQuarter_42 rfl ?_
        refine MM.dup2 rfl rfl d_St_endQuarter_43 rfl ?_
        obtain ⟨k15, e16, hf⟩ := mm_bind hf
        refine MM.gI e16 (al_4_3f t_a0) d_St_endQuarter_44 rfl ?_
        refine MM.iconst ic_1 d_St_endQuarter_45 rfl ?_
        refine MM.iadd d_St_endQuarter_46 rfl ?_
        obtain ⟨k17, e18, hf⟩ := mm_bind hf
        obtain ⟨h19, e20, hf⟩ := mm_letE hf
        refine MM.sI e18 e20 (al_4_3f t_a0) d_St_endQuarter_47 rfl ?_
        obtain rfl := Option.some.inj hf
        exact MM.sub [1, 2, 0, 3] (by rfl) K10
theorem d_X_quarter_0 : decode cX11_quarter 0 = .ok (.aload_n 0, 1) := by decide +kernel
theorem d_X_quarter_1 : decode cX11_quarter 1 = .ok (.invokevirtual 220, 3) := by decide +kernel
theorem d_X_quarter_4 : decode cX11_quarter 4 = .ok (.aload_n 0, 1) := by decide +kernel
theorem d_X_quarter_5 : decode cX11_quarter 5 = .ok (.getfield 19, 3) := by decide +kernel
theorem d_X_quarter_8 : decode cX11_quarter 8 = .ok (.aload_n 0, 1) := by decide +kernel
theorem d_X_quarter_9 : decode cX11_quarter 9 = .ok (.getfield 81, 3) := by decide +kernel
theorem d_X_quarter_12 : decode cX11_quarter 12 = .ok (.invokevirtual 235, 3) := by decide +kernel
theorem d_X_quarter_15 : decode cX11_quarter 15 = .ok (.ireturn, 1) := by decide +kernel
noncomputable def f_X_quarter (h : mm_H) : Option (Int32 × mm_H) := (f_X_remember h).bind fun v2 => (mm_gT v2 14).bind fun t3 => (f_St_endQuarter 35 t3 v2).bind fun v6 => some (v6.1, v6.2)
theorem T_X_quarter (V : mm_V) (l : Launch) (h : mm_H) (r : (Int32 × mm_H)) (hf : f_X_quarter h = some r) : MT V l Y_X_quarter 3 [.ref 32] (fun r1 h1 => r1 = some (.int r.1) ∧ h1 = r.2) h := by
  unfold f_X_quarter at hf
  refine MT.intro (pn_X rfl) [(0, .ref 32)] rfl (Nat.le_of_ble_eq_true rfl) ?_
  generalize hZ : mm_Z V _ = Z0
  refine MM.aload_n (i := 0) rfl rfl d_X_quarter_0 rfl ?_
  obtain ⟨v2, e1, hf⟩ := mm_bind hf
  refine MM.callV0 (T_X_remember V l  h _ e1) (fun _ _ q => q) cal_X_remember rfl tg_32 ct_8 ww_9 ww_965 ww_963 (by decide) (by simp [Value.category]) d_X_quarter_1 rfl ⟨rfl, rfl⟩ rfl ?_
  refine MM.aload_n (i := 0) rfl rfl d_X_quarter_4 rfl ?_
  refine MM.gR 8 3 tg_32 rq_8_1 rfl lays_8 ww_473 d_X_quarter_5 rfl ?_
  refine MM.aload_n (i := 0) rfl rfl d_X_quarter_8 rfl ?_
  obtain ⟨t3, e4, hf⟩ := mm_bind hf
  obtain ⟨e4, t_t3⟩ := mm_gTE e4
  refine MM.gT e4 tg_32 tq_14 lays_8 ww_486 d_X_quarter_9 rfl ?_
  obtain ⟨v6, e5, hf⟩ := mm_bind hf
  refine MM.callV1 (T_St_endQuarter V l 35 t3 v2 _ e5) (fun _ _ q => q) cal_St_endQuarter rfl tg_35 ct_4 ww_1011 ww_1010 ww_1009 (by decide) (by simp [Value.category]) d_X_quarter_12 rfl ⟨rfl, rfl⟩ rfl ?_
  obtain rfl := Option.some.inj hf
  subst hZ
  exact MM.iret rfl d_X_quarter_15 ⟨rfl, rfl⟩
theorem d_St_mayLend_0 : decode cX5_mayLend 0 = .ok (.aload_n 1, 1) := by decide +kernel
theorem d_St_mayLend_1 : decode cX5_mayLend 1 = .ok (.iload_n 2, 1) := by decide +kernel
theorem d_St_mayLend_2 : decode cX5_mayLend 2 = .ok (.iload_n 3, 1) := by decide +kernel
theorem d_St_mayLend_3 : decode cX5_mayLend 3 = .ok (.invokevirtual 110, 3) := by decide +kernel
theorem d_St_mayLend_6 : decode cX5_mayLend 6 = .ok (.ifCond .eq 51, 3) := by decide +kernel
theorem d_St_mayLend_9 : decode cX5_mayLend 9 = .ok (.aload_n 1, 1) := by decide +kernel
theorem d_St_mayLend_10 : decode cX5_mayLend 10 = .ok (.iload 4, 2) := by decide +kernel
theorem d_St_mayLend_12 : decode cX5_mayLend 12 = .ok (.invokevirtual 114, 3) := by decide +kernel
theorem d_St_mayLend_15 : decode cX5_mayLend 15 = .ok (.ifCond .eq 42, 3) := by decide +kernel
theorem d_St_mayLend_18 : decode cX5_mayLend 18 = .ok (.aload_n 1, 1) := by decide +kernel
theorem d_St_mayLend_19 : decode cX5_mayLend 19 = .ok (.getfield 89, 3) := by decide +kernel
theorem d_St_mayLend_22 : decode cX5_mayLend 22 = .ok (.iload 4, 2) := by decide +kernel
theorem d_St_mayLend_24 : decode cX5_mayLend 24 = .ok (.iaload, 1) := by decide +kernel
theorem d_St_mayLend_25 : decode cX5_mayLend 25 = .ok (.iload_n 3, 1) := by decide +kernel
theorem d_St_mayLend_26 : decode cX5_mayLend 26 = .ok (.if_icmp .ne 31, 3) := by decide +kernel
theorem d_St_mayLend_29 : decode cX5_mayLend 29 = .ok (.aload_n 0, 1) := by decide +kernel
theorem d_St_mayLend_30 : decode cX5_mayLend 30 = .ok (.getfield 9, 3) := by decide +kernel
theorem d_St_mayLend_33 : decode cX5_mayLend 33 = .ok (.iload 4, 2) := by decide +kernel
theorem d_St_mayLend_35 : decode cX5_mayLend 35 = .ok (.iaload, 1) := by decide +kernel
theorem d_St_mayLend_36 : decode cX5_mayLend 36 = .ok (.iload_n 2, 1) := by decide +kernel
theorem d_St_mayLend_37 : decode cX5_mayLend 37 = .ok (.invokestatic 68, 3) := by decide +kernel
theorem d_St_mayLend_40 : decode cX5_mayLend 40 = .ok (.iconst 1, 1) := by decide +kernel
theorem d_St_mayLend_41 : decode cX5_mayLend 41 = .ok (.if_icmp .ne 16, 3) := by decide +kernel
theorem d_St_mayLend_44 : decode cX5_mayLend 44 = .ok (.aload_n 0, 1) := by decide +kernel
theorem d_St_mayLend_45 : decode cX5_mayLend 45 = .ok (.getfield 38, 3) := by decide +kernel
theorem d_St_mayLend_48 : decode cX5_mayLend 48 = .ok (.bipush 12, 2) := by decide +kernel
theorem d_St_mayLend_50 : decode cX5_mayLend 50 = .ok (.if_icmp .ge 7, 3) := by decide +kernel
theorem d_St_mayLend_53 : decode cX5_mayLend 53 = .ok (.iconst 1, 1) := by decide +kernel
theorem d_St_mayLend_54 : decode cX5_mayLend 54 = .ok (.goto 4, 3) := by decide +kernel
theorem d_St_mayLend_57 : decode cX5_mayLend 57 = .ok (.iconst 0, 1) := by decide +kernel
theorem d_St_mayLend_58 : decode cX5_mayLend 58 = .ok (.ireturn, 1) := by decide +kernel
noncomputable def f_St_mayLend (a0 : Nat) (a1 : Nat) (x2 : Int32) (x3 : Int32) (x4 : Int32) (h : mm_H) : Option Int32 := if mm_tg a0 = 4 ∧ mm_tg a1 = 7 then ((f_To_hasPair a1 x2 x3 h).bind fun v2 => if v2 = 0 then (some 0) else ((f_To_hasSecret a1 x4 h).bind fun v4 => if v4 = 0 then (some 0) else ((mm_ix x4 10).bind fun k5 => if (h.1 (a1 + 6) k5) = x3 then ((mm_ix x4 10).bind fun k7 => (f_X_bit (h.1 (a0 + 1) k7) x2).bind fun v10 => if v10 = 1 then (if 12 ≤ (h.1 a0 8) then (some 0) else (some 1)) else (some 0)) else (some 0)))) else none
theorem T_St_mayLend (V : mm_V) (l : Launch) (a0 : Nat) (a1 : Nat) (x2 : Int32) (x3 : Int32) (x4 : Int32) (h : mm_H) (r : Int32) (hf : f_St_mayLend a0 a1 x2 x3 x4 h = some r) : MT V l Y_St_mayLend 3 [.ref a0, .ref a1, .int x2, .int x3, .int x4] (fun r1 h1 => r1 = some (.int r) ∧ h1 = h) h := by
  unfold f_St_mayLend at hf
  obtain ⟨⟨t_a0, t_a1⟩, hf⟩ := mm_chkE hf
  refine MT.intro (pn_St rfl) [(0, .ref a0), (1, .ref a1), (2, .int x2), (3, .int x3), (4, .int x4)] rfl (Nat.le_of_ble_eq_true rfl) ?_
  generalize hZ : mm_Z V _ = Z0
  refine MM.aload_n (i := 1) rfl rfl d_St_mayLend_0 rfl ?_
  refine MM.iload_n (i := 2) rfl rfl d_St_mayLend_1 rfl ?_
  refine MM.iload_n (i := 3) rfl rfl d_St_mayLend_2 rfl ?_
  obtain ⟨v2, e1, hf⟩ := mm_bind hf
  refine MM.callV1 (T_To_hasPair V l a1 x2 x3 h _ e1) (fun _ _ q => q) cal_To_hasPair rfl t_a1 ct_7 ww_930 ww_929 ww_957 (by decide) (by simp [Value.category]) d_St_mayLend_3 rfl ⟨rfl, rfl⟩ rfl ?_
  obtain ⟨m24, m25⟩ := mm_ifE hf
  refine MM.if_eq (tgt := 57) d_St_mayLend_6 rfl rfl (fun c23 => ?_) (fun c23 => ?_)
  · replace hf := m24 c23
    refine MM.iconst ic_0 d_St_mayLend_57 rfl ?_
    obtain rfl := Option.some.inj hf
    subst hZ
    exact MM.zret (Or.inl rfl) rfl d_St_mayLend_58 ⟨rfl, rfl⟩
  · replace hf := m25 c23
    refine MM.aload_n (i := 1) rfl rfl d_St_mayLend_9 rfl ?_
    refine MM.iload rfl d_St_mayLend_10 rfl ?_
    obtain ⟨v4, e3, hf⟩ := mm_bind hf
    refine MM.callV1 (T_To_hasSecret V l a1 x4 h _ e3) (fun _ _ q => q) cal_To_hasSecret rfl t_a1 ct_7 ww_885 ww_884 ww_958 (by decide) (by simp [Value.category]) d_St_mayLend_12 rfl ⟨rfl, rfl⟩ rfl ?_
    obtain ⟨m21, m22⟩ := mm_ifE hf
    refine MM.if_eq (tgt := 57) d_St_mayLend_15 rfl rfl (fun c20 => ?_) (fun c20 => ?_)
    · replace hf := m21 c20
      refine MM.iconst ic_0 d_St_mayLend_57 rfl ?_
      obtain rfl := Option.some.inj hf
      subst hZ
      exact MM.zret (Or.inl rfl) rfl d_St_mayLend_58 ⟨rfl, rfl⟩
    · replace hf := m22 c20
      refine MM.aload_n (i := 1) rfl rfl d_St_mayLend_18 rfl ?_
      refine MM.gR 7 6 t_a1 rq_7_9 rfl lays_7 ww_397 d_St_mayLend_19 rfl ?_
      refine MM.iload rfl d_St_mayLend_22 rfl ?_
      obtain ⟨k5, e6, hf⟩ := mm_bind hf
      refine MM.gI e6 (al_7_9f t_a1) d_St_mayLend_24 rfl ?_
      refine MM.iload_n (i := 3) rfl rfl d_St_mayLend_25 rfl ?_
      obtain ⟨m18, m19⟩ := mm_ifE hf
      refine MM.icmp_ne (tgt := 57) d_St_mayLend_26 rfl rfl (fun c17 => ?_) (fun c17 => ?_)
      · replace hf := m19 c17
        refine MM.iconst ic_0 d_St_mayLend_57 rfl ?_
        obtain rfl := Option.some.inj hf
        subst hZ
        exact MM.zret (Or.inl rfl) rfl d_St_mayLend_58 ⟨rfl, rfl⟩
      · replace hf := m18 c17
        refine MM.aload_n (i := 0) rfl rfl d_St_mayLend_29 rfl ?_
        refine MM.gR 4 1 t_a0 rq_4_0 rfl lays_4 ww_201 d_St_mayLend_30 rfl ?_
        refine MM.iload rfl d_St_mayLend_33 rfl ?_
        obtain ⟨k7, e8, hf⟩ := mm_bind hf
        refine MM.gI e8 (al_4_0f t_a0) d_St_mayLend_35 rfl ?_
        refine MM.iload_n (i := 2) rfl rfl d_St_mayLend_36 rfl ?_
        obtain ⟨v10, e9, hf⟩ := mm_bind hf
        refine MM.callSN1 (T_X_bit V l (h.1 (a0 + 1) k7) x2 h _ e9) (fun _ _ q => q) cal_X_bit rfl ww_763 ww_906n (by decide) (by simp [Value.category]) d_St_mayLend_37 rfl ⟨rfl, rfl⟩ rfl ?_
        refine MM.iconst ic_1 d_St_mayLend_40 rfl ?_
        obtain ⟨m15, m16⟩ := mm_ifE hf
        refine MM.icmp_ne (tgt := 57) d_St_mayLend_41 rfl rfl (fun c14 => ?_) (fun c14 => ?_)
        · replace hf := m16 c14
          refine MM.iconst ic_0 d_St_mayLend_57 rfl ?_
          obtain rfl := Option.some.inj hf
          subst hZ
          exact MM.zret (Or.inl rfl) rfl d_St_mayLend_58 ⟨rfl, rfl⟩
        · replace hf := m15 c14
          refine MM.aload_n (i := 0) rfl rfl d_St_mayLend_44 rfl ?_
          refine MM.getI 4 t_a0 lays_4 gq_4_8 ww_218 d_St_mayLend_45 rfl ?_
          refine MM.bipush bp_12 d_St_mayLend_48 rfl ?_
          obtain ⟨m12, m13⟩ := mm_ifE hf
          refine MM.icmp_ge (tgt := 57) d_St_mayLend_50 rfl rfl (fun c11 => ?_) (fun c11 => ?_)
          · replace hf := m12 c11
            refine MM.iconst ic_0 d_St_mayLend_57 rfl ?_
            obtain rfl := Option.some.inj hf
            subst hZ
            exact MM.zret (Or.inl rfl) rfl d_St_mayLend_58 ⟨rfl, rfl⟩
          · replace hf := m13 c11
            refine MM.iconst ic_1 d_St_mayLend_53 rfl ?_
            refine MM.goto (tgt := 58) d_St_mayLend_54 rfl ?_
            obtain rfl := Option.some.inj hf
            subst hZ
            exact MM.zret (Or.inr rfl) rfl d_St_mayLend_58 ⟨rfl, rfl⟩
