/-! methods: M_years, M_mark, M_count -/
theorem d_M_years_0 : decode cX12_years 0 = .ok (.aload_n 0, 1) := by decide +kernel
theorem d_M_years_1 : decode cX12_years 1 = .ok (.iconst 0, 1) := by decide +kernel
theorem d_M_years_2 : decode cX12_years 2 = .ok (.putfield 175, 3) := by decide +kernel
theorem d_M_years_5 : decode cX12_years 5 = .ok (.iload_n 1, 1) := by decide +kernel
theorem d_M_years_6 : decode cX12_years 6 = .ok (.iconst 0, 1) := by decide +kernel
theorem d_M_years_7 : decode cX12_years 7 = .ok (.sipush 9999, 3) := by decide +kernel
theorem d_M_years_10 : decode cX12_years 10 = .ok (.invokestatic 308, 3) := by decide +kernel
theorem d_M_years_13 : decode cX12_years 13 = .ok (.ifCond .eq 22, 3) := by decide +kernel
theorem d_M_years_16 : decode cX12_years 16 = .ok (.iload_n 2, 1) := by decide +kernel
theorem d_M_years_17 : decode cX12_years 17 = .ok (.iconst 1, 1) := by decide +kernel
theorem d_M_years_18 : decode cX12_years 18 = .ok (.bipush 100, 2) := by decide +kernel
theorem d_M_years_20 : decode cX12_years 20 = .ok (.invokestatic 308, 3) := by decide +kernel
theorem d_M_years_23 : decode cX12_years 23 = .ok (.ifCond .eq 12, 3) := by decide +kernel
theorem d_M_years_26 : decode cX12_years 26 = .ok (.iload_n 3, 1) := by decide +kernel
theorem d_M_years_27 : decode cX12_years 27 = .ok (.iconst 0, 1) := by decide +kernel
theorem d_M_years_28 : decode cX12_years 28 = .ok (.iconst 2, 1) := by decide +kernel
theorem d_M_years_29 : decode cX12_years 29 = .ok (.invokestatic 308, 3) := by decide +kernel
theorem d_M_years_32 : decode cX12_years 32 = .ok (.ifCond .ne 5, 3) := by decide +kernel
theorem d_M_years_35 : decode cX12_years 35 = .ok (.iconst (-1), 1) := by decide +kernel
theorem d_M_years_36 : decode cX12_years 36 = .ok (.ireturn, 1) := by decide +kernel
theorem d_M_years_37 : decode cX12_years 37 = .ok (.aload_n 0, 1) := by decide +kernel
theorem d_M_years_38 : decode cX12_years 38 = .ok (.iload_n 1, 1) := by decide +kernel
theorem d_M_years_39 : decode cX12_years 39 = .ok (.i2l, 1) := by decide +kernel
theorem d_M_years_40 : decode cX12_years 40 = .ok (.putfield 543, 3) := by decide +kernel
theorem d_M_years_43 : decode cX12_years 43 = .ok (.aload_n 0, 1) := by decide +kernel
theorem d_M_years_44 : decode cX12_years 44 = .ok (.getfield 129, 3) := by decide +kernel
theorem d_M_years_47 : decode cX12_years 47 = .ok (.iconst 0, 1) := by decide +kernel
theorem d_M_years_48 : decode cX12_years 48 = .ok (.aload_n 0, 1) := by decide +kernel
theorem d_M_years_49 : decode cX12_years 49 = .ok (.getfield 132, 3) := by decide +kernel
theorem d_M_years_52 : decode cX12_years 52 = .ok (.bipush 123, 2) := by decide +kernel
theorem d_M_years_54 : decode cX12_years 54 = .ok (.invokestatic 457, 3) := by decide +kernel
theorem d_M_years_57 : decode cX12_years 57 = .ok (.aload_n 0, 1) := by decide +kernel
theorem d_M_years_58 : decode cX12_years 58 = .ok (.invokevirtual 486, 3) := by decide +kernel
theorem d_M_years_61 : decode cX12_years 61 = .ok (.istore 4, 2) := by decide +kernel
theorem d_M_years_63 : decode cX12_years 63 = .ok (.iconst 0, 1) := by decide +kernel
theorem d_M_years_64 : decode cX12_years 64 = .ok (.istore 5, 2) := by decide +kernel
theorem d_M_years_66 : decode cX12_years 66 = .ok (.iconst 1, 1) := by decide +kernel
theorem d_M_years_67 : decode cX12_years 67 = .ok (.istore 6, 2) := by decide +kernel
theorem d_M_years_69 : decode cX12_years 69 = .ok (.iload 6, 2) := by decide +kernel
theorem d_M_years_71 : decode cX12_years 71 = .ok (.iload_n 2, 1) := by decide +kernel
theorem d_M_years_72 : decode cX12_years 72 = .ok (.if_icmp .gt 89, 3) := by decide +kernel
theorem d_M_years_75 : decode cX12_years 75 = .ok (.iload 5, 2) := by decide +kernel
theorem d_M_years_77 : decode cX12_years 77 = .ok (.aload_n 0, 1) := by decide +kernel
theorem d_M_years_78 : decode cX12_years 78 = .ok (.invokevirtual 557, 3) := by decide +kernel
theorem d_M_years_81 : decode cX12_years 81 = .ok (.iadd, 1) := by decide +kernel
theorem d_M_years_82 : decode cX12_years 82 = .ok (.istore 5, 2) := by decide +kernel
theorem d_M_years_84 : decode cX12_years 84 = .ok (.iload 6, 2) := by decide +kernel
theorem d_M_years_86 : decode cX12_years 86 = .ok (.bipush 10, 2) := by decide +kernel
theorem d_M_years_88 : decode cX12_years 88 = .ok (.irem, 1) := by decide +kernel
theorem d_M_years_89 : decode cX12_years 89 = .ok (.ifCond .le 6, 3) := by decide +kernel
theorem d_M_years_92 : decode cX12_years 92 = .ok (.goto 63, 3) := by decide +kernel
theorem d_M_years_95 : decode cX12_years 95 = .ok (.iconst 0, 1) := by decide +kernel
theorem d_M_years_96 : decode cX12_years 96 = .ok (.istore 7, 2) := by decide +kernel
theorem d_M_years_98 : decode cX12_years 98 = .ok (.iload 7, 2) := by decide +kernel
theorem d_M_years_100 : decode cX12_years 100 = .ok (.aload_n 0, 1) := by decide +kernel
theorem d_M_years_101 : decode cX12_years 101 = .ok (.getfield 13, 3) := by decide +kernel
theorem d_M_years_104 : decode cX12_years 104 = .ok (.iconst 0, 1) := by decide +kernel
theorem d_M_years_105 : decode cX12_years 105 = .ok (.iaload, 1) := by decide +kernel
theorem d_M_years_106 : decode cX12_years 106 = .ok (.if_icmp .ge 44, 3) := by decide +kernel
theorem d_M_years_109 : decode cX12_years 109 = .ok (.aload_n 0, 1) := by decide +kernel
theorem d_M_years_110 : decode cX12_years 110 = .ok (.getfield 29, 3) := by decide +kernel
theorem d_M_years_113 : decode cX12_years 113 = .ok (.iload 7, 2) := by decide +kernel
theorem d_M_years_115 : decode cX12_years 115 = .ok (.iaload, 1) := by decide +kernel
theorem d_M_years_116 : decode cX12_years 116 = .ok (.ifCond .le 12, 3) := by decide +kernel
theorem d_M_years_119 : decode cX12_years 119 = .ok (.aload_n 0, 1) := by decide +kernel
theorem d_M_years_120 : decode cX12_years 120 = .ok (.iload 7, 2) := by decide +kernel
theorem d_M_years_122 : decode cX12_years 122 = .ok (.invokevirtual 495, 3) := by decide +kernel
theorem d_M_years_125 : decode cX12_years 125 = .ok (.goto 4, 3) := by decide +kernel
theorem d_M_years_128 : decode cX12_years 128 = .ok (.iconst (-1), 1) := by decide +kernel
theorem d_M_years_129 : decode cX12_years 129 = .ok (.istore 8, 2) := by decide +kernel
theorem d_M_years_131 : decode cX12_years 131 = .ok (.iload 8, 2) := by decide +kernel
theorem d_M_years_133 : decode cX12_years 133 = .ok (.ifCond .le 11, 3) := by decide +kernel
theorem d_M_years_136 : decode cX12_years 136 = .ok (.aload_n 0, 1) := by decide +kernel
theorem d_M_years_137 : decode cX12_years 137 = .ok (.iload 7, 2) := by decide +kernel
theorem d_M_years_139 : decode cX12_years 139 = .ok (.iload 8, 2) := by decide +kernel
theorem d_M_years_141 : decode cX12_years 141 = .ok (.invokevirtual 477, 3) := by decide +kernel
theorem d_M_years_144 : decode cX12_years 144 = .ok (.iinc 7 1, 3) := by decide +kernel
theorem d_M_years_147 : decode cX12_years 147 = .ok (.goto (-49), 3) := by decide +kernel
theorem d_M_years_150 : decode cX12_years 150 = .ok (.aload_n 0, 1) := by decide +kernel
theorem d_M_years_151 : decode cX12_years 151 = .ok (.invokevirtual 480, 3) := by decide +kernel
theorem d_M_years_154 : decode cX12_years 154 = .ok (.pop, 1) := by decide +kernel
theorem d_M_years_155 : decode cX12_years 155 = .ok (.iinc 6 1, 3) := by decide +kernel
theorem d_M_years_158 : decode cX12_years 158 = .ok (.goto (-89), 3) := by decide +kernel
theorem d_M_years_161 : decode cX12_years 161 = .ok (.iload_n 3, 1) := by decide +kernel
theorem d_M_years_162 : decode cX12_years 162 = .ok (.ifCond .ne 8, 3) := by decide +kernel
theorem d_M_years_165 : decode cX12_years 165 = .ok (.iload 5, 2) := by decide +kernel
theorem d_M_years_167 : decode cX12_years 167 = .ok (.goto 26, 3) := by decide +kernel
theorem d_M_years_170 : decode cX12_years 170 = .ok (.iload_n 3, 1) := by decide +kernel
theorem d_M_years_171 : decode cX12_years 171 = .ok (.iconst 1, 1) := by decide +kernel
theorem d_M_years_172 : decode cX12_years 172 = .ok (.if_icmp .ne 13, 3) := by decide +kernel
theorem d_M_years_175 : decode cX12_years 175 = .ok (.aload_n 0, 1) := by decide +kernel
theorem d_M_years_176 : decode cX12_years 176 = .ok (.invokevirtual 486, 3) := by decide +kernel
theorem d_M_years_179 : decode cX12_years 179 = .ok (.iload 4, 2) := by decide +kernel
theorem d_M_years_181 : decode cX12_years 181 = .ok (.isub, 1) := by decide +kernel
theorem d_M_years_182 : decode cX12_years 182 = .ok (.goto 11, 3) := by decide +kernel
theorem d_M_years_185 : decode cX12_years 185 = .ok (.aload_n 0, 1) := by decide +kernel
theorem d_M_years_186 : decode cX12_years 186 = .ok (.aload_n 0, 1) := by decide +kernel
theorem d_M_years_187 : decode cX12_years 187 = .ok (.invokevirtual 489, 3) := by decide +kernel
theorem d_M_years_190 : decode cX12_years 190 = .ok (.invokevirtual 433, 3) := by decide +kernel
theorem d_M_years_193 : decode cX12_years 193 = .ok (.istore 6, 2) := by decide +kernel
theorem d_M_years_195 : decode cX12_years 195 = .ok (.aload_n 0, 1) := by decide +kernel
theorem d_M_years_196 : decode cX12_years 196 = .ok (.getfield 132, 3) := by decide +kernel
theorem d_M_years_199 : decode cX12_years 199 = .ok (.bipush 123, 2) := by decide +kernel
theorem d_M_years_201 : decode cX12_years 201 = .ok (.aload_n 0, 1) := by decide +kernel
theorem d_M_years_202 : decode cX12_years 202 = .ok (.getfield 129, 3) := by decide +kernel
theorem d_M_years_205 : decode cX12_years 205 = .ok (.iconst 0, 1) := by decide +kernel
theorem d_M_years_206 : decode cX12_years 206 = .ok (.invokestatic 457, 3) := by decide +kernel
theorem d_M_years_209 : decode cX12_years 209 = .ok (.iload 6, 2) := by decide +kernel
theorem d_M_years_211 : decode cX12_years 211 = .ok (.ireturn, 1) := by decide +kernel
noncomputable def f_M_years (x1 : Int32) (x2 : Int32) (x3 : Int32) (h : mm_H) : Option (Int32 × mm_H) := mm_let (mm_pI h 261 0 0) fun h1 => (f_M_within x1 0 9999).bind fun v4 => if v4 = 0 then (some ((-1), h1)) else ((f_M_within x2 1 100).bind fun v6 => if v6 = 0 then (some ((-1), h1)) else ((f_M_within x3 0 2).bind fun v8 => if v8 = 0 then (some ((-1), h1)) else (mm_let (mm_pL h1 261 69 (Int32.toInt64 x1)) fun h9 => (f_M_copies 301 0 302 123 h9).bind fun v12 => (f_M_finesOfAll v12).bind fun v14 => (mm_while (σ := (Int32 × Int32 × mm_H)) (ρ := (Int32 × mm_H)) (fun s15 => if x2 < s15.2.1 then (some (Sum.inr (s15.1, s15.2.2))) else ((f_M_whispers s15.2.2).bind fun v22 => mm_let (s15.1 + v22.1) fun y23 => (if (s15.2.1 - s15.2.1 / 10 * 10) ≤ 0 then ((mm_while (σ := (Int32 × mm_H)) (ρ := mm_H) (fun s27 => if (s27.2.1 263 0) ≤ s27.1 then (some (Sum.inr s27.2)) else ((mm_ix s27.1 12).bind fun k33 => (if (s27.2.1 268 k33) ≤ 0 then (some ((-1), s27.2)) else ((f_M_leastOf s27.1 s27.2).bind fun v38 => some (v38.1, v38.2)) : Option (Int32 × mm_H)).bind fun j35 => (if j35.1 ≤ 0 then (some j35.2) else ((f_M_pays s27.1 j35.1 j35.2).bind fun v45 => some v45) : Option mm_H).bind fun j42 => mm_let (s27.1 + 1) fun y49 => some (Sum.inl (y49, j42)))) (0, v22.2)).bind fun v30 => (f_M_passes v30).bind fun v57 => some v57.2) else (some v22.2) : Option mm_H).bind fun j25 => mm_let (s15.2.1 + 1) fun y61 => some (Sum.inl (y23, y61, j25)))) (0, 1, v12)).bind fun v18 => (if x3 = 0 then (some (v18.1, v18.2)) else (if x3 = 1 then ((f_M_finesOfAll v18.2).bind fun v74 => some ((v74 - v14), v18.2)) else ((f_M_allSecrets v18.2).bind fun v70 => (f_M_worthsOf v70 v18.2).bind fun v72 => some (v72.1, v72.2))) : Option (Int32 × mm_H)).bind fun j67 => (f_M_copies 302 123 301 0 j67.2).bind fun v82 => some (j67.1, v82))))
theorem T_M_years (V : mm_V) (l : Launch) (x1 : Int32) (x2 : Int32) (x3 : Int32) (h : mm_H) (r : (Int32 × mm_H)) (hf : f_M_years x1 x2 x3 h = some r) : MT V l Y_M_years 21 [.ref 261, .int x1, .int x2, .int x3] (fun r1 h1 => r1 = some (.int r.1) ∧ h1 = r.2) h := by
  unfold f_M_years at hf
  refine MT.intro (pn_M rfl) [(0, .ref 261), (1, .int x1), (2, .int x2), (3, .int x3)] rfl (Nat.le_of_ble_eq_true rfl) ?_
  generalize hZ : mm_Z V _ = Z0
  refine MM.aload_n (i := 0) rfl rfl d_M_years_0 rfl ?_
  refine MM.iconst ic_0 d_M_years_1 rfl ?_
  obtain ⟨h1, e2, hf⟩ := mm_letE hf
  refine MM.putI e2 9 tg_261 lays_9 toks_9 pq_9_0 ww_1358 d_M_years_2 rfl ?_
  refine MM.iload_n (i := 1) rfl rfl d_M_years_5 rfl ?_
  refine MM.iconst ic_0 d_M_years_6 rfl ?_
  refine MM.sipush sp_9999 d_M_years_7 rfl ?_
  obtain ⟨v4, e3, hf⟩ := mm_bind hf
  refine MM.callS1 (T_M_within V l x1 0 9999 h1 _ e3) (fun _ _ q => q) cal_M_within rfl ww_1669 ww_1668 (by decide) (by simp [Value.category]) d_M_years_10 rfl ⟨rfl, rfl⟩ rfl ?_
  obtain ⟨m91, m92⟩ := mm_ifE hf
  refine MM.if_eq (tgt := 35) d_M_years_13 rfl rfl (fun c90 => ?_) (fun c90 => ?_)
  · replace hf := m91 c90
    refine MM.iconst ic_m1 d_M_years_35 rfl ?_
    obtain rfl := Option.some.inj hf
    subst hZ
    exact MM.iret rfl d_M_years_36 ⟨rfl, rfl⟩
  · replace hf := m92 c90
    refine MM.iload_n (i := 2) rfl rfl d_M_years_16 rfl ?_
    refine MM.iconst ic_1 d_M_years_17 rfl ?_
    refine MM.bipush bp_100 d_M_years_18 rfl ?_
    obtain ⟨v6, e5, hf⟩ := mm_bind hf
    refine MM.callS1 (T_M_within V l x2 1 100 h1 _ e5) (fun _ _ q => q) cal_M_within rfl ww_1669 ww_1668 (by decide) (by simp [Value.category]) d_M_years_20 rfl ⟨rfl, rfl⟩ rfl ?_
    obtain ⟨m88, m89⟩ := mm_ifE hf
    refine MM.if_eq (tgt := 35) d_M_years_23 rfl rfl (fun c87 => ?_) (fun c87 => ?_)
    · replace hf := m88 c87
      refine MM.iconst ic_m1 d_M_years_35 rfl ?_
      obtain rfl := Option.some.inj hf
      subst hZ
      exact MM.iret rfl d_M_years_36 ⟨rfl, rfl⟩
    · replace hf := m89 c87
      refine MM.iload_n (i := 3) rfl rfl d_M_years_26 rfl ?_
      refine MM.iconst ic_0 d_M_years_27 rfl ?_
      refine MM.iconst ic_2 d_M_years_28 rfl ?_
      obtain ⟨v8, e7, hf⟩ := mm_bind hf
      refine MM.callS1 (T_M_within V l x3 0 2 h1 _ e7) (fun _ _ q => q) cal_M_within rfl ww_1669 ww_1668 (by decide) (by simp [Value.category]) d_M_years_29 rfl ⟨rfl, rfl⟩ rfl ?_
      obtain ⟨m85, m86⟩ := mm_ifE hf
      refine MM.if_ne (tgt := 37) d_M_years_32 rfl rfl (fun c84 => ?_) (fun c84 => ?_)
      · replace hf := m86 c84
        refine MM.aload_n (i := 0) rfl rfl d_M_years_37 rfl ?_
        refine MM.iload_n (i := 1) rfl rfl d_M_years_38 rfl ?_
        refine MM.i2l d_M_years_39 rfl ?_
        obtain ⟨h9, e10, hf⟩ := mm_letE hf
        refine MM.putL e10 9 tg_261 lays_9 toks_9 pq_9_69 ww_1427 d_M_years_40 rfl ?_
        refine MM.aload_n (i := 0) rfl rfl d_M_years_43 rfl ?_
        refine MM.gR 9 40 tg_261 rq_9_50 rfl lays_9 ww_1408 d_M_years_44 rfl ?_
        refine MM.iconst ic_0 d_M_years_47 rfl ?_
        refine MM.aload_n (i := 0) rfl rfl d_M_years_48 rfl ?_
        refine MM.gR 9 41 tg_261 rq_9_51 rfl lays_9 ww_1409 d_M_years_49 rfl ?_
        refine MM.bipush bp_123 d_M_years_52 rfl ?_
        obtain ⟨v12, e11, hf⟩ := mm_bind hf
        refine MM.callS0 (T_M_copies V l 301 0 302 123 h9 _ e11) (fun _ _ q => q) cal_M_copies rfl ww_1859 ww_1858 (by decide) (by simp [Value.category]) d_M_years_54 rfl ⟨rfl, rfl⟩ rfl ?_
        refine MM.aload_n (i := 0) rfl rfl d_M_years_57 rfl ?_
        obtain ⟨v14, e13, hf⟩ := mm_bind hf
        refine MM.callV1 (T_M_finesOfAll V l  v12 _ e13) (fun _ _ q => q) cal_M_finesOfAll rfl tg_261 ct_9 ww_93 ww_1907 ww_1905 (by decide) (by simp [Value.category]) d_M_years_58 rfl ⟨rfl, rfl⟩ rfl ?_
        refine MM.istore (lv' := [(4, .int v14), (0, .ref 261), (1, .int x1), (2, .int x2), (3, .int x3)]) rfl (Nat.le_of_ble_eq_true rfl) rfl d_M_years_61 rfl ?_
        refine MM.iconst ic_0 d_M_years_63 rfl ?_
        refine MM.istore (lv' := [(5, .int 0), (4, .int v14), (0, .ref 261), (1, .int x1), (2, .int x2), (3, .int x3)]) rfl (Nat.le_of_ble_eq_true rfl) rfl d_M_years_64 rfl ?_
        refine MM.iconst ic_1 d_M_years_66 rfl ?_
        refine MM.istore (lv' := [(6, .int 1), (5, .int 0), (4, .int v14), (0, .ref 261), (1, .int x1), (2, .int x2), (3, .int x3)]) rfl (Nat.le_of_ble_eq_true rfl) rfl d_M_years_67 rfl ?_
        obtain ⟨v18, e20, hf⟩ := mm_bind hf
        have K19 : MM V l Y_M_years 21 0 0 Z0 161 [(0, .ref 261), (3, .int x3), (4, .int v14), (5, .int v18.1)] [] v18.2 := by
          refine MM.iload_n (i := 3) rfl rfl d_M_years_161 rfl ?_
          obtain ⟨j67, e83, hf⟩ := mm_bind hf
          have K68 : MM V l Y_M_years 21 0 0 Z0 193 [(0, .ref 261)] [.int j67.1] j67.2 := by
            refine MM.istore (lv' := [(6, .int j67.1), (0, .ref 261)]) rfl (Nat.le_of_ble_eq_true rfl) rfl d_M_years_193 rfl ?_
            refine MM.aload_n (i := 0) rfl rfl d_M_years_195 rfl ?_
            refine MM.gR 9 41 tg_261 rq_9_51 rfl lays_9 ww_1409 d_M_years_196 rfl ?_
            refine MM.bipush bp_123 d_M_years_199 rfl ?_
            refine MM.aload_n (i := 0) rfl rfl d_M_years_201 rfl ?_
            refine MM.gR 9 40 tg_261 rq_9_50 rfl lays_9 ww_1408 d_M_years_202 rfl ?_
            refine MM.iconst ic_0 d_M_years_205 rfl ?_
            obtain ⟨v82, e81, hf⟩ := mm_bind hf
            refine MM.callS0 (T_M_copies V l 302 123 301 0 j67.2 _ e81) (fun _ _ q => q) cal_M_copies rfl ww_1859 ww_1858 (by decide) (by simp [Value.category]) d_M_years_206 rfl ⟨rfl, rfl⟩ rfl ?_
            refine MM.iload rfl d_M_years_209 rfl ?_
            obtain rfl := Option.some.inj hf
            subst hZ
            exact MM.iret rfl d_M_years_211 ⟨rfl, rfl⟩
          clear hf
          have hf := e83
          clear e83
          obtain ⟨m79, m80⟩ := mm_ifE hf
          refine MM.if_ne (tgt := 170) d_M_years_162 rfl rfl (fun c78 => ?_) (fun c78 => ?_)
          · replace hf := m80 c78
            refine MM.iload_n (i := 3) rfl rfl d_M_years_170 rfl ?_
            refine MM.iconst ic_1 d_M_years_171 rfl ?_
            obtain ⟨m76, m77⟩ := mm_ifE hf
            refine MM.icmp_ne (tgt := 185) d_M_years_172 rfl rfl (fun c75 => ?_) (fun c75 => ?_)
            · replace hf := m77 c75
              refine MM.aload_n (i := 0) rfl rfl d_M_years_185 rfl ?_
              refine MM.aload_n (i := 0) rfl rfl d_M_years_186 rfl ?_
              obtain ⟨v70, e69, hf⟩ := mm_bind hf
              refine MM.callV1 (T_M_allSecrets V l  v18.2 _ e69) (fun _ _ q => q) cal_M_allSecrets rfl tg_261 ct_9 ww_94 ww_1911 ww_1909 (by decide) (by simp [Value.category]) d_M_years_187 rfl ⟨rfl, rfl⟩ rfl ?_
              obtain ⟨v72, e71, hf⟩ := mm_bind hf
              refine MM.callV1 (T_M_worthsOf V l v70 v18.2 _ e71) (fun _ _ q => q) cal_M_worthsOf rfl tg_261 ct_9 ww_73 ww_1779 ww_1777 (by decide) (by simp [Value.category]) d_M_years_190 rfl ⟨rfl, rfl⟩ rfl ?_
              obtain rfl := Option.some.inj hf
              exact MM.sub [0] (by rfl) K68
            · replace hf := m76 c75
              refine MM.aload_n (i := 0) rfl rfl d_M_years_175 rfl ?_
              obtain ⟨v74, e73, hf⟩ := mm_bind hf
              refine MM.callV1 (T_M_finesOfAll V l  v18.2 _ e73) (fun _ _ q => q) cal_M_finesOfAll rfl tg_261 ct_9 ww_93 ww_1907 ww_1905 (by decide) (by simp [Value.category]) d_M_years_176 rfl ⟨rfl, rfl⟩ rfl ?_
              refine MM.iload rfl d_M_years_179 rfl ?_
              refine MM.isub d_M_years_181 rfl ?_
              refine MM.goto (tgt := 193) d_M_years_182 rfl ?_
              obtain rfl := Option.some.inj hf
              exact MM.sub [0] (by rfl) K68
          · replace hf := m79 c78
            refine MM.iload rfl d_M_years_165 rfl ?_
            refine MM.goto (tgt := 193) d_M_years_167 rfl ?_
            obtain rfl := Option.some.inj hf
            exact MM.sub [0] (by rfl) K68
        clear hf
        refine MM.sub [3, 5, 6, 2, 1, 0] (by rfl) (mm_while_ind (fun s15 => MM V l Y_M_years 21 0 0 Z0 69 [(0, .ref 261), (2, .int x2), (3, .int x3), (4, .int v14), (5, .int s15.1), (6, .int s15.2.1)] [] s15.2.2) e20 (fun s15 q16 hf hx17 => ?_))
        refine MM.iload rfl d_M_years_69 rfl ?_
        refine MM.iload_n (i := 2) rfl rfl d_M_years_71 rfl ?_
        obtain ⟨m65, m66⟩ := mm_ifE hf
        refine MM.icmp_gt (tgt := 161) d_M_years_72 rfl rfl (fun c64 => ?_) (fun c64 => ?_)
        · replace hf := m65 c64
          obtain rfl := Option.some.inj hf
          obtain rfl := Option.some.inj (mm_wxR hx17)
          exact MM.sub [0, 2, 3, 4] (by rfl) K19
        · replace hf := m66 c64
          refine MM.iload rfl d_M_years_75 rfl ?_
          refine MM.aload_n (i := 0) rfl rfl d_M_years_77 rfl ?_
          obtain ⟨v22, e21, hf⟩ := mm_bind hf
          refine MM.callV1 (T_M_whispers V l  s15.2.2 _ e21) (fun _ _ q => q) cal_M_whispers rfl tg_261 ct_9 ww_106 ww_2009 ww_2007 (by decide) (by simp [Value.category]) d_M_years_78 rfl ⟨rfl, rfl⟩ rfl ?_
          refine MM.iadd d_M_years_81 rfl ?_
          obtain ⟨y23, e24, hf⟩ := mm_letE hf
          refine MM.istore (lv' := [(5, .int y23), (0, .ref 261), (2, .int x2), (3, .int x3), (4, .int v14), (6, .int s15.2.1)]) e24 (Nat.le_of_ble_eq_true rfl) rfl d_M_years_82 rfl ?_
          refine MM.iload rfl d_M_years_84 rfl ?_
          refine MM.bipush bp_10 d_M_years_86 rfl ?_
          refine MM.irem (by decide) d_M_years_88 rfl ?_
          obtain ⟨j25, e63, hf⟩ := mm_bind hf
          have K26 : MM V l Y_M_years 21 0 0 Z0 155 [(0, .ref 261), (2, .int x2), (3, .int x3), (4, .int v14), (5, .int y23), (6, .int s15.2.1)] [] j25 := by
            obtain ⟨y61, e62, hf⟩ := mm_letE hf
            refine MM.iinc (k0 := 5) (lv' := [(6, .int y61), (0, .ref 261), (2, .int x2), (3, .int x3), (4, .int v14), (5, .int y23)]) (by rw [ic_1]; exact e62) rfl (Nat.le_of_ble_eq_true rfl) rfl d_M_years_155 rfl ?_
            refine MM.goto (tgt := 69) d_M_years_158 rfl ?_
            obtain rfl := Option.some.inj hf
            have h9 := mm_wxL hx17
            exact MM.sub [1, 2, 3, 4, 5, 0] (by rfl) h9
          clear hf
          have hf := e63
          clear e63
          obtain ⟨m59, m60⟩ := mm_ifE hf
          refine MM.if_le (tgt := 95) d_M_years_89 rfl rfl (fun c58 => ?_) (fun c58 => ?_)
          · replace hf := m59 c58
            refine MM.iconst ic_0 d_M_years_95 rfl ?_
            refine MM.istore (lv' := [(7, .int 0), (5, .int y23), (0, .ref 261), (2, .int x2), (3, .int x3), (4, .int v14), (6, .int s15.2.1)]) rfl (Nat.le_of_ble_eq_true rfl) rfl d_M_years_96 rfl ?_
            obtain ⟨v30, e32, hf⟩ := mm_bind hf
            have K31 : MM V l Y_M_years 21 0 0 Z0 150 [(0, .ref 261), (2, .int x2), (3, .int x3), (4, .int v14), (5, .int y23), (6, .int s15.2.1)] [] v30 := by
              refine MM.aload_n (i := 0) rfl rfl d_M_years_150 rfl ?_
              obtain ⟨v57, e56, hf⟩ := mm_bind hf
              refine MM.callV1 (T_M_passes V l  v30 _ e56) (fun _ _ q => q) cal_M_passes rfl tg_261 ct_9 ww_91 ww_1887 ww_1885 (by decide) (by simp [Value.category]) d_M_years_151 rfl ⟨rfl, rfl⟩ rfl ?_
              refine MM.pop rfl d_M_years_154 rfl ?_
              obtain rfl := Option.some.inj hf
              exact MM.sub [0, 1, 2, 3, 4, 5] (by rfl) K26
            clear hf
            refine MM.sub [2, 3, 4, 5, 1, 6, 0] (by rfl) (mm_while_ind (fun s27 => MM V l Y_M_years 21 0 0 Z0 98 [(0, .ref 261), (2, .int x2), (3, .int x3), (4, .int v14), (5, .int y23), (6, .int s15.2.1), (7, .int s27.1)] [] s27.2) e32 (fun s27 q28 hf hx29 => ?_))
            refine MM.iload rfl d_M_years_98 rfl ?_
            refine MM.aload_n (i := 0) rfl rfl d_M_years_100 rfl ?_
            refine MM.gR 9 2 tg_261 rq_9_10 rfl lays_9 ww_1368 d_M_years_101 rfl ?_
            refine MM.iconst ic_0 d_M_years_104 rfl ?_
            refine MM.gI ix_0_8 al_263 d_M_years_105 rfl ?_
            obtain ⟨m54, m55⟩ := mm_ifE hf
            refine MM.icmp_ge (tgt := 150) d_M_years_106 rfl rfl (fun c53 => ?_) (fun c53 => ?_)
            · replace hf := m54 c53
              obtain rfl := Option.some.inj hf
              obtain rfl := Option.some.inj (mm_wxR hx29)
              exact MM.sub [0, 1, 2, 3, 4, 5] (by rfl) K31
            · replace hf := m55 c53
              refine MM.aload_n (i := 0) rfl rfl d_M_years_109 rfl ?_
              refine MM.gR 9 7 tg_261 rq_9_15 rfl lays_9 ww_1373 d_M_years_110 rfl ?_
              refine MM.iload rfl d_M_years_113 rfl ?_
              obtain ⟨k33, e34, hf⟩ := mm_bind hf
              refine MM.gI e34 al_268 d_M_years_115 rfl ?_
              obtain ⟨j35, e52, hf⟩ := mm_bind hf
              have K36 : MM V l Y_M_years 21 0 0 Z0 129 [(0, .ref 261), (2, .int x2), (3, .int x3), (4, .int v14), (5, .int y23), (6, .int s15.2.1), (7, .int s27.1)] [.int j35.1] j35.2 := by
                refine MM.istore (lv' := [(8, .int j35.1), (0, .ref 261), (2, .int x2), (3, .int x3), (4, .int v14), (5, .int y23), (6, .int s15.2.1), (7, .int s27.1)]) rfl (Nat.le_of_ble_eq_true rfl) rfl d_M_years_129 rfl ?_
                refine MM.iload rfl d_M_years_131 rfl ?_
                obtain ⟨j42, e51, hf⟩ := mm_bind hf
                have K43 : MM V l Y_M_years 21 0 0 Z0 144 [(0, .ref 261), (2, .int x2), (3, .int x3), (4, .int v14), (5, .int y23), (6, .int s15.2.1), (7, .int s27.1)] [] j42 := by
                  obtain ⟨y49, e50, hf⟩ := mm_letE hf
                  refine MM.iinc (k0 := 6) (lv' := [(7, .int y49), (0, .ref 261), (2, .int x2), (3, .int x3), (4, .int v14), (5, .int y23), (6, .int s15.2.1)]) (by rw [ic_1]; exact e50) rfl (Nat.le_of_ble_eq_true rfl) rfl d_M_years_144 rfl ?_
                  refine MM.goto (tgt := 98) d_M_years_147 rfl ?_
                  obtain rfl := Option.some.inj hf
                  have h9 := mm_wxL hx29
                  exact MM.sub [1, 2, 3, 4, 5, 6, 0] (by rfl) h9
                clear hf
                have hf := e51
                clear e51
                obtain ⟨m47, m48⟩ := mm_ifE hf
                refine MM.if_le (tgt := 144) d_M_years_133 rfl rfl (fun c46 => ?_) (fun c46 => ?_)
                · replace hf := m47 c46
                  obtain rfl := Option.some.inj hf
                  exact MM.sub [1, 2, 3, 4, 5, 6, 7] (by rfl) K43
                · replace hf := m48 c46
                  refine MM.aload_n (i := 0) rfl rfl d_M_years_136 rfl ?_
                  refine MM.iload rfl d_M_years_137 rfl ?_
                  refine MM.iload rfl d_M_years_139 rfl ?_
                  obtain ⟨v45, e44, hf⟩ := mm_bind hf
                  refine MM.callV0 (T_M_pays V l s27.1 j35.1 j35.2 _ e44) (fun _ _ q => q) cal_M_pays rfl tg_261 ct_9 ww_90 ww_1875 ww_1873 (by decide) (by simp [Value.category]) d_M_years_141 rfl ⟨rfl, rfl⟩ rfl ?_
                  obtain rfl := Option.some.inj hf
                  exact MM.sub [1, 2, 3, 4, 5, 6, 7] (by rfl) K43
              clear hf
              have hf := e52
              clear e52
              obtain ⟨m40, m41⟩ := mm_ifE hf
              refine MM.if_le (tgt := 128) d_M_years_116 rfl rfl (fun c39 => ?_) (fun c39 => ?_)
              · replace hf := m40 c39
                refine MM.iconst ic_m1 d_M_years_128 rfl ?_
                obtain rfl := Option.some.inj hf
                exact MM.sub [0, 1, 2, 3, 4, 5, 6] (by rfl) K36
              · replace hf := m41 c39
                refine MM.aload_n (i := 0) rfl rfl d_M_years_119 rfl ?_
                refine MM.iload rfl d_M_years_120 rfl ?_
                obtain ⟨v38, e37, hf⟩ := mm_bind hf
                refine MM.callV1 (T_M_leastOf V l s27.1 s27.2 _ e37) (fun _ _ q => q) cal_M_leastOf rfl tg_261 ct_9 ww_95 ww_1919 ww_1917 (by decide) (by simp [Value.category]) d_M_years_122 rfl ⟨rfl, rfl⟩ rfl ?_
                refine MM.goto (tgt := 129) d_M_years_125 rfl ?_
                obtain rfl := Option.some.inj hf
                exact MM.sub [0, 1, 2, 3, 4, 5, 6] (by rfl) K36
          · replace hf := m60 c58
            refine MM.goto (tgt := 155) d_M_years_92 rfl ?_
            obtain rfl := Option.some.inj hf
            exact MM.sub [1, 2, 3, 4, 0, 5] (by rfl) K26
      · replace hf := m85 c84
        refine MM.iconst ic_m1 d_M_years_35 rfl ?_
        obtain rfl := Option.some.inj hf
        subst hZ
        exact MM.iret rfl d_M_years_36 ⟨rfl, rfl⟩
theorem d_M_mark_0 : decode cX12_mark 0 = .ok (.aload_n 0, 1) := by decide +kernel
theorem d_M_mark_1 : decode cX12_mark 1 = .ok (.iconst 0, 1) := by decide +kernel
theorem d_M_mark_2 : decode cX12_mark 2 = .ok (.putfield 175, 3) := by decide +kernel
theorem d_M_mark_5 : decode cX12_mark 5 = .ok (.iload_n 1, 1) := by decide +kernel
theorem d_M_mark_6 : decode cX12_mark 6 = .ok (.iconst 0, 1) := by decide +kernel
theorem d_M_mark_7 : decode cX12_mark 7 = .ok (.iconst 3, 1) := by decide +kernel
theorem d_M_mark_8 : decode cX12_mark 8 = .ok (.invokestatic 308, 3) := by decide +kernel
theorem d_M_mark_11 : decode cX12_mark 11 = .ok (.ifCond .eq 16, 3) := by decide +kernel
theorem d_M_mark_14 : decode cX12_mark 14 = .ok (.iload_n 2, 1) := by decide +kernel
theorem d_M_mark_15 : decode cX12_mark 15 = .ok (.ifCond .eq 14, 3) := by decide +kernel
theorem d_M_mark_18 : decode cX12_mark 18 = .ok (.aload_n 0, 1) := by decide +kernel
theorem d_M_mark_19 : decode cX12_mark 19 = .ok (.getfield 141, 3) := by decide +kernel
theorem d_M_mark_22 : decode cX12_mark 22 = .ok (.iload_n 1, 1) := by decide +kernel
theorem d_M_mark_23 : decode cX12_mark 23 = .ok (.baload, 1) := by decide +kernel
theorem d_M_mark_24 : decode cX12_mark 24 = .ok (.ifCond .ne 5, 3) := by decide +kernel
theorem d_M_mark_27 : decode cX12_mark 27 = .ok (.iconst 0, 1) := by decide +kernel
theorem d_M_mark_28 : decode cX12_mark 28 = .ok (.ireturn, 1) := by decide +kernel
theorem d_M_mark_29 : decode cX12_mark 29 = .ok (.aload_n 0, 1) := by decide +kernel
theorem d_M_mark_30 : decode cX12_mark 30 = .ok (.getfield 141, 3) := by decide +kernel
theorem d_M_mark_33 : decode cX12_mark 33 = .ok (.iload_n 1, 1) := by decide +kernel
theorem d_M_mark_34 : decode cX12_mark 34 = .ok (.iconst 1, 1) := by decide +kernel
theorem d_M_mark_35 : decode cX12_mark 35 = .ok (.bastore, 1) := by decide +kernel
theorem d_M_mark_36 : decode cX12_mark 36 = .ok (.iload_n 2, 1) := by decide +kernel
theorem d_M_mark_37 : decode cX12_mark 37 = .ok (.ifCond .eq 9, 3) := by decide +kernel
theorem d_M_mark_40 : decode cX12_mark 40 = .ok (.iconst 1, 1) := by decide +kernel
theorem d_M_mark_41 : decode cX12_mark 41 = .ok (.iload_n 1, 1) := by decide +kernel
theorem d_M_mark_42 : decode cX12_mark 42 = .ok (.iadd, 1) := by decide +kernel
theorem d_M_mark_43 : decode cX12_mark 43 = .ok (.goto 4, 3) := by decide +kernel
theorem d_M_mark_46 : decode cX12_mark 46 = .ok (.iconst 0, 1) := by decide +kernel
theorem d_M_mark_47 : decode cX12_mark 47 = .ok (.istore_n 3, 1) := by decide +kernel
theorem d_M_mark_48 : decode cX12_mark 48 = .ok (.iload_n 2, 1) := by decide +kernel
theorem d_M_mark_49 : decode cX12_mark 49 = .ok (.ifCond .eq 7, 3) := by decide +kernel
theorem d_M_mark_52 : decode cX12_mark 52 = .ok (.iconst 0, 1) := by decide +kernel
theorem d_M_mark_53 : decode cX12_mark 53 = .ok (.goto 6, 3) := by decide +kernel
theorem d_M_mark_56 : decode cX12_mark 56 = .ok (.iconst 1, 1) := by decide +kernel
theorem d_M_mark_57 : decode cX12_mark 57 = .ok (.iload_n 1, 1) := by decide +kernel
theorem d_M_mark_58 : decode cX12_mark 58 = .ok (.iadd, 1) := by decide +kernel
theorem d_M_mark_59 : decode cX12_mark 59 = .ok (.istore 4, 2) := by decide +kernel
theorem d_M_mark_61 : decode cX12_mark 61 = .ok (.aload_n 0, 1) := by decide +kernel
theorem d_M_mark_62 : decode cX12_mark 62 = .ok (.iload_n 3, 1) := by decide +kernel
theorem d_M_mark_63 : decode cX12_mark 63 = .ok (.iload 4, 2) := by decide +kernel
theorem d_M_mark_65 : decode cX12_mark 65 = .ok (.invokevirtual 404, 3) := by decide +kernel
theorem d_M_mark_68 : decode cX12_mark 68 = .ok (.aload_n 0, 1) := by decide +kernel
theorem d_M_mark_69 : decode cX12_mark 69 = .ok (.iload_n 3, 1) := by decide +kernel
theorem d_M_mark_70 : decode cX12_mark 70 = .ok (.iload 4, 2) := by decide +kernel
theorem d_M_mark_72 : decode cX12_mark 72 = .ok (.invokevirtual 560, 3) := by decide +kernel
theorem d_M_mark_75 : decode cX12_mark 75 = .ok (.iload_n 2, 1) := by decide +kernel
theorem d_M_mark_76 : decode cX12_mark 76 = .ok (.ifCond .eq 27, 3) := by decide +kernel
theorem d_M_mark_79 : decode cX12_mark 79 = .ok (.aload_n 0, 1) := by decide +kernel
theorem d_M_mark_80 : decode cX12_mark 80 = .ok (.getfield 135, 3) := by decide +kernel
theorem d_M_mark_83 : decode cX12_mark 83 = .ok (.bipush 123, 2) := by decide +kernel
theorem d_M_mark_85 : decode cX12_mark 85 = .ok (.iload_n 1, 1) := by decide +kernel
theorem d_M_mark_86 : decode cX12_mark 86 = .ok (.imul, 1) := by decide +kernel
theorem d_M_mark_87 : decode cX12_mark 87 = .ok (.aload_n 0, 1) := by decide +kernel
theorem d_M_mark_88 : decode cX12_mark 88 = .ok (.getfield 129, 3) := by decide +kernel
theorem d_M_mark_91 : decode cX12_mark 91 = .ok (.iconst 0, 1) := by decide +kernel
theorem d_M_mark_92 : decode cX12_mark 92 = .ok (.invokestatic 457, 3) := by decide +kernel
theorem d_M_mark_95 : decode cX12_mark 95 = .ok (.aload_n 0, 1) := by decide +kernel
theorem d_M_mark_96 : decode cX12_mark 96 = .ok (.iconst 0, 1) := by decide +kernel
theorem d_M_mark_97 : decode cX12_mark 97 = .ok (.putfield 398, 3) := by decide +kernel
theorem d_M_mark_100 : decode cX12_mark 100 = .ok (.goto 19, 3) := by decide +kernel
theorem d_M_mark_103 : decode cX12_mark 103 = .ok (.aload_n 0, 1) := by decide +kernel
theorem d_M_mark_104 : decode cX12_mark 104 = .ok (.getfield 129, 3) := by decide +kernel
theorem d_M_mark_107 : decode cX12_mark 107 = .ok (.iconst 0, 1) := by decide +kernel
theorem d_M_mark_108 : decode cX12_mark 108 = .ok (.aload_n 0, 1) := by decide +kernel
theorem d_M_mark_109 : decode cX12_mark 109 = .ok (.getfield 135, 3) := by decide +kernel
theorem d_M_mark_112 : decode cX12_mark 112 = .ok (.bipush 123, 2) := by decide +kernel
theorem d_M_mark_114 : decode cX12_mark 114 = .ok (.iload_n 1, 1) := by decide +kernel
theorem d_M_mark_115 : decode cX12_mark 115 = .ok (.imul, 1) := by decide +kernel
theorem d_M_mark_116 : decode cX12_mark 116 = .ok (.invokestatic 457, 3) := by decide +kernel
theorem d_M_mark_119 : decode cX12_mark 119 = .ok (.iconst 1, 1) := by decide +kernel
theorem d_M_mark_120 : decode cX12_mark 120 = .ok (.ireturn, 1) := by decide +kernel
noncomputable def f_M_mark (x1 : Int32) (x2 : Int32) (h : mm_H) : Option (Int32 × mm_H) := mm_let (mm_pI h 261 0 0) fun h1 => (f_M_within x1 0 3).bind fun v4 => if v4 = 0 then (some (0, h1)) else (mm_jp (fun (j5 : Unit) => ((mm_ix x1 4).bind fun k8 => mm_let (mm_pI h1 305 k8 ((1 : Int32) &&& 1)) fun h10 => (if x2 = 0 then (some 0) else (some (1 + x1)) : Option Int32).bind fun j12 => (if x2 = 0 then (some (1 + x1)) else (some 0) : Option Int32).bind fun j17 => (f_M_laysLines j12 j17 h10).bind fun v23 => (f_M_laysSeen j12 j17 v23).bind fun v25 => if x2 = 0 then ((f_M_copies 301 0 303 (123 * x1) v25).bind fun v27 => some (1, v27)) else ((f_M_copies 303 (123 * x1) 301 0 v25).bind fun v29 => mm_let (mm_pI v29 261 55 0) fun h30 => some (1, h30)))) fun k7 => if x2 = 0 then (k7 ()) else ((mm_ix x1 4).bind fun k37 => if (h1.1 305 k37) = 0 then (some (0, h1)) else (k7 ())))
theorem T_M_mark (V : mm_V) (l : Launch) (x1 : Int32) (x2 : Int32) (h : mm_H) (r : (Int32 × mm_H)) (hf : f_M_mark x1 x2 h = some r) : MT V l Y_M_mark 2 [.ref 261, .int x1, .int x2] (fun r1 h1 => r1 = some (.int r.1) ∧ h1 = r.2) h := by
  unfold f_M_mark at hf
  refine MT.intro (pn_M rfl) [(0, .ref 261), (1, .int x1), (2, .int x2)] rfl (Nat.le_of_ble_eq_true rfl) ?_
  generalize hZ : mm_Z V _ = Z0
  refine MM.aload_n (i := 0) rfl rfl d_M_mark_0 rfl ?_
  refine MM.iconst ic_0 d_M_mark_1 rfl ?_
  obtain ⟨h1, e2, hf⟩ := mm_letE hf
  refine MM.putI e2 9 tg_261 lays_9 toks_9 pq_9_0 ww_1358 d_M_mark_2 rfl ?_
  refine MM.iload_n (i := 1) rfl rfl d_M_mark_5 rfl ?_
  refine MM.iconst ic_0 d_M_mark_6 rfl ?_
  refine MM.iconst ic_3 d_M_mark_7 rfl ?_
  obtain ⟨v4, e3, hf⟩ := mm_bind hf
  refine MM.callS1 (T_M_within V l x1 0 3 h1 _ e3) (fun _ _ q => q) cal_M_within rfl ww_1669 ww_1668 (by decide) (by simp [Value.category]) d_M_mark_8 rfl ⟨rfl, rfl⟩ rfl ?_
  obtain ⟨m47, m48⟩ := mm_ifE hf
  refine MM.if_eq (tgt := 27) d_M_mark_11 rfl rfl (fun c46 => ?_) (fun c46 => ?_)
  · replace hf := m47 c46
    refine MM.iconst ic_0 d_M_mark_27 rfl ?_
    obtain rfl := Option.some.inj hf
    subst hZ
    exact MM.zret (Or.inl rfl) rfl d_M_mark_28 ⟨rfl, rfl⟩
  · replace hf := m48 c46
    refine MM.iload_n (i := 2) rfl rfl d_M_mark_14 rfl ?_
    obtain ⟨k7, e45, hf⟩ := mm_jpE hf
    have K6 : ∀ j5, k7 j5 = some r → MM V l Y_M_mark 2 0 0 Z0 29 [(0, .ref 261), (1, .int x1), (2, .int x2)] [] h1 := by
      intro j5 hf
      rw [e45] at hf
      refine MM.aload_n (i := 0) rfl rfl d_M_mark_29 rfl ?_
      refine MM.gR 9 44 tg_261 rq_9_54 rfl lays_9 ww_1412 d_M_mark_30 rfl ?_
      refine MM.iload_n (i := 1) rfl rfl d_M_mark_33 rfl ?_
      refine MM.iconst ic_1 d_M_mark_34 rfl ?_
      obtain ⟨k8, e9, hf⟩ := mm_bind hf
      obtain ⟨h10, e11, hf⟩ := mm_letE hf
      refine MM.sZ e9 e11 al_305 d_M_mark_35 rfl ?_
      refine MM.iload_n (i := 2) rfl rfl d_M_mark_36 rfl ?_
      obtain ⟨j12, e36, hf⟩ := mm_bind hf
      have K13 : MM V l Y_M_mark 2 0 0 Z0 47 [(0, .ref 261), (1, .int x1), (2, .int x2)] [.int j12] h10 := by
        refine MM.istore_n (i := 3) (lv' := [(3, .int j12), (0, .ref 261), (1, .int x1), (2, .int x2)]) rfl rfl (Nat.le_of_ble_eq_true rfl) rfl d_M_mark_47 rfl ?_
        refine MM.iload_n (i := 2) rfl rfl d_M_mark_48 rfl ?_
        obtain ⟨j17, e35, hf⟩ := mm_bind hf
        have K18 : MM V l Y_M_mark 2 0 0 Z0 59 [(0, .ref 261), (1, .int x1), (2, .int x2), (3, .int j12)] [.int j17] h10 := by
          refine MM.istore (lv' := [(4, .int j17), (0, .ref 261), (1, .int x1), (2, .int x2), (3, .int j12)]) rfl (Nat.le_of_ble_eq_true rfl) rfl d_M_mark_59 rfl ?_
          refine MM.aload_n (i := 0) rfl rfl d_M_mark_61 rfl ?_
          refine MM.iload_n (i := 3) rfl rfl d_M_mark_62 rfl ?_
          refine MM.iload rfl d_M_mark_63 rfl ?_
          obtain ⟨v23, e22, hf⟩ := mm_bind hf
          refine MM.callV0 (T_M_laysLines V l j12 j17 h10 _ e22) (fun _ _ q => q) cal_M_laysLines rfl tg_261 ct_9 ww_69 ww_1759 ww_1757 (by decide) (by simp [Value.category]) d_M_mark_65 rfl ⟨rfl, rfl⟩ rfl ?_
          refine MM.aload_n (i := 0) rfl rfl d_M_mark_68 rfl ?_
          refine MM.iload_n (i := 3) rfl rfl d_M_mark_69 rfl ?_
          refine MM.iload rfl d_M_mark_70 rfl ?_
          obtain ⟨v25, e24, hf⟩ := mm_bind hf
          refine MM.callV0 (T_M_laysSeen V l j12 j17 v23 _ e24) (fun _ _ q => q) cal_M_laysSeen rfl tg_261 ct_9 ww_108 ww_2025 ww_2023 (by decide) (by simp [Value.category]) d_M_mark_72 rfl ⟨rfl, rfl⟩ rfl ?_
          refine MM.iload_n (i := 2) rfl rfl d_M_mark_75 rfl ?_
          obtain ⟨m33, m34⟩ := mm_ifE hf
          refine MM.if_eq (tgt := 103) d_M_mark_76 rfl rfl (fun c32 => ?_) (fun c32 => ?_)
          · replace hf := m33 c32
            refine MM.aload_n (i := 0) rfl rfl d_M_mark_103 rfl ?_
            refine MM.gR 9 40 tg_261 rq_9_50 rfl lays_9 ww_1408 d_M_mark_104 rfl ?_
            refine MM.iconst ic_0 d_M_mark_107 rfl ?_
            refine MM.aload_n (i := 0) rfl rfl d_M_mark_108 rfl ?_
            refine MM.gR 9 42 tg_261 rq_9_52 rfl lays_9 ww_1410 d_M_mark_109 rfl ?_
            refine MM.bipush bp_123 d_M_mark_112 rfl ?_
            refine MM.iload_n (i := 1) rfl rfl d_M_mark_114 rfl ?_
            refine MM.imul d_M_mark_115 rfl ?_
            obtain ⟨v27, e26, hf⟩ := mm_bind hf
            refine MM.callS0 (T_M_copies V l 301 0 303 (123 * x1) v25 _ e26) (fun _ _ q => q) cal_M_copies rfl ww_1859 ww_1858 (by decide) (by simp [Value.category]) d_M_mark_116 rfl ⟨rfl, rfl⟩ rfl ?_
            refine MM.iconst ic_1 d_M_mark_119 rfl ?_
            obtain rfl := Option.some.inj hf
            subst hZ
            exact MM.zret (Or.inr rfl) rfl d_M_mark_120 ⟨rfl, rfl⟩
          · replace hf := m34 c32
            refine MM.aload_n (i := 0) rfl rfl d_M_mark_79 rfl ?_
            refine MM.gR 9 42 tg_261 rq_9_52 rfl lays_9 ww_1410 d_M_mark_80 rfl ?_
            refine MM.bipush bp_123 d_M_mark_83 rfl ?_
            refine MM.iload_n (i := 1) rfl rfl d_M_mark_85 rfl ?_
            refine MM.imul d_M_mark_86 rfl ?_
            refine MM.aload_n (i := 0) rfl rfl d_M_mark_87 rfl ?_
            refine MM.gR 9 40 tg_261 rq_9_50 rfl lays_9 ww_1408 d_M_mark_88 rfl ?_
            refine MM.iconst ic_0 d_M_mark_91 rfl ?_
            obtain ⟨v29, e28, hf⟩ := mm_bind hf
            refine MM.callS0 (T_M_copies V l 303 (123 * x1) 301 0 v25 _ e28) (fun _ _ q => q) cal_M_copies rfl ww_1859 ww_1858 (by decide) (by simp [Value.category]) d_M_mark_92 rfl ⟨rfl, rfl⟩ rfl ?_
            refine MM.aload_n (i := 0) rfl rfl d_M_mark_95 rfl ?_
            refine MM.iconst ic_0 d_M_mark_96 rfl ?_
            obtain ⟨h30, e31, hf⟩ := mm_letE hf
            refine MM.putI e31 9 tg_261 lays_9 toks_9 pq_9_55 ww_1413 d_M_mark_97 rfl ?_
            refine MM.goto (tgt := 119) d_M_mark_100 rfl ?_
            refine MM.iconst ic_1 d_M_mark_119 rfl ?_
            obtain rfl := Option.some.inj hf
            subst hZ
            exact MM.zret (Or.inr rfl) rfl d_M_mark_120 ⟨rfl, rfl⟩
        clear hf
        have hf := e35
        clear e35
        obtain ⟨m20, m21⟩ := mm_ifE hf
        refine MM.if_eq (tgt := 56) d_M_mark_49 rfl rfl (fun c19 => ?_) (fun c19 => ?_)
        · replace hf := m20 c19
          refine MM.iconst ic_1 d_M_mark_56 rfl ?_
          refine MM.iload_n (i := 1) rfl rfl d_M_mark_57 rfl ?_
          refine MM.iadd d_M_mark_58 rfl ?_
          obtain rfl := Option.some.inj hf
          exact MM.sub [1, 2, 3, 0] (by rfl) K18
        · replace hf := m21 c19
          refine MM.iconst ic_0 d_M_mark_52 rfl ?_
          refine MM.goto (tgt := 59) d_M_mark_53 rfl ?_
          obtain rfl := Option.some.inj hf
          exact MM.sub [1, 2, 3, 0] (by rfl) K18
      clear hf
      have hf := e36
      clear e36
      obtain ⟨m15, m16⟩ := mm_ifE hf
      refine MM.if_eq (tgt := 46) d_M_mark_37 rfl rfl (fun c14 => ?_) (fun c14 => ?_)
      · replace hf := m15 c14
        refine MM.iconst ic_0 d_M_mark_46 rfl ?_
        obtain rfl := Option.some.inj hf
        exact MM.sub [0, 1, 2] (by rfl) K13
      · replace hf := m16 c14
        refine MM.iconst ic_1 d_M_mark_40 rfl ?_
        refine MM.iload_n (i := 1) rfl rfl d_M_mark_41 rfl ?_
        refine MM.iadd d_M_mark_42 rfl ?_
        refine MM.goto (tgt := 47) d_M_mark_43 rfl ?_
        obtain rfl := Option.some.inj hf
        exact MM.sub [0, 1, 2] (by rfl) K13
    clear e45
    obtain ⟨m43, m44⟩ := mm_ifE hf
    refine MM.if_eq (tgt := 29) d_M_mark_15 rfl rfl (fun c42 => ?_) (fun c42 => ?_)
    · replace hf := m43 c42
      exact MM.sub [0, 1, 2] (by rfl) (K6 _ hf)
    · replace hf := m44 c42
      refine MM.aload_n (i := 0) rfl rfl d_M_mark_18 rfl ?_
      refine MM.gR 9 44 tg_261 rq_9_54 rfl lays_9 ww_1412 d_M_mark_19 rfl ?_
      refine MM.iload_n (i := 1) rfl rfl d_M_mark_22 rfl ?_
      obtain ⟨k37, e38, hf⟩ := mm_bind hf
      refine MM.gZ e38 al_305 d_M_mark_23 rfl ?_
      obtain ⟨m40, m41⟩ := mm_ifE hf
      refine MM.if_ne (tgt := 29) d_M_mark_24 rfl rfl (fun c39 => ?_) (fun c39 => ?_)
      · replace hf := m41 c39
        exact MM.sub [0, 1, 2] (by rfl) (K6 _ hf)
      · replace hf := m40 c39
        refine MM.iconst ic_0 d_M_mark_27 rfl ?_
        obtain rfl := Option.some.inj hf
        subst hZ
        exact MM.zret (Or.inl rfl) rfl d_M_mark_28 ⟨rfl, rfl⟩
theorem d_M_count_0 : decode cX12_count 0 = .ok (.aload_n 0, 1) := by decide +kernel
theorem d_M_count_1 : decode cX12_count 1 = .ok (.iconst 0, 1) := by decide +kernel
theorem d_M_count_2 : decode cX12_count 2 = .ok (.putfield 175, 3) := by decide +kernel
theorem d_M_count_5 : decode cX12_count 5 = .ok (.iload_n 1, 1) := by decide +kernel
theorem d_M_count_6 : decode cX12_count 6 = .ok (.iconst 0, 1) := by decide +kernel
theorem d_M_count_7 : decode cX12_count 7 = .ok (.bipush 10, 2) := by decide +kernel
theorem d_M_count_9 : decode cX12_count 9 = .ok (.invokestatic 308, 3) := by decide +kernel
theorem d_M_count_12 : decode cX12_count 12 = .ok (.ifCond .ne 5, 3) := by decide +kernel
theorem d_M_count_15 : decode cX12_count 15 = .ok (.iconst (-1), 1) := by decide +kernel
theorem d_M_count_16 : decode cX12_count 16 = .ok (.ireturn, 1) := by decide +kernel
theorem d_M_count_17 : decode cX12_count 17 = .ok (.iload_n 1, 1) := by decide +kernel
theorem d_M_count_18 : decode cX12_count 18 = .ok (.iconst 4, 1) := by decide +kernel
theorem d_M_count_19 : decode cX12_count 19 = .ok (.if_icmp .ge 10, 3) := by decide +kernel
theorem d_M_count_22 : decode cX12_count 22 = .ok (.aload_n 0, 1) := by decide +kernel
theorem d_M_count_23 : decode cX12_count 23 = .ok (.getfield 13, 3) := by decide +kernel
theorem d_M_count_26 : decode cX12_count 26 = .ok (.iload_n 1, 1) := by decide +kernel
theorem d_M_count_27 : decode cX12_count 27 = .ok (.iaload, 1) := by decide +kernel
theorem d_M_count_28 : decode cX12_count 28 = .ok (.ireturn, 1) := by decide +kernel
theorem d_M_count_29 : decode cX12_count 29 = .ok (.iload_n 1, 1) := by decide +kernel
theorem d_M_count_30 : decode cX12_count 30 = .ok (.bipush 7, 2) := by decide +kernel
theorem d_M_count_32 : decode cX12_count 32 = .ok (.if_icmp .ge 41, 3) := by decide +kernel
theorem d_M_count_35 : decode cX12_count 35 = .ok (.iload_n 1, 1) := by decide +kernel
theorem d_M_count_36 : decode cX12_count 36 = .ok (.iconst 4, 1) := by decide +kernel
theorem d_M_count_37 : decode cX12_count 37 = .ok (.if_icmp .ne 13, 3) := by decide +kernel
theorem d_M_count_40 : decode cX12_count 40 = .ok (.aload_n 0, 1) := by decide +kernel
theorem d_M_count_41 : decode cX12_count 41 = .ok (.getfield 129, 3) := by decide +kernel
theorem d_M_count_44 : decode cX12_count 44 = .ok (.bipush 85, 2) := by decide +kernel
theorem d_M_count_46 : decode cX12_count 46 = .ok (.iaload, 1) := by decide +kernel
theorem d_M_count_47 : decode cX12_count 47 = .ok (.goto 25, 3) := by decide +kernel
theorem d_M_count_50 : decode cX12_count 50 = .ok (.iload_n 1, 1) := by decide +kernel
theorem d_M_count_51 : decode cX12_count 51 = .ok (.iconst 5, 1) := by decide +kernel
theorem d_M_count_52 : decode cX12_count 52 = .ok (.if_icmp .ne 14, 3) := by decide +kernel
theorem d_M_count_55 : decode cX12_count 55 = .ok (.aload_n 0, 1) := by decide +kernel
theorem d_M_count_56 : decode cX12_count 56 = .ok (.aload_n 0, 1) := by decide +kernel
theorem d_M_count_57 : decode cX12_count 57 = .ok (.invokevirtual 489, 3) := by decide +kernel
theorem d_M_count_60 : decode cX12_count 60 = .ok (.invokevirtual 433, 3) := by decide +kernel
theorem d_M_count_63 : decode cX12_count 63 = .ok (.goto 9, 3) := by decide +kernel
theorem d_M_count_66 : decode cX12_count 66 = .ok (.aload_n 0, 1) := by decide +kernel
theorem d_M_count_67 : decode cX12_count 67 = .ok (.getfield 105, 3) := by decide +kernel
theorem d_M_count_70 : decode cX12_count 70 = .ok (.iconst 0, 1) := by decide +kernel
theorem d_M_count_71 : decode cX12_count 71 = .ok (.iaload, 1) := by decide +kernel
theorem d_M_count_72 : decode cX12_count 72 = .ok (.ireturn, 1) := by decide +kernel
theorem d_M_count_73 : decode cX12_count 73 = .ok (.iload_n 1, 1) := by decide +kernel
theorem d_M_count_74 : decode cX12_count 74 = .ok (.bipush 7, 2) := by decide +kernel
theorem d_M_count_76 : decode cX12_count 76 = .ok (.if_icmp .ne 12, 3) := by decide +kernel
theorem d_M_count_79 : decode cX12_count 79 = .ok (.aload_n 0, 1) := by decide +kernel
theorem d_M_count_80 : decode cX12_count 80 = .ok (.getfield 120, 3) := by decide +kernel
theorem d_M_count_83 : decode cX12_count 83 = .ok (.iconst 0, 1) := by decide +kernel
theorem d_M_count_84 : decode cX12_count 84 = .ok (.iaload, 1) := by decide +kernel
theorem d_M_count_85 : decode cX12_count 85 = .ok (.goto 36, 3) := by decide +kernel
theorem d_M_count_88 : decode cX12_count 88 = .ok (.iload_n 1, 1) := by decide +kernel
theorem d_M_count_89 : decode cX12_count 89 = .ok (.bipush 8, 2) := by decide +kernel
theorem d_M_count_91 : decode cX12_count 91 = .ok (.if_icmp .ne 13, 3) := by decide +kernel
theorem d_M_count_94 : decode cX12_count 94 = .ok (.aload_n 0, 1) := by decide +kernel
theorem d_M_count_95 : decode cX12_count 95 = .ok (.getfield 129, 3) := by decide +kernel
theorem d_M_count_98 : decode cX12_count 98 = .ok (.bipush 122, 2) := by decide +kernel
theorem d_M_count_100 : decode cX12_count 100 = .ok (.iaload, 1) := by decide +kernel
theorem d_M_count_101 : decode cX12_count 101 = .ok (.goto 20, 3) := by decide +kernel
theorem d_M_count_104 : decode cX12_count 104 = .ok (.iload_n 1, 1) := by decide +kernel
theorem d_M_count_105 : decode cX12_count 105 = .ok (.bipush 9, 2) := by decide +kernel
theorem d_M_count_107 : decode cX12_count 107 = .ok (.if_icmp .ne 10, 3) := by decide +kernel
theorem d_M_count_110 : decode cX12_count 110 = .ok (.aload_n 0, 1) := by decide +kernel
theorem d_M_count_111 : decode cX12_count 111 = .ok (.getfield 398, 3) := by decide +kernel
theorem d_M_count_114 : decode cX12_count 114 = .ok (.goto 7, 3) := by decide +kernel
theorem d_M_count_117 : decode cX12_count 117 = .ok (.aload_n 0, 1) := by decide +kernel
theorem d_M_count_118 : decode cX12_count 118 = .ok (.getfield 181, 3) := by decide +kernel
theorem d_M_count_121 : decode cX12_count 121 = .ok (.ireturn, 1) := by decide +kernel
noncomputable def f_M_count (x1 : Int32) (h : mm_H) : Option (Int32 × mm_H) := mm_let (mm_pI h 261 0 0) fun h1 => (f_M_within x1 0 10).bind fun v4 => if v4 = 0 then (some ((-1), h1)) else (if 4 ≤ x1 then (if 7 ≤ x1 then (if x1 = 7 then (some ((h1.1 298 0), h1)) else (if x1 = 8 then (some ((h1.1 301 122), h1)) else (if x1 = 9 then (some ((h1.1 261 55), h1)) else (some ((h1.1 261 1), h1))))) else (if x1 = 4 then (some ((h1.1 301 85), h1)) else (if x1 = 5 then ((f_M_allSecrets h1).bind fun v15 => (f_M_worthsOf v15 h1).bind fun v17 => some (v17.1, v17.2)) else (some ((h1.1 293 0), h1))))) else ((mm_ix x1 8).bind fun k27 => some ((h1.1 263 k27), h1)))
theorem T_M_count (V : mm_V) (l : Launch) (x1 : Int32) (h : mm_H) (r : (Int32 × mm_H)) (hf : f_M_count x1 h = some r) : MT V l Y_M_count 19 [.ref 261, .int x1] (fun r1 h1 => r1 = some (.int r.1) ∧ h1 = r.2) h := by
  unfold f_M_count at hf
  refine MT.intro (pn_M rfl) [(0, .ref 261), (1, .int x1)] rfl (Nat.le_of_ble_eq_true rfl) ?_
  generalize hZ : mm_Z V _ = Z0
  refine MM.aload_n (i := 0) rfl rfl d_M_count_0 rfl ?_
  refine MM.iconst ic_0 d_M_count_1 rfl ?_
  obtain ⟨h1, e2, hf⟩ := mm_letE hf
  refine MM.putI e2 9 tg_261 lays_9 toks_9 pq_9_0 ww_1358 d_M_count_2 rfl ?_
  refine MM.iload_n (i := 1) rfl rfl d_M_count_5 rfl ?_
  refine MM.iconst ic_0 d_M_count_6 rfl ?_
  refine MM.bipush bp_10 d_M_count_7 rfl ?_
  obtain ⟨v4, e3, hf⟩ := mm_bind hf
  refine MM.callS1 (T_M_within V l x1 0 10 h1 _ e3) (fun _ _ q => q) cal_M_within rfl ww_1669 ww_1668 (by decide) (by simp [Value.category]) d_M_count_9 rfl ⟨rfl, rfl⟩ rfl ?_
  obtain ⟨m33, m34⟩ := mm_ifE hf
  refine MM.if_ne (tgt := 17) d_M_count_12 rfl rfl (fun c32 => ?_) (fun c32 => ?_)
  · replace hf := m34 c32
    refine MM.iload_n (i := 1) rfl rfl d_M_count_17 rfl ?_
    refine MM.iconst ic_4 d_M_count_18 rfl ?_
    obtain ⟨m30, m31⟩ := mm_ifE hf
    refine MM.icmp_ge (tgt := 29) d_M_count_19 rfl rfl (fun c29 => ?_) (fun c29 => ?_)
    · replace hf := m30 c29
      refine MM.iload_n (i := 1) rfl rfl d_M_count_29 rfl ?_
      refine MM.bipush bp_7 d_M_count_30 rfl ?_
      obtain ⟨m25, m26⟩ := mm_ifE hf
      refine MM.icmp_ge (tgt := 73) d_M_count_32 rfl rfl (fun c24 => ?_) (fun c24 => ?_)
      · replace hf := m25 c24
        refine MM.iload_n (i := 1) rfl rfl d_M_count_73 rfl ?_
        refine MM.bipush bp_7 d_M_count_74 rfl ?_
        obtain ⟨m12, m13⟩ := mm_ifE hf
        refine MM.icmp_ne (tgt := 88) d_M_count_76 rfl rfl (fun c11 => ?_) (fun c11 => ?_)
        · replace hf := m13 c11
          refine MM.iload_n (i := 1) rfl rfl d_M_count_88 rfl ?_
          refine MM.bipush bp_8 d_M_count_89 rfl ?_
          obtain ⟨m9, m10⟩ := mm_ifE hf
          refine MM.icmp_ne (tgt := 104) d_M_count_91 rfl rfl (fun c8 => ?_) (fun c8 => ?_)
          · replace hf := m10 c8
            refine MM.iload_n (i := 1) rfl rfl d_M_count_104 rfl ?_
            refine MM.bipush bp_9 d_M_count_105 rfl ?_
            obtain ⟨m6, m7⟩ := mm_ifE hf
            refine MM.icmp_ne (tgt := 117) d_M_count_107 rfl rfl (fun c5 => ?_) (fun c5 => ?_)
            · replace hf := m7 c5
              refine MM.aload_n (i := 0) rfl rfl d_M_count_117 rfl ?_
              refine MM.getI 9 tg_261 lays_9 gq_9_1 ww_1359 d_M_count_118 rfl ?_
              obtain rfl := Option.some.inj hf
              subst hZ
              exact MM.iret rfl d_M_count_121 ⟨rfl, rfl⟩
            · replace hf := m6 c5
              refine MM.aload_n (i := 0) rfl rfl d_M_count_110 rfl ?_
              refine MM.getI 9 tg_261 lays_9 gq_9_55 ww_1413 d_M_count_111 rfl ?_
              refine MM.goto (tgt := 121) d_M_count_114 rfl ?_
              obtain rfl := Option.some.inj hf
              subst hZ
              exact MM.iret rfl d_M_count_121 ⟨rfl, rfl⟩
          · replace hf := m9 c8
            refine MM.aload_n (i := 0) rfl rfl d_M_count_94 rfl ?_
            refine MM.gR 9 40 tg_261 rq_9_50 rfl lays_9 ww_1408 d_M_count_95 rfl ?_
            refine MM.bipush bp_122 d_M_count_98 rfl ?_
            refine MM.gI ix_122_123 al_301 d_M_count_100 rfl ?_
            refine MM.goto (tgt := 121) d_M_count_101 rfl ?_
            obtain rfl := Option.some.inj hf
            subst hZ
            exact MM.iret rfl d_M_count_121 ⟨rfl, rfl⟩
        · replace hf := m12 c11
          refine MM.aload_n (i := 0) rfl rfl d_M_count_79 rfl ?_
          refine MM.gR 9 37 tg_261 rq_9_47 rfl lays_9 ww_1405 d_M_count_80 rfl ?_
          refine MM.iconst ic_0 d_M_count_83 rfl ?_
          refine MM.gI ix_0_5 al_298 d_M_count_84 rfl ?_
          refine MM.goto (tgt := 121) d_M_count_85 rfl ?_
          obtain rfl := Option.some.inj hf
          subst hZ
          exact MM.iret rfl d_M_count_121 ⟨rfl, rfl⟩
      · replace hf := m26 c24
        refine MM.iload_n (i := 1) rfl rfl d_M_count_35 rfl ?_
        refine MM.iconst ic_4 d_M_count_36 rfl ?_
        obtain ⟨m22, m23⟩ := mm_ifE hf
        refine MM.icmp_ne (tgt := 50) d_M_count_37 rfl rfl (fun c21 => ?_) (fun c21 => ?_)
        · replace hf := m23 c21
          refine MM.iload_n (i := 1) rfl rfl d_M_count_50 rfl ?_
          refine MM.iconst ic_5 d_M_count_51 rfl ?_
          obtain ⟨m19, m20⟩ := mm_ifE hf
          refine MM.icmp_ne (tgt := 66) d_M_count_52 rfl rfl (fun c18 => ?_) (fun c18 => ?_)
          · replace hf := m20 c18
            refine MM.aload_n (i := 0) rfl rfl d_M_count_66 rfl ?_
            refine MM.gR 9 32 tg_261 rq_9_42 rfl lays_9 ww_1400 d_M_count_67 rfl ?_
            refine MM.iconst ic_0 d_M_count_70 rfl ?_
            refine MM.gI ix_0_6 al_293 d_M_count_71 rfl ?_
            obtain rfl := Option.some.inj hf
            subst hZ
            exact MM.iret rfl d_M_count_72 ⟨rfl, rfl⟩
          · replace hf := m19 c18
            refine MM.aload_n (i := 0) rfl rfl d_M_count_55 rfl ?_
            refine MM.aload_n (i := 0) rfl rfl d_M_count_56 rfl ?_
            obtain ⟨v15, e14, hf⟩ := mm_bind hf
            refine MM.callV1 (T_M_allSecrets V l  h1 _ e14) (fun _ _ q => q) cal_M_allSecrets rfl tg_261 ct_9 ww_94 ww_1911 ww_1909 (by decide) (by simp [Value.category]) d_M_count_57 rfl ⟨rfl, rfl⟩ rfl ?_
            obtain ⟨v17, e16, hf⟩ := mm_bind hf
            refine MM.callV1 (T_M_worthsOf V l v15 h1 _ e16) (fun _ _ q => q) cal_M_worthsOf rfl tg_261 ct_9 ww_73 ww_1779 ww_1777 (by decide) (by simp [Value.category]) d_M_count_60 rfl ⟨rfl, rfl⟩ rfl ?_
            refine MM.goto (tgt := 72) d_M_count_63 rfl ?_
            obtain rfl := Option.some.inj hf
            subst hZ
            exact MM.iret rfl d_M_count_72 ⟨rfl, rfl⟩
        · replace hf := m22 c21
          refine MM.aload_n (i := 0) rfl rfl d_M_count_40 rfl ?_
          refine MM.gR 9 40 tg_261 rq_9_50 rfl lays_9 ww_1408 d_M_count_41 rfl ?_
          refine MM.bipush bp_85 d_M_count_44 rfl ?_
          refine MM.gI ix_85_123 al_301 d_M_count_46 rfl ?_
          refine MM.goto (tgt := 72) d_M_count_47 rfl ?_
          obtain rfl := Option.some.inj hf
          subst hZ
          exact MM.iret rfl d_M_count_72 ⟨rfl, rfl⟩
    · replace hf := m31 c29
      refine MM.aload_n (i := 0) rfl rfl d_M_count_22 rfl ?_
      refine MM.gR 9 2 tg_261 rq_9_10 rfl lays_9 ww_1368 d_M_count_23 rfl ?_
      refine MM.iload_n (i := 1) rfl rfl d_M_count_26 rfl ?_
      obtain ⟨k27, e28, hf⟩ := mm_bind hf
      refine MM.gI e28 al_263 d_M_count_27 rfl ?_
      obtain rfl := Option.some.inj hf
      subst hZ
      exact MM.iret rfl d_M_count_28 ⟨rfl, rfl⟩
  · replace hf := m33 c32
    refine MM.iconst ic_m1 d_M_count_15 rfl ?_
    obtain rfl := Option.some.inj hf
    subst hZ
    exact MM.iret rfl d_M_count_16 ⟨rfl, rfl⟩
