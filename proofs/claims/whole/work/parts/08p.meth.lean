/-! methods: M_goes, M_finesOfAll, M_allSecrets, M_judged, M_leastOf, M_least, M_payTogether, M_payers, M_plots -/
theorem d_M_goes_0 : decode cX12_goes 0 = .ok (.aload_n 0, 1) := by decide +kernel
theorem d_M_goes_1 : decode cX12_goes 1 = .ok (.getfield 108, 3) := by decide +kernel
theorem d_M_goes_4 : decode cX12_goes 4 = .ok (.iload_n 1, 1) := by decide +kernel
theorem d_M_goes_5 : decode cX12_goes 5 = .ok (.iaload, 1) := by decide +kernel
theorem d_M_goes_6 : decode cX12_goes 6 = .ok (.istore_n 2, 1) := by decide +kernel
theorem d_M_goes_7 : decode cX12_goes 7 = .ok (.aload_n 0, 1) := by decide +kernel
theorem d_M_goes_8 : decode cX12_goes 8 = .ok (.getfield 111, 3) := by decide +kernel
theorem d_M_goes_11 : decode cX12_goes 11 = .ok (.iload_n 1, 1) := by decide +kernel
theorem d_M_goes_12 : decode cX12_goes 12 = .ok (.iaload, 1) := by decide +kernel
theorem d_M_goes_13 : decode cX12_goes 13 = .ok (.istore_n 3, 1) := by decide +kernel
theorem d_M_goes_14 : decode cX12_goes 14 = .ok (.iload_n 2, 1) := by decide +kernel
theorem d_M_goes_15 : decode cX12_goes 15 = .ok (.ifCond .ne 23, 3) := by decide +kernel
theorem d_M_goes_18 : decode cX12_goes 18 = .ok (.aload_n 0, 1) := by decide +kernel
theorem d_M_goes_19 : decode cX12_goes 19 = .ok (.iload_n 3, 1) := by decide +kernel
theorem d_M_goes_20 : decode cX12_goes 20 = .ok (.aload_n 0, 1) := by decide +kernel
theorem d_M_goes_21 : decode cX12_goes 21 = .ok (.getfield 114, 3) := by decide +kernel
theorem d_M_goes_24 : decode cX12_goes 24 = .ok (.iload_n 1, 1) := by decide +kernel
theorem d_M_goes_25 : decode cX12_goes 25 = .ok (.iaload, 1) := by decide +kernel
theorem d_M_goes_26 : decode cX12_goes 26 = .ok (.aload_n 0, 1) := by decide +kernel
theorem d_M_goes_27 : decode cX12_goes 27 = .ok (.getfield 117, 3) := by decide +kernel
theorem d_M_goes_30 : decode cX12_goes 30 = .ok (.iload_n 1, 1) := by decide +kernel
theorem d_M_goes_31 : decode cX12_goes 31 = .ok (.iaload, 1) := by decide +kernel
theorem d_M_goes_32 : decode cX12_goes 32 = .ok (.invokevirtual 464, 3) := by decide +kernel
theorem d_M_goes_35 : decode cX12_goes 35 = .ok (.goto 46, 3) := by decide +kernel
theorem d_M_goes_38 : decode cX12_goes 38 = .ok (.iload_n 2, 1) := by decide +kernel
theorem d_M_goes_39 : decode cX12_goes 39 = .ok (.iconst 1, 1) := by decide +kernel
theorem d_M_goes_40 : decode cX12_goes 40 = .ok (.if_icmp .ne 17, 3) := by decide +kernel
theorem d_M_goes_43 : decode cX12_goes 43 = .ok (.aload_n 0, 1) := by decide +kernel
theorem d_M_goes_44 : decode cX12_goes 44 = .ok (.iload_n 3, 1) := by decide +kernel
theorem d_M_goes_45 : decode cX12_goes 45 = .ok (.aload_n 0, 1) := by decide +kernel
theorem d_M_goes_46 : decode cX12_goes 46 = .ok (.getfield 117, 3) := by decide +kernel
theorem d_M_goes_49 : decode cX12_goes 49 = .ok (.iload_n 1, 1) := by decide +kernel
theorem d_M_goes_50 : decode cX12_goes 50 = .ok (.iaload, 1) := by decide +kernel
theorem d_M_goes_51 : decode cX12_goes 51 = .ok (.invokevirtual 474, 3) := by decide +kernel
theorem d_M_goes_54 : decode cX12_goes 54 = .ok (.goto 27, 3) := by decide +kernel
theorem d_M_goes_57 : decode cX12_goes 57 = .ok (.iload_n 2, 1) := by decide +kernel
theorem d_M_goes_58 : decode cX12_goes 58 = .ok (.iconst 3, 1) := by decide +kernel
theorem d_M_goes_59 : decode cX12_goes 59 = .ok (.if_icmp .eq 17, 3) := by decide +kernel
theorem d_M_goes_62 : decode cX12_goes 62 = .ok (.aload_n 0, 1) := by decide +kernel
theorem d_M_goes_63 : decode cX12_goes 63 = .ok (.getfield 129, 3) := by decide +kernel
theorem d_M_goes_66 : decode cX12_goes 66 = .ok (.bipush 70, 2) := by decide +kernel
theorem d_M_goes_68 : decode cX12_goes 68 = .ok (.iload_n 3, 1) := by decide +kernel
theorem d_M_goes_69 : decode cX12_goes 69 = .ok (.iadd, 1) := by decide +kernel
theorem d_M_goes_70 : decode cX12_goes 70 = .ok (.iaload, 1) := by decide +kernel
theorem d_M_goes_71 : decode cX12_goes 71 = .ok (.bipush 9, 2) := by decide +kernel
theorem d_M_goes_73 : decode cX12_goes 73 = .ok (.if_icmp .ge 7, 3) := by decide +kernel
theorem d_M_goes_76 : decode cX12_goes 76 = .ok (.iconst 1, 1) := by decide +kernel
theorem d_M_goes_77 : decode cX12_goes 77 = .ok (.goto 4, 3) := by decide +kernel
theorem d_M_goes_80 : decode cX12_goes 80 = .ok (.iconst 0, 1) := by decide +kernel
theorem d_M_goes_81 : decode cX12_goes 81 = .ok (.istore 4, 2) := by decide +kernel
theorem d_M_goes_83 : decode cX12_goes 83 = .ok (.iload 4, 2) := by decide +kernel
theorem d_M_goes_85 : decode cX12_goes 85 = .ok (.ifCond .ne 5, 3) := by decide +kernel
theorem d_M_goes_88 : decode cX12_goes 88 = .ok (.iconst 0, 1) := by decide +kernel
theorem d_M_goes_89 : decode cX12_goes 89 = .ok (.ireturn, 1) := by decide +kernel
theorem d_M_goes_90 : decode cX12_goes 90 = .ok (.iload_n 2, 1) := by decide +kernel
theorem d_M_goes_91 : decode cX12_goes 91 = .ok (.ifCond .ne 23, 3) := by decide +kernel
theorem d_M_goes_94 : decode cX12_goes 94 = .ok (.aload_n 0, 1) := by decide +kernel
theorem d_M_goes_95 : decode cX12_goes 95 = .ok (.iload_n 3, 1) := by decide +kernel
theorem d_M_goes_96 : decode cX12_goes 96 = .ok (.aload_n 0, 1) := by decide +kernel
theorem d_M_goes_97 : decode cX12_goes 97 = .ok (.getfield 114, 3) := by decide +kernel
theorem d_M_goes_100 : decode cX12_goes 100 = .ok (.iload_n 1, 1) := by decide +kernel
theorem d_M_goes_101 : decode cX12_goes 101 = .ok (.iaload, 1) := by decide +kernel
theorem d_M_goes_102 : decode cX12_goes 102 = .ok (.aload_n 0, 1) := by decide +kernel
theorem d_M_goes_103 : decode cX12_goes 103 = .ok (.getfield 117, 3) := by decide +kernel
theorem d_M_goes_106 : decode cX12_goes 106 = .ok (.iload_n 1, 1) := by decide +kernel
theorem d_M_goes_107 : decode cX12_goes 107 = .ok (.iaload, 1) := by decide +kernel
theorem d_M_goes_108 : decode cX12_goes 108 = .ok (.invokevirtual 470, 3) := by decide +kernel
theorem d_M_goes_111 : decode cX12_goes 111 = .ok (.goto 48, 3) := by decide +kernel
theorem d_M_goes_114 : decode cX12_goes 114 = .ok (.iload_n 2, 1) := by decide +kernel
theorem d_M_goes_115 : decode cX12_goes 115 = .ok (.iconst 1, 1) := by decide +kernel
theorem d_M_goes_116 : decode cX12_goes 116 = .ok (.if_icmp .ne 17, 3) := by decide +kernel
theorem d_M_goes_119 : decode cX12_goes 119 = .ok (.aload_n 0, 1) := by decide +kernel
theorem d_M_goes_120 : decode cX12_goes 120 = .ok (.iload_n 3, 1) := by decide +kernel
theorem d_M_goes_121 : decode cX12_goes 121 = .ok (.aload_n 0, 1) := by decide +kernel
theorem d_M_goes_122 : decode cX12_goes 122 = .ok (.getfield 117, 3) := by decide +kernel
theorem d_M_goes_125 : decode cX12_goes 125 = .ok (.iload_n 1, 1) := by decide +kernel
theorem d_M_goes_126 : decode cX12_goes 126 = .ok (.iaload, 1) := by decide +kernel
theorem d_M_goes_127 : decode cX12_goes 127 = .ok (.invokevirtual 477, 3) := by decide +kernel
theorem d_M_goes_130 : decode cX12_goes 130 = .ok (.goto 29, 3) := by decide +kernel
theorem d_M_goes_133 : decode cX12_goes 133 = .ok (.iload_n 2, 1) := by decide +kernel
theorem d_M_goes_134 : decode cX12_goes 134 = .ok (.iconst 2, 1) := by decide +kernel
theorem d_M_goes_135 : decode cX12_goes 135 = .ok (.if_icmp .ne 19, 3) := by decide +kernel
theorem d_M_goes_138 : decode cX12_goes 138 = .ok (.aload_n 0, 1) := by decide +kernel
theorem d_M_goes_139 : decode cX12_goes 139 = .ok (.getfield 129, 3) := by decide +kernel
theorem d_M_goes_142 : decode cX12_goes 142 = .ok (.bipush 70, 2) := by decide +kernel
theorem d_M_goes_144 : decode cX12_goes 144 = .ok (.iload_n 3, 1) := by decide +kernel
theorem d_M_goes_145 : decode cX12_goes 145 = .ok (.iadd, 1) := by decide +kernel
theorem d_M_goes_146 : decode cX12_goes 146 = .ok (.dup2, 1) := by decide +kernel
theorem d_M_goes_147 : decode cX12_goes 147 = .ok (.iaload, 1) := by decide +kernel
theorem d_M_goes_148 : decode cX12_goes 148 = .ok (.iconst 1, 1) := by decide +kernel
theorem d_M_goes_149 : decode cX12_goes 149 = .ok (.iadd, 1) := by decide +kernel
theorem d_M_goes_150 : decode cX12_goes 150 = .ok (.iastore, 1) := by decide +kernel
theorem d_M_goes_151 : decode cX12_goes 151 = .ok (.goto 8, 3) := by decide +kernel
theorem d_M_goes_154 : decode cX12_goes 154 = .ok (.aload_n 0, 1) := by decide +kernel
theorem d_M_goes_155 : decode cX12_goes 155 = .ok (.invokevirtual 480, 3) := by decide +kernel
theorem d_M_goes_158 : decode cX12_goes 158 = .ok (.pop, 1) := by decide +kernel
theorem d_M_goes_159 : decode cX12_goes 159 = .ok (.iconst 1, 1) := by decide +kernel
theorem d_M_goes_160 : decode cX12_goes 160 = .ok (.ireturn, 1) := by decide +kernel
noncomputable def f_M_goes (x1 : Int32) (h : mm_H) : Option (Int32 × mm_H) := (mm_ix x1 180).bind fun k1 => mm_let (h.1 294 k1) fun y3 => (mm_ix x1 180).bind fun k5 => mm_let (h.1 295 k5) fun y7 => (if y3 = 0 then ((mm_ix x1 180).bind fun k26 => (mm_ix x1 180).bind fun k28 => (f_M_canTell y7 (h.1 296 k26) (h.1 297 k28) h).bind fun v31 => some (v31, h)) else (if y3 = 1 then ((mm_ix x1 180).bind fun k19 => (f_M_canPay y7 (h.1 297 k19) h).bind fun v22 => some (v22.1, v22.2)) else (if y3 = 3 then (some (1, h)) else ((mm_ix (70 + y7) 123).bind fun k11 => if 9 ≤ (h.1 301 k11) then (some (0, h)) else (some (1, h))))) : Option (Int32 × mm_H)).bind fun j9 => if j9.1 = 0 then (some (0, j9.2)) else (if y3 = 0 then ((mm_ix x1 180).bind fun k53 => (mm_ix x1 180).bind fun k55 => (f_M_tells y7 (j9.2.1 296 k53) (j9.2.1 297 k55) j9.2).bind fun v58 => some (1, v58)) else (if y3 = 1 then ((mm_ix x1 180).bind fun k46 => (f_M_pays y7 (j9.2.1 297 k46) j9.2).bind fun v49 => some (1, v49)) else (if y3 = 2 then ((mm_ix (70 + y7) 123).bind fun k37 => (mm_ix (70 + y7) 123).bind fun k39 => mm_let (mm_pI j9.2 301 k39 ((j9.2.1 301 k37) + 1)) fun h41 => some (1, h41)) else ((f_M_passes j9.2).bind fun v36 => some (1, v36.2)))))
theorem T_M_goes (V : mm_V) (l : Launch) (x1 : Int32) (h : mm_H) (r : (Int32 × mm_H)) (hf : f_M_goes x1 h = some r) : MT V l Y_M_goes 20 [.ref 261, .int x1] (fun r1 h1 => r1 = some (.int r.1) ∧ h1 = r.2) h := by
  unfold f_M_goes at hf
  refine MT.intro (pn_M rfl) [(0, .ref 261), (1, .int x1)] rfl (Nat.le_of_ble_eq_true rfl) ?_
  generalize hZ : mm_Z V _ = Z0
  refine MM.aload_n (i := 0) rfl rfl d_M_goes_0 rfl ?_
  refine MM.gR 9 33 tg_261 rq_9_43 rfl lays_9 ww_1401 d_M_goes_1 rfl ?_
  refine MM.iload_n (i := 1) rfl rfl d_M_goes_4 rfl ?_
  obtain ⟨k1, e2, hf⟩ := mm_bind hf
  refine MM.gI e2 al_294 d_M_goes_5 rfl ?_
  obtain ⟨y3, e4, hf⟩ := mm_letE hf
  refine MM.istore_n (i := 2) (lv' := [(2, .int y3), (0, .ref 261), (1, .int x1)]) e4 rfl (Nat.le_of_ble_eq_true rfl) rfl d_M_goes_6 rfl ?_
  refine MM.aload_n (i := 0) rfl rfl d_M_goes_7 rfl ?_
  refine MM.gR 9 34 tg_261 rq_9_44 rfl lays_9 ww_1402 d_M_goes_8 rfl ?_
  refine MM.iload_n (i := 1) rfl rfl d_M_goes_11 rfl ?_
  obtain ⟨k5, e6, hf⟩ := mm_bind hf
  refine MM.gI e6 al_295 d_M_goes_12 rfl ?_
  obtain ⟨y7, e8, hf⟩ := mm_letE hf
  refine MM.istore_n (i := 3) (lv' := [(3, .int y7), (2, .int y3), (0, .ref 261), (1, .int x1)]) e8 rfl (Nat.le_of_ble_eq_true rfl) rfl d_M_goes_13 rfl ?_
  refine MM.iload_n (i := 2) rfl rfl d_M_goes_14 rfl ?_
  obtain ⟨j9, e65, hf⟩ := mm_bind hf
  have K10 : MM V l Y_M_goes 20 0 0 Z0 81 [(0, .ref 261), (1, .int x1), (2, .int y3), (3, .int y7)] [.int j9.1] j9.2 := by
    refine MM.istore (lv' := [(4, .int j9.1), (0, .ref 261), (1, .int x1), (2, .int y3), (3, .int y7)]) rfl (Nat.le_of_ble_eq_true rfl) rfl d_M_goes_81 rfl ?_
    refine MM.iload rfl d_M_goes_83 rfl ?_
    obtain ⟨m63, m64⟩ := mm_ifE hf
    refine MM.if_ne (tgt := 90) d_M_goes_85 rfl rfl (fun c62 => ?_) (fun c62 => ?_)
    · replace hf := m64 c62
      refine MM.iload_n (i := 2) rfl rfl d_M_goes_90 rfl ?_
      obtain ⟨m60, m61⟩ := mm_ifE hf
      refine MM.if_ne (tgt := 114) d_M_goes_91 rfl rfl (fun c59 => ?_) (fun c59 => ?_)
      · replace hf := m61 c59
        refine MM.iload_n (i := 2) rfl rfl d_M_goes_114 rfl ?_
        refine MM.iconst ic_1 d_M_goes_115 rfl ?_
        obtain ⟨m51, m52⟩ := mm_ifE hf
        refine MM.icmp_ne (tgt := 133) d_M_goes_116 rfl rfl (fun c50 => ?_) (fun c50 => ?_)
        · replace hf := m52 c50
          refine MM.iload_n (i := 2) rfl rfl d_M_goes_133 rfl ?_
          refine MM.iconst ic_2 d_M_goes_134 rfl ?_
          obtain ⟨m44, m45⟩ := mm_ifE hf
          refine MM.icmp_ne (tgt := 154) d_M_goes_135 rfl rfl (fun c43 => ?_) (fun c43 => ?_)
          · replace hf := m45 c43
            refine MM.aload_n (i := 0) rfl rfl d_M_goes_154 rfl ?_
            obtain ⟨v36, e35, hf⟩ := mm_bind hf
            refine MM.callV1 (T_M_passes V l  j9.2 _ e35) (fun _ _ q => q) cal_M_passes rfl tg_261 ct_9 ww_91 ww_1887 ww_1885 (by decide) (by simp [Value.category]) d_M_goes_155 rfl ⟨rfl, rfl⟩ rfl ?_
            refine MM.pop rfl d_M_goes_158 rfl ?_
            refine MM.iconst ic_1 d_M_goes_159 rfl ?_
            obtain rfl := Option.some.inj hf
            subst hZ
            exact MM.zret (Or.inr rfl) rfl d_M_goes_160 ⟨rfl, rfl⟩
          · replace hf := m44 c43
            refine MM.aload_n (i := 0) rfl rfl d_M_goes_138 rfl ?_
            refine MM.gR 9 40 tg_261 rq_9_50 rfl lays_9 ww_1408 d_M_goes_139 rfl ?_
            refine MM.bipush bp_70 d_M_goes_142 rfl ?_
            refine MM.iload_n (i := 3) rfl rfl d_M_goes_144 rfl ?_
            refine MM.iadd d_M_goes_145 rfl ?_
            refine MM.dup2 rfl rfl d_M_goes_146 rfl ?_
            obtain ⟨k37, e38, hf⟩ := mm_bind hf
            refine MM.gI e38 al_301 d_M_goes_147 rfl ?_
            refine MM.iconst ic_1 d_M_goes_148 rfl ?_
            refine MM.iadd d_M_goes_149 rfl ?_
            obtain ⟨k39, e40, hf⟩ := mm_bind hf
            obtain ⟨h41, e42, hf⟩ := mm_letE hf
            refine MM.sI e40 e42 al_301 d_M_goes_150 rfl ?_
            refine MM.goto (tgt := 159) d_M_goes_151 rfl ?_
            refine MM.iconst ic_1 d_M_goes_159 rfl ?_
            obtain rfl := Option.some.inj hf
            subst hZ
            exact MM.zret (Or.inr rfl) rfl d_M_goes_160 ⟨rfl, rfl⟩
        · replace hf := m51 c50
          refine MM.aload_n (i := 0) rfl rfl d_M_goes_119 rfl ?_
          refine MM.iload_n (i := 3) rfl rfl d_M_goes_120 rfl ?_
          refine MM.aload_n (i := 0) rfl rfl d_M_goes_121 rfl ?_
          refine MM.gR 9 36 tg_261 rq_9_46 rfl lays_9 ww_1404 d_M_goes_122 rfl ?_
          refine MM.iload_n (i := 1) rfl rfl d_M_goes_125 rfl ?_
          obtain ⟨k46, e47, hf⟩ := mm_bind hf
          refine MM.gI e47 al_297 d_M_goes_126 rfl ?_
          obtain ⟨v49, e48, hf⟩ := mm_bind hf
          refine MM.callV0 (T_M_pays V l y7 (j9.2.1 297 k46) j9.2 _ e48) (fun _ _ q => q) cal_M_pays rfl tg_261 ct_9 ww_90 ww_1875 ww_1873 (by decide) (by simp [Value.category]) d_M_goes_127 rfl ⟨rfl, rfl⟩ rfl ?_
          refine MM.goto (tgt := 159) d_M_goes_130 rfl ?_
          refine MM.iconst ic_1 d_M_goes_159 rfl ?_
          obtain rfl := Option.some.inj hf
          subst hZ
          exact MM.zret (Or.inr rfl) rfl d_M_goes_160 ⟨rfl, rfl⟩
      · replace hf := m60 c59
        refine MM.aload_n (i := 0) rfl rfl d_M_goes_94 rfl ?_
        refine MM.iload_n (i := 3) rfl rfl d_M_goes_95 rfl ?_
        refine MM.aload_n (i := 0) rfl rfl d_M_goes_96 rfl ?_
        refine MM.gR 9 35 tg_261 rq_9_45 rfl lays_9 ww_1403 d_M_goes_97 rfl ?_
        refine MM.iload_n (i := 1) rfl rfl d_M_goes_100 rfl ?_
        obtain ⟨k53, e54, hf⟩ := mm_bind hf
        refine MM.gI e54 al_296 d_M_goes_101 rfl ?_
        refine MM.aload_n (i := 0) rfl rfl d_M_goes_102 rfl ?_
        refine MM.gR 9 36 tg_261 rq_9_46 rfl lays_9 ww_1404 d_M_goes_103 rfl ?_
        refine MM.iload_n (i := 1) rfl rfl d_M_goes_106 rfl ?_
        obtain ⟨k55, e56, hf⟩ := mm_bind hf
        refine MM.gI e56 al_297 d_M_goes_107 rfl ?_
        obtain ⟨v58, e57, hf⟩ := mm_bind hf
        refine MM.callV0 (T_M_tells V l y7 (j9.2.1 296 k53) (j9.2.1 297 k55) j9.2 _ e57) (fun _ _ q => q) cal_M_tells rfl tg_261 ct_9 ww_88 ww_1863 ww_1861 (by decide) (by simp [Value.category]) d_M_goes_108 rfl ⟨rfl, rfl⟩ rfl ?_
        refine MM.goto (tgt := 159) d_M_goes_111 rfl ?_
        refine MM.iconst ic_1 d_M_goes_159 rfl ?_
        obtain rfl := Option.some.inj hf
        subst hZ
        exact MM.zret (Or.inr rfl) rfl d_M_goes_160 ⟨rfl, rfl⟩
    · replace hf := m63 c62
      refine MM.iconst ic_0 d_M_goes_88 rfl ?_
      obtain rfl := Option.some.inj hf
      subst hZ
      exact MM.zret (Or.inl rfl) rfl d_M_goes_89 ⟨rfl, rfl⟩
  clear hf
  have hf := e65
  clear e65
  obtain ⟨m33, m34⟩ := mm_ifE hf
  refine MM.if_ne (tgt := 38) d_M_goes_15 rfl rfl (fun c32 => ?_) (fun c32 => ?_)
  · replace hf := m34 c32
    refine MM.iload_n (i := 2) rfl rfl d_M_goes_38 rfl ?_
    refine MM.iconst ic_1 d_M_goes_39 rfl ?_
    obtain ⟨m24, m25⟩ := mm_ifE hf
    refine MM.icmp_ne (tgt := 57) d_M_goes_40 rfl rfl (fun c23 => ?_) (fun c23 => ?_)
    · replace hf := m25 c23
      refine MM.iload_n (i := 2) rfl rfl d_M_goes_57 rfl ?_
      refine MM.iconst ic_3 d_M_goes_58 rfl ?_
      obtain ⟨m17, m18⟩ := mm_ifE hf
      refine MM.icmp_eq (tgt := 76) d_M_goes_59 rfl rfl (fun c16 => ?_) (fun c16 => ?_)
      · replace hf := m17 c16
        refine MM.iconst ic_1 d_M_goes_76 rfl ?_
        refine MM.goto (tgt := 81) d_M_goes_77 rfl ?_
        obtain rfl := Option.some.inj hf
        exact MM.sub [2, 3, 1, 0] (by rfl) K10
      · replace hf := m18 c16
        refine MM.aload_n (i := 0) rfl rfl d_M_goes_62 rfl ?_
        refine MM.gR 9 40 tg_261 rq_9_50 rfl lays_9 ww_1408 d_M_goes_63 rfl ?_
        refine MM.bipush bp_70 d_M_goes_66 rfl ?_
        refine MM.iload_n (i := 3) rfl rfl d_M_goes_68 rfl ?_
        refine MM.iadd d_M_goes_69 rfl ?_
        obtain ⟨k11, e12, hf⟩ := mm_bind hf
        refine MM.gI e12 al_301 d_M_goes_70 rfl ?_
        refine MM.bipush bp_9 d_M_goes_71 rfl ?_
        obtain ⟨m14, m15⟩ := mm_ifE hf
        refine MM.icmp_ge (tgt := 80) d_M_goes_73 rfl rfl (fun c13 => ?_) (fun c13 => ?_)
        · replace hf := m14 c13
          refine MM.iconst ic_0 d_M_goes_80 rfl ?_
          obtain rfl := Option.some.inj hf
          exact MM.sub [2, 3, 1, 0] (by rfl) K10
        · replace hf := m15 c13
          refine MM.iconst ic_1 d_M_goes_76 rfl ?_
          refine MM.goto (tgt := 81) d_M_goes_77 rfl ?_
          obtain rfl := Option.some.inj hf
          exact MM.sub [2, 3, 1, 0] (by rfl) K10
    · replace hf := m24 c23
      refine MM.aload_n (i := 0) rfl rfl d_M_goes_43 rfl ?_
      refine MM.iload_n (i := 3) rfl rfl d_M_goes_44 rfl ?_
      refine MM.aload_n (i := 0) rfl rfl d_M_goes_45 rfl ?_
      refine MM.gR 9 36 tg_261 rq_9_46 rfl lays_9 ww_1404 d_M_goes_46 rfl ?_
      refine MM.iload_n (i := 1) rfl rfl d_M_goes_49 rfl ?_
      obtain ⟨k19, e20, hf⟩ := mm_bind hf
      refine MM.gI e20 al_297 d_M_goes_50 rfl ?_
      obtain ⟨v22, e21, hf⟩ := mm_bind hf
      refine MM.callV1 (T_M_canPay V l y7 (h.1 297 k19) h _ e21) (fun _ _ q => q) cal_M_canPay rfl tg_261 ct_9 ww_89 ww_1871 ww_1869 (by decide) (by simp [Value.category]) d_M_goes_51 rfl ⟨rfl, rfl⟩ rfl ?_
      refine MM.goto (tgt := 81) d_M_goes_54 rfl ?_
      obtain rfl := Option.some.inj hf
      exact MM.sub [2, 3, 1, 0] (by rfl) K10
  · replace hf := m33 c32
    refine MM.aload_n (i := 0) rfl rfl d_M_goes_18 rfl ?_
    refine MM.iload_n (i := 3) rfl rfl d_M_goes_19 rfl ?_
    refine MM.aload_n (i := 0) rfl rfl d_M_goes_20 rfl ?_
    refine MM.gR 9 35 tg_261 rq_9_45 rfl lays_9 ww_1403 d_M_goes_21 rfl ?_
    refine MM.iload_n (i := 1) rfl rfl d_M_goes_24 rfl ?_
    obtain ⟨k26, e27, hf⟩ := mm_bind hf
    refine MM.gI e27 al_296 d_M_goes_25 rfl ?_
    refine MM.aload_n (i := 0) rfl rfl d_M_goes_26 rfl ?_
    refine MM.gR 9 36 tg_261 rq_9_46 rfl lays_9 ww_1404 d_M_goes_27 rfl ?_
    refine MM.iload_n (i := 1) rfl rfl d_M_goes_30 rfl ?_
    obtain ⟨k28, e29, hf⟩ := mm_bind hf
    refine MM.gI e29 al_297 d_M_goes_31 rfl ?_
    obtain ⟨v31, e30, hf⟩ := mm_bind hf
    refine MM.callV1 (T_M_canTell V l y7 (h.1 296 k26) (h.1 297 k28) h _ e30) (fun _ _ q => q) cal_M_canTell rfl tg_261 ct_9 ww_85 ww_1848 ww_1846 (by decide) (by simp [Value.category]) d_M_goes_32 rfl ⟨rfl, rfl⟩ rfl ?_
    refine MM.goto (tgt := 81) d_M_goes_35 rfl ?_
    obtain rfl := Option.some.inj hf
    exact MM.sub [2, 3, 1, 0] (by rfl) K10
theorem d_M_finesOfAll_0 : decode cX12_finesOfAll 0 = .ok (.iconst 0, 1) := by decide +kernel
theorem d_M_finesOfAll_1 : decode cX12_finesOfAll 1 = .ok (.istore_n 1, 1) := by decide +kernel
theorem d_M_finesOfAll_2 : decode cX12_finesOfAll 2 = .ok (.iconst 0, 1) := by decide +kernel
theorem d_M_finesOfAll_3 : decode cX12_finesOfAll 3 = .ok (.istore_n 2, 1) := by decide +kernel
theorem d_M_finesOfAll_4 : decode cX12_finesOfAll 4 = .ok (.iload_n 2, 1) := by decide +kernel
theorem d_M_finesOfAll_5 : decode cX12_finesOfAll 5 = .ok (.bipush 6, 2) := by decide +kernel
theorem d_M_finesOfAll_7 : decode cX12_finesOfAll 7 = .ok (.if_icmp .ge 21, 3) := by decide +kernel
theorem d_M_finesOfAll_10 : decode cX12_finesOfAll 10 = .ok (.iload_n 1, 1) := by decide +kernel
theorem d_M_finesOfAll_11 : decode cX12_finesOfAll 11 = .ok (.aload_n 0, 1) := by decide +kernel
theorem d_M_finesOfAll_12 : decode cX12_finesOfAll 12 = .ok (.getfield 129, 3) := by decide +kernel
theorem d_M_finesOfAll_15 : decode cX12_finesOfAll 15 = .ok (.bipush 79, 2) := by decide +kernel
theorem d_M_finesOfAll_17 : decode cX12_finesOfAll 17 = .ok (.iload_n 2, 1) := by decide +kernel
theorem d_M_finesOfAll_18 : decode cX12_finesOfAll 18 = .ok (.iadd, 1) := by decide +kernel
theorem d_M_finesOfAll_19 : decode cX12_finesOfAll 19 = .ok (.iaload, 1) := by decide +kernel
theorem d_M_finesOfAll_20 : decode cX12_finesOfAll 20 = .ok (.iadd, 1) := by decide +kernel
theorem d_M_finesOfAll_21 : decode cX12_finesOfAll 21 = .ok (.istore_n 1, 1) := by decide +kernel
theorem d_M_finesOfAll_22 : decode cX12_finesOfAll 22 = .ok (.iinc 2 1, 3) := by decide +kernel
theorem d_M_finesOfAll_25 : decode cX12_finesOfAll 25 = .ok (.goto (-21), 3) := by decide +kernel
theorem d_M_finesOfAll_28 : decode cX12_finesOfAll 28 = .ok (.iload_n 1, 1) := by decide +kernel
theorem d_M_finesOfAll_29 : decode cX12_finesOfAll 29 = .ok (.ireturn, 1) := by decide +kernel
noncomputable def f_M_finesOfAll (h : mm_H) : Option Int32 := (mm_while (σ := (Int32 × Int32)) (ρ := Int32) (fun s1 => if 6 ≤ s1.2 then (some (Sum.inr s1.1)) else ((mm_ix (79 + s1.2) 123).bind fun k7 => mm_let (s1.1 + (h.1 301 k7)) fun y9 => mm_let (s1.2 + 1) fun y11 => some (Sum.inl (y9, y11)))) (0, 0)).bind fun v4 => some v4
theorem T_M_finesOfAll (V : mm_V) (l : Launch) (h : mm_H) (r : Int32) (hf : f_M_finesOfAll h = some r) : MT V l Y_M_finesOfAll 1 [.ref 261] (fun r1 h1 => r1 = some (.int r) ∧ h1 = h) h := by
  unfold f_M_finesOfAll at hf
  refine MT.intro (pn_M rfl) [(0, .ref 261)] rfl (Nat.le_of_ble_eq_true rfl) ?_
  generalize hZ : mm_Z V _ = Z0
  refine MM.iconst ic_0 d_M_finesOfAll_0 rfl ?_
  refine MM.istore_n (i := 1) (lv' := [(1, .int 0), (0, .ref 261)]) rfl rfl (Nat.le_of_ble_eq_true rfl) rfl d_M_finesOfAll_1 rfl ?_
  refine MM.iconst ic_0 d_M_finesOfAll_2 rfl ?_
  refine MM.istore_n (i := 2) (lv' := [(2, .int 0), (1, .int 0), (0, .ref 261)]) rfl rfl (Nat.le_of_ble_eq_true rfl) rfl d_M_finesOfAll_3 rfl ?_
  obtain ⟨v4, e6, hf⟩ := mm_bind hf
  have K5 : MM V l Y_M_finesOfAll 1 0 0 Z0 28 [(1, .int v4)] [] h := by
    refine MM.iload_n (i := 1) rfl rfl d_M_finesOfAll_28 rfl ?_
    obtain rfl := Option.some.inj hf
    subst hZ
    exact MM.iret rfl d_M_finesOfAll_29 ⟨rfl, rfl⟩
  clear hf
  refine MM.sub [2, 1, 0] (by rfl) (mm_while_ind (fun s1 => MM V l Y_M_finesOfAll 1 0 0 Z0 4 [(0, .ref 261), (1, .int s1.1), (2, .int s1.2)] [] h) e6 (fun s1 q2 hf hx3 => ?_))
  refine MM.iload_n (i := 2) rfl rfl d_M_finesOfAll_4 rfl ?_
  refine MM.bipush bp_6 d_M_finesOfAll_5 rfl ?_
  obtain ⟨m14, m15⟩ := mm_ifE hf
  refine MM.icmp_ge (tgt := 28) d_M_finesOfAll_7 rfl rfl (fun c13 => ?_) (fun c13 => ?_)
  · replace hf := m14 c13
    obtain rfl := Option.some.inj hf
    obtain rfl := Option.some.inj (mm_wxR hx3)
    exact MM.sub [1] (by rfl) K5
  · replace hf := m15 c13
    refine MM.iload_n (i := 1) rfl rfl d_M_finesOfAll_10 rfl ?_
    refine MM.aload_n (i := 0) rfl rfl d_M_finesOfAll_11 rfl ?_
    refine MM.gR 9 40 tg_261 rq_9_50 rfl lays_9 ww_1408 d_M_finesOfAll_12 rfl ?_
    refine MM.bipush bp_79 d_M_finesOfAll_15 rfl ?_
    refine MM.iload_n (i := 2) rfl rfl d_M_finesOfAll_17 rfl ?_
    refine MM.iadd d_M_finesOfAll_18 rfl ?_
    obtain ⟨k7, e8, hf⟩ := mm_bind hf
    refine MM.gI e8 al_301 d_M_finesOfAll_19 rfl ?_
    refine MM.iadd d_M_finesOfAll_20 rfl ?_
    obtain ⟨y9, e10, hf⟩ := mm_letE hf
    refine MM.istore_n (i := 1) (lv' := [(1, .int y9), (0, .ref 261), (2, .int s1.2)]) e10 rfl (Nat.le_of_ble_eq_true rfl) rfl d_M_finesOfAll_21 rfl ?_
    obtain ⟨y11, e12, hf⟩ := mm_letE hf
    refine MM.iinc (k0 := 2) (lv' := [(2, .int y11), (1, .int y9), (0, .ref 261)]) (by rw [ic_1]; exact e12) rfl (Nat.le_of_ble_eq_true rfl) rfl d_M_finesOfAll_22 rfl ?_
    refine MM.goto (tgt := 4) d_M_finesOfAll_25 rfl ?_
    obtain rfl := Option.some.inj hf
    have h9 := mm_wxL hx3
    exact MM.sub [2, 1, 0] (by rfl) h9
theorem d_M_allSecrets_0 : decode cX12_allSecrets 0 = .ok (.iconst 1, 1) := by decide +kernel
theorem d_M_allSecrets_1 : decode cX12_allSecrets 1 = .ok (.aload_n 0, 1) := by decide +kernel
theorem d_M_allSecrets_2 : decode cX12_allSecrets 2 = .ok (.getfield 13, 3) := by decide +kernel
theorem d_M_allSecrets_5 : decode cX12_allSecrets 5 = .ok (.iconst 1, 1) := by decide +kernel
theorem d_M_allSecrets_6 : decode cX12_allSecrets 6 = .ok (.iaload, 1) := by decide +kernel
theorem d_M_allSecrets_7 : decode cX12_allSecrets 7 = .ok (.ishl, 1) := by decide +kernel
theorem d_M_allSecrets_8 : decode cX12_allSecrets 8 = .ok (.iconst 1, 1) := by decide +kernel
theorem d_M_allSecrets_9 : decode cX12_allSecrets 9 = .ok (.isub, 1) := by decide +kernel
theorem d_M_allSecrets_10 : decode cX12_allSecrets 10 = .ok (.ireturn, 1) := by decide +kernel
noncomputable def f_M_allSecrets (h : mm_H) : Option Int32 := some (((1 : Int32) <<< ((h.1 263 1) &&& 31)) - 1)
theorem T_M_allSecrets (V : mm_V) (l : Launch) (h : mm_H) (r : Int32) (hf : f_M_allSecrets h = some r) : MT V l Y_M_allSecrets 1 [.ref 261] (fun r1 h1 => r1 = some (.int r) ∧ h1 = h) h := by
  unfold f_M_allSecrets at hf
  refine MT.intro (pn_M rfl) [(0, .ref 261)] rfl (Nat.le_of_ble_eq_true rfl) ?_
  generalize hZ : mm_Z V _ = Z0
  refine MM.iconst ic_1 d_M_allSecrets_0 rfl ?_
  refine MM.aload_n (i := 0) rfl rfl d_M_allSecrets_1 rfl ?_
  refine MM.gR 9 2 tg_261 rq_9_10 rfl lays_9 ww_1368 d_M_allSecrets_2 rfl ?_
  refine MM.iconst ic_1 d_M_allSecrets_5 rfl ?_
  refine MM.gI ix_1_8 al_263 d_M_allSecrets_6 rfl ?_
  refine MM.ishl d_M_allSecrets_7 rfl ?_
  refine MM.iconst ic_1 d_M_allSecrets_8 rfl ?_
  refine MM.isub d_M_allSecrets_9 rfl ?_
  obtain rfl := Option.some.inj hf
  subst hZ
  exact MM.iret rfl d_M_allSecrets_10 ⟨rfl, rfl⟩
theorem d_M_judged_0 : decode cX12_judged 0 = .ok (.aload_n 0, 1) := by decide +kernel
theorem d_M_judged_1 : decode cX12_judged 1 = .ok (.iconst 0, 1) := by decide +kernel
theorem d_M_judged_2 : decode cX12_judged 2 = .ok (.putfield 175, 3) := by decide +kernel
theorem d_M_judged_5 : decode cX12_judged 5 = .ok (.iload_n 1, 1) := by decide +kernel
theorem d_M_judged_6 : decode cX12_judged 6 = .ok (.iconst 0, 1) := by decide +kernel
theorem d_M_judged_7 : decode cX12_judged 7 = .ok (.iconst 2, 1) := by decide +kernel
theorem d_M_judged_8 : decode cX12_judged 8 = .ok (.invokestatic 308, 3) := by decide +kernel
theorem d_M_judged_11 : decode cX12_judged 11 = .ok (.ifCond .ne 6, 3) := by decide +kernel
theorem d_M_judged_14 : decode cX12_judged 14 = .ok (.bipush (-2), 2) := by decide +kernel
theorem d_M_judged_16 : decode cX12_judged 16 = .ok (.ireturn, 1) := by decide +kernel
theorem d_M_judged_17 : decode cX12_judged 17 = .ok (.aload_n 0, 1) := by decide +kernel
theorem d_M_judged_18 : decode cX12_judged 18 = .ok (.getfield 129, 3) := by decide +kernel
theorem d_M_judged_21 : decode cX12_judged 21 = .ok (.iconst 0, 1) := by decide +kernel
theorem d_M_judged_22 : decode cX12_judged 22 = .ok (.aload_n 0, 1) := by decide +kernel
theorem d_M_judged_23 : decode cX12_judged 23 = .ok (.getfield 132, 3) := by decide +kernel
theorem d_M_judged_26 : decode cX12_judged 26 = .ok (.iconst 0, 1) := by decide +kernel
theorem d_M_judged_27 : decode cX12_judged 27 = .ok (.invokestatic 457, 3) := by decide +kernel
theorem d_M_judged_30 : decode cX12_judged 30 = .ok (.aload_n 0, 1) := by decide +kernel
theorem d_M_judged_31 : decode cX12_judged 31 = .ok (.invokevirtual 395, 3) := by decide +kernel
theorem d_M_judged_34 : decode cX12_judged 34 = .ok (.iconst (-1), 1) := by decide +kernel
theorem d_M_judged_35 : decode cX12_judged 35 = .ok (.istore_n 2, 1) := by decide +kernel
theorem d_M_judged_36 : decode cX12_judged 36 = .ok (.iconst 0, 1) := by decide +kernel
theorem d_M_judged_37 : decode cX12_judged 37 = .ok (.istore_n 3, 1) := by decide +kernel
theorem d_M_judged_38 : decode cX12_judged 38 = .ok (.iload_n 3, 1) := by decide +kernel
theorem d_M_judged_39 : decode cX12_judged 39 = .ok (.aload_n 0, 1) := by decide +kernel
theorem d_M_judged_40 : decode cX12_judged 40 = .ok (.getfield 105, 3) := by decide +kernel
theorem d_M_judged_43 : decode cX12_judged 43 = .ok (.iconst 0, 1) := by decide +kernel
theorem d_M_judged_44 : decode cX12_judged 44 = .ok (.iaload, 1) := by decide +kernel
theorem d_M_judged_45 : decode cX12_judged 45 = .ok (.if_icmp .ge 23, 3) := by decide +kernel
theorem d_M_judged_48 : decode cX12_judged 48 = .ok (.aload_n 0, 1) := by decide +kernel
theorem d_M_judged_49 : decode cX12_judged 49 = .ok (.iload_n 3, 1) := by decide +kernel
theorem d_M_judged_50 : decode cX12_judged 50 = .ok (.invokevirtual 483, 3) := by decide +kernel
theorem d_M_judged_53 : decode cX12_judged 53 = .ok (.ifCond .ne 9, 3) := by decide +kernel
theorem d_M_judged_56 : decode cX12_judged 56 = .ok (.iload_n 2, 1) := by decide +kernel
theorem d_M_judged_57 : decode cX12_judged 57 = .ok (.ifCond .ge 5, 3) := by decide +kernel
theorem d_M_judged_60 : decode cX12_judged 60 = .ok (.iload_n 3, 1) := by decide +kernel
theorem d_M_judged_61 : decode cX12_judged 61 = .ok (.istore_n 2, 1) := by decide +kernel
theorem d_M_judged_62 : decode cX12_judged 62 = .ok (.iinc 3 1, 3) := by decide +kernel
theorem d_M_judged_65 : decode cX12_judged 65 = .ok (.goto (-27), 3) := by decide +kernel
theorem d_M_judged_68 : decode cX12_judged 68 = .ok (.iload_n 1, 1) := by decide +kernel
theorem d_M_judged_69 : decode cX12_judged 69 = .ok (.ifCond .ne 7, 3) := by decide +kernel
theorem d_M_judged_72 : decode cX12_judged 72 = .ok (.iload_n 2, 1) := by decide +kernel
theorem d_M_judged_73 : decode cX12_judged 73 = .ok (.goto 23, 3) := by decide +kernel
theorem d_M_judged_76 : decode cX12_judged 76 = .ok (.iload_n 1, 1) := by decide +kernel
theorem d_M_judged_77 : decode cX12_judged 77 = .ok (.iconst 1, 1) := by decide +kernel
theorem d_M_judged_78 : decode cX12_judged 78 = .ok (.if_icmp .ne 10, 3) := by decide +kernel
theorem d_M_judged_81 : decode cX12_judged 81 = .ok (.aload_n 0, 1) := by decide +kernel
theorem d_M_judged_82 : decode cX12_judged 82 = .ok (.invokevirtual 486, 3) := by decide +kernel
theorem d_M_judged_85 : decode cX12_judged 85 = .ok (.goto 11, 3) := by decide +kernel
theorem d_M_judged_88 : decode cX12_judged 88 = .ok (.aload_n 0, 1) := by decide +kernel
theorem d_M_judged_89 : decode cX12_judged 89 = .ok (.aload_n 0, 1) := by decide +kernel
theorem d_M_judged_90 : decode cX12_judged 90 = .ok (.invokevirtual 489, 3) := by decide +kernel
theorem d_M_judged_93 : decode cX12_judged 93 = .ok (.invokevirtual 433, 3) := by decide +kernel
theorem d_M_judged_96 : decode cX12_judged 96 = .ok (.istore_n 3, 1) := by decide +kernel
theorem d_M_judged_97 : decode cX12_judged 97 = .ok (.aload_n 0, 1) := by decide +kernel
theorem d_M_judged_98 : decode cX12_judged 98 = .ok (.getfield 132, 3) := by decide +kernel
theorem d_M_judged_101 : decode cX12_judged 101 = .ok (.iconst 0, 1) := by decide +kernel
theorem d_M_judged_102 : decode cX12_judged 102 = .ok (.aload_n 0, 1) := by decide +kernel
theorem d_M_judged_103 : decode cX12_judged 103 = .ok (.getfield 129, 3) := by decide +kernel
theorem d_M_judged_106 : decode cX12_judged 106 = .ok (.iconst 0, 1) := by decide +kernel
theorem d_M_judged_107 : decode cX12_judged 107 = .ok (.invokestatic 457, 3) := by decide +kernel
theorem d_M_judged_110 : decode cX12_judged 110 = .ok (.iload_n 3, 1) := by decide +kernel
theorem d_M_judged_111 : decode cX12_judged 111 = .ok (.ireturn, 1) := by decide +kernel
noncomputable def f_M_judged (x1 : Int32) (h : mm_H) : Option (Int32 × mm_H) := mm_let (mm_pI h 261 0 0) fun h1 => (f_M_within x1 0 2).bind fun v4 => if v4 = 0 then (some ((-2), h1)) else ((f_M_copies 301 0 302 0 h1).bind fun v6 => (f_M_fresh v6).bind fun v8 => (mm_while (σ := (Int32 × Int32 × mm_H)) (ρ := (Int32 × mm_H)) (fun s9 => if (s9.2.2.1 293 0) ≤ s9.2.1 then (some (Sum.inr (s9.1, s9.2.2))) else ((f_M_goes s9.2.1 s9.2.2).bind fun v16 => (if v16.1 = 0 then (if 0 ≤ s9.1 then (some s9.1) else (some s9.2.1)) else (some s9.1) : Option Int32).bind fun j17 => mm_let (s9.2.1 + 1) fun y25 => some (Sum.inl (j17, y25, v16.2)))) ((-1), 0, v8)).bind fun v12 => (if x1 = 0 then (some (v12.1, v12.2)) else (if x1 = 1 then ((f_M_finesOfAll v12.2).bind fun v38 => some (v38, v12.2)) else ((f_M_allSecrets v12.2).bind fun v34 => (f_M_worthsOf v34 v12.2).bind fun v36 => some (v36.1, v36.2))) : Option (Int32 × mm_H)).bind fun j31 => (f_M_copies 302 0 301 0 j31.2).bind fun v46 => some (j31.1, v46))
theorem T_M_judged (V : mm_V) (l : Launch) (x1 : Int32) (h : mm_H) (r : (Int32 × mm_H)) (hf : f_M_judged x1 h = some r) : MT V l Y_M_judged 21 [.ref 261, .int x1] (fun r1 h1 => r1 = some (.int r.1) ∧ h1 = r.2) h := by
  unfold f_M_judged at hf
  refine MT.intro (pn_M rfl) [(0, .ref 261), (1, .int x1)] rfl (Nat.le_of_ble_eq_true rfl) ?_
  generalize hZ : mm_Z V _ = Z0
  refine MM.aload_n (i := 0) rfl rfl d_M_judged_0 rfl ?_
  refine MM.iconst ic_0 d_M_judged_1 rfl ?_
  obtain ⟨h1, e2, hf⟩ := mm_letE hf
  refine MM.putI e2 9 tg_261 lays_9 toks_9 pq_9_0 ww_1358 d_M_judged_2 rfl ?_
  refine MM.iload_n (i := 1) rfl rfl d_M_judged_5 rfl ?_
  refine MM.iconst ic_0 d_M_judged_6 rfl ?_
  refine MM.iconst ic_2 d_M_judged_7 rfl ?_
  obtain ⟨v4, e3, hf⟩ := mm_bind hf
  refine MM.callS1 (T_M_within V l x1 0 2 h1 _ e3) (fun _ _ q => q) cal_M_within rfl ww_1669 ww_1668 (by decide) (by simp [Value.category]) d_M_judged_8 rfl ⟨rfl, rfl⟩ rfl ?_
  obtain ⟨m49, m50⟩ := mm_ifE hf
  refine MM.if_ne (tgt := 17) d_M_judged_11 rfl rfl (fun c48 => ?_) (fun c48 => ?_)
  · replace hf := m50 c48
    refine MM.aload_n (i := 0) rfl rfl d_M_judged_17 rfl ?_
    refine MM.gR 9 40 tg_261 rq_9_50 rfl lays_9 ww_1408 d_M_judged_18 rfl ?_
    refine MM.iconst ic_0 d_M_judged_21 rfl ?_
    refine MM.aload_n (i := 0) rfl rfl d_M_judged_22 rfl ?_
    refine MM.gR 9 41 tg_261 rq_9_51 rfl lays_9 ww_1409 d_M_judged_23 rfl ?_
    refine MM.iconst ic_0 d_M_judged_26 rfl ?_
    obtain ⟨v6, e5, hf⟩ := mm_bind hf
    refine MM.callS0 (T_M_copies V l 301 0 302 0 h1 _ e5) (fun _ _ q => q) cal_M_copies rfl ww_1859 ww_1858 (by decide) (by simp [Value.category]) d_M_judged_27 rfl ⟨rfl, rfl⟩ rfl ?_
    refine MM.aload_n (i := 0) rfl rfl d_M_judged_30 rfl ?_
    obtain ⟨v8, e7, hf⟩ := mm_bind hf
    refine MM.callV0 (T_M_fresh V l  v6 _ e7) (fun _ _ q => q) cal_M_fresh rfl tg_261 ct_9 ww_64 ww_1735 ww_1733 (by decide) (by simp [Value.category]) d_M_judged_31 rfl ⟨rfl, rfl⟩ rfl ?_
    refine MM.iconst ic_m1 d_M_judged_34 rfl ?_
    refine MM.istore_n (i := 2) (lv' := [(2, .int (-1)), (0, .ref 261), (1, .int x1)]) rfl rfl (Nat.le_of_ble_eq_true rfl) rfl d_M_judged_35 rfl ?_
    refine MM.iconst ic_0 d_M_judged_36 rfl ?_
    refine MM.istore_n (i := 3) (lv' := [(3, .int 0), (2, .int (-1)), (0, .ref 261), (1, .int x1)]) rfl rfl (Nat.le_of_ble_eq_true rfl) rfl d_M_judged_37 rfl ?_
    obtain ⟨v12, e14, hf⟩ := mm_bind hf
    have K13 : MM V l Y_M_judged 21 0 0 Z0 68 [(0, .ref 261), (1, .int x1), (2, .int v12.1)] [] v12.2 := by
      refine MM.iload_n (i := 1) rfl rfl d_M_judged_68 rfl ?_
      obtain ⟨j31, e47, hf⟩ := mm_bind hf
      have K32 : MM V l Y_M_judged 21 0 0 Z0 96 [(0, .ref 261)] [.int j31.1] j31.2 := by
        refine MM.istore_n (i := 3) (lv' := [(3, .int j31.1), (0, .ref 261)]) rfl rfl (Nat.le_of_ble_eq_true rfl) rfl d_M_judged_96 rfl ?_
        refine MM.aload_n (i := 0) rfl rfl d_M_judged_97 rfl ?_
        refine MM.gR 9 41 tg_261 rq_9_51 rfl lays_9 ww_1409 d_M_judged_98 rfl ?_
        refine MM.iconst ic_0 d_M_judged_101 rfl ?_
        refine MM.aload_n (i := 0) rfl rfl d_M_judged_102 rfl ?_
        refine MM.gR 9 40 tg_261 rq_9_50 rfl lays_9 ww_1408 d_M_judged_103 rfl ?_
        refine MM.iconst ic_0 d_M_judged_106 rfl ?_
        obtain ⟨v46, e45, hf⟩ := mm_bind hf
        refine MM.callS0 (T_M_copies V l 302 0 301 0 j31.2 _ e45) (fun _ _ q => q) cal_M_copies rfl ww_1859 ww_1858 (by decide) (by simp [Value.category]) d_M_judged_107 rfl ⟨rfl, rfl⟩ rfl ?_
        refine MM.iload_n (i := 3) rfl rfl d_M_judged_110 rfl ?_
        obtain rfl := Option.some.inj hf
        subst hZ
        exact MM.iret rfl d_M_judged_111 ⟨rfl, rfl⟩
      clear hf
      have hf := e47
      clear e47
      obtain ⟨m43, m44⟩ := mm_ifE hf
      refine MM.if_ne (tgt := 76) d_M_judged_69 rfl rfl (fun c42 => ?_) (fun c42 => ?_)
      · replace hf := m44 c42
        refine MM.iload_n (i := 1) rfl rfl d_M_judged_76 rfl ?_
        refine MM.iconst ic_1 d_M_judged_77 rfl ?_
        obtain ⟨m40, m41⟩ := mm_ifE hf
        refine MM.icmp_ne (tgt := 88) d_M_judged_78 rfl rfl (fun c39 => ?_) (fun c39 => ?_)
        · replace hf := m41 c39
          refine MM.aload_n (i := 0) rfl rfl d_M_judged_88 rfl ?_
          refine MM.aload_n (i := 0) rfl rfl d_M_judged_89 rfl ?_
          obtain ⟨v34, e33, hf⟩ := mm_bind hf
          refine MM.callV1 (T_M_allSecrets V l  v12.2 _ e33) (fun _ _ q => q) cal_M_allSecrets rfl tg_261 ct_9 ww_94 ww_1911 ww_1909 (by decide) (by simp [Value.category]) d_M_judged_90 rfl ⟨rfl, rfl⟩ rfl ?_
          obtain ⟨v36, e35, hf⟩ := mm_bind hf
          refine MM.callV1 (T_M_worthsOf V l v34 v12.2 _ e35) (fun _ _ q => q) cal_M_worthsOf rfl tg_261 ct_9 ww_73 ww_1779 ww_1777 (by decide) (by simp [Value.category]) d_M_judged_93 rfl ⟨rfl, rfl⟩ rfl ?_
          obtain rfl := Option.some.inj hf
          exact MM.sub [0] (by rfl) K32
        · replace hf := m40 c39
          refine MM.aload_n (i := 0) rfl rfl d_M_judged_81 rfl ?_
          obtain ⟨v38, e37, hf⟩ := mm_bind hf
          refine MM.callV1 (T_M_finesOfAll V l  v12.2 _ e37) (fun _ _ q => q) cal_M_finesOfAll rfl tg_261 ct_9 ww_93 ww_1907 ww_1905 (by decide) (by simp [Value.category]) d_M_judged_82 rfl ⟨rfl, rfl⟩ rfl ?_
          refine MM.goto (tgt := 96) d_M_judged_85 rfl ?_
          obtain rfl := Option.some.inj hf
          exact MM.sub [0] (by rfl) K32
      · replace hf := m43 c42
        refine MM.iload_n (i := 2) rfl rfl d_M_judged_72 rfl ?_
        refine MM.goto (tgt := 96) d_M_judged_73 rfl ?_
        obtain rfl := Option.some.inj hf
        exact MM.sub [0] (by rfl) K32
    clear hf
    refine MM.sub [2, 3, 1, 0] (by rfl) (mm_while_ind (fun s9 => MM V l Y_M_judged 21 0 0 Z0 38 [(0, .ref 261), (1, .int x1), (2, .int s9.1), (3, .int s9.2.1)] [] s9.2.2) e14 (fun s9 q10 hf hx11 => ?_))
    refine MM.iload_n (i := 3) rfl rfl d_M_judged_38 rfl ?_
    refine MM.aload_n (i := 0) rfl rfl d_M_judged_39 rfl ?_
    refine MM.gR 9 32 tg_261 rq_9_42 rfl lays_9 ww_1400 d_M_judged_40 rfl ?_
    refine MM.iconst ic_0 d_M_judged_43 rfl ?_
    refine MM.gI ix_0_6 al_293 d_M_judged_44 rfl ?_
    obtain ⟨m29, m30⟩ := mm_ifE hf
    refine MM.icmp_ge (tgt := 68) d_M_judged_45 rfl rfl (fun c28 => ?_) (fun c28 => ?_)
    · replace hf := m29 c28
      obtain rfl := Option.some.inj hf
      obtain rfl := Option.some.inj (mm_wxR hx11)
      exact MM.sub [0, 1, 2] (by rfl) K13
    · replace hf := m30 c28
      refine MM.aload_n (i := 0) rfl rfl d_M_judged_48 rfl ?_
      refine MM.iload_n (i := 3) rfl rfl d_M_judged_49 rfl ?_
      obtain ⟨v16, e15, hf⟩ := mm_bind hf
      refine MM.callV1 (T_M_goes V l s9.2.1 s9.2.2 _ e15) (fun _ _ q => q) cal_M_goes rfl tg_261 ct_9 ww_92 ww_1903 ww_1901 (by decide) (by simp [Value.category]) d_M_judged_50 rfl ⟨rfl, rfl⟩ rfl ?_
      obtain ⟨j17, e27, hf⟩ := mm_bind hf
      have K18 : MM V l Y_M_judged 21 0 0 Z0 62 [(0, .ref 261), (1, .int x1), (2, .int j17), (3, .int s9.2.1)] [] v16.2 := by
        obtain ⟨y25, e26, hf⟩ := mm_letE hf
        refine MM.iinc (k0 := 3) (lv' := [(3, .int y25), (0, .ref 261), (1, .int x1), (2, .int j17)]) (by rw [ic_1]; exact e26) rfl (Nat.le_of_ble_eq_true rfl) rfl d_M_judged_62 rfl ?_
        refine MM.goto (tgt := 38) d_M_judged_65 rfl ?_
        obtain rfl := Option.some.inj hf
        have h9 := mm_wxL hx11
        exact MM.sub [1, 2, 3, 0] (by rfl) h9
      clear hf
      have hf := e27
      clear e27
      obtain ⟨m23, m24⟩ := mm_ifE hf
      refine MM.if_ne (tgt := 62) d_M_judged_53 rfl rfl (fun c22 => ?_) (fun c22 => ?_)
      · replace hf := m24 c22
        obtain rfl := Option.some.inj hf
        exact MM.sub [0, 1, 2, 3] (by rfl) K18
      · replace hf := m23 c22
        refine MM.iload_n (i := 2) rfl rfl d_M_judged_56 rfl ?_
        obtain ⟨m20, m21⟩ := mm_ifE hf
        refine MM.if_ge (tgt := 62) d_M_judged_57 rfl rfl (fun c19 => ?_) (fun c19 => ?_)
        · replace hf := m20 c19
          obtain rfl := Option.some.inj hf
          exact MM.sub [0, 1, 2, 3] (by rfl) K18
        · replace hf := m21 c19
          refine MM.iload_n (i := 3) rfl rfl d_M_judged_60 rfl ?_
          refine MM.istore_n (i := 2) (lv' := [(2, .int s9.2.1), (0, .ref 261), (1, .int x1), (3, .int s9.2.1)]) rfl rfl (Nat.le_of_ble_eq_true rfl) rfl d_M_judged_61 rfl ?_
          obtain rfl := Option.some.inj hf
          exact MM.sub [1, 2, 0, 3] (by rfl) K18
  · replace hf := m49 c48
    refine MM.bipush bp_m2 d_M_judged_14 rfl ?_
    obtain rfl := Option.some.inj hf
    subst hZ
    exact MM.iret rfl d_M_judged_16 ⟨rfl, rfl⟩
theorem d_M_leastOf_0 : decode cX12_leastOf 0 = .ok (.iconst (-1), 1) := by decide +kernel
theorem d_M_leastOf_1 : decode cX12_leastOf 1 = .ok (.istore_n 2, 1) := by decide +kernel
theorem d_M_leastOf_2 : decode cX12_leastOf 2 = .ok (.iconst 0, 1) := by decide +kernel
theorem d_M_leastOf_3 : decode cX12_leastOf 3 = .ok (.istore_n 3, 1) := by decide +kernel
theorem d_M_leastOf_4 : decode cX12_leastOf 4 = .ok (.iconst 1, 1) := by decide +kernel
theorem d_M_leastOf_5 : decode cX12_leastOf 5 = .ok (.istore 4, 2) := by decide +kernel
theorem d_M_leastOf_7 : decode cX12_leastOf 7 = .ok (.iload 4, 2) := by decide +kernel
theorem d_M_leastOf_9 : decode cX12_leastOf 9 = .ok (.aload_n 0, 1) := by decide +kernel
theorem d_M_leastOf_10 : decode cX12_leastOf 10 = .ok (.invokevirtual 489, 3) := by decide +kernel
theorem d_M_leastOf_13 : decode cX12_leastOf 13 = .ok (.if_icmp .gt 77, 3) := by decide +kernel
theorem d_M_leastOf_16 : decode cX12_leastOf 16 = .ok (.iload_n 2, 1) := by decide +kernel
theorem d_M_leastOf_17 : decode cX12_leastOf 17 = .ok (.ifCond .lt 15, 3) := by decide +kernel
theorem d_M_leastOf_20 : decode cX12_leastOf 20 = .ok (.iload 4, 2) := by decide +kernel
theorem d_M_leastOf_22 : decode cX12_leastOf 22 = .ok (.invokestatic 492, 3) := by decide +kernel
theorem d_M_leastOf_25 : decode cX12_leastOf 25 = .ok (.iload_n 2, 1) := by decide +kernel
theorem d_M_leastOf_26 : decode cX12_leastOf 26 = .ok (.invokestatic 492, 3) := by decide +kernel
theorem d_M_leastOf_29 : decode cX12_leastOf 29 = .ok (.if_icmp .gt 55, 3) := by decide +kernel
theorem d_M_leastOf_32 : decode cX12_leastOf 32 = .ok (.aload_n 0, 1) := by decide +kernel
theorem d_M_leastOf_33 : decode cX12_leastOf 33 = .ok (.iload_n 1, 1) := by decide +kernel
theorem d_M_leastOf_34 : decode cX12_leastOf 34 = .ok (.iload 4, 2) := by decide +kernel
theorem d_M_leastOf_36 : decode cX12_leastOf 36 = .ok (.invokevirtual 474, 3) := by decide +kernel
theorem d_M_leastOf_39 : decode cX12_leastOf 39 = .ok (.ifCond .ne 6, 3) := by decide +kernel
theorem d_M_leastOf_42 : decode cX12_leastOf 42 = .ok (.goto 42, 3) := by decide +kernel
theorem d_M_leastOf_45 : decode cX12_leastOf 45 = .ok (.aload_n 0, 1) := by decide +kernel
theorem d_M_leastOf_46 : decode cX12_leastOf 46 = .ok (.iload 4, 2) := by decide +kernel
theorem d_M_leastOf_48 : decode cX12_leastOf 48 = .ok (.invokevirtual 433, 3) := by decide +kernel
theorem d_M_leastOf_51 : decode cX12_leastOf 51 = .ok (.istore 5, 2) := by decide +kernel
theorem d_M_leastOf_53 : decode cX12_leastOf 53 = .ok (.iload_n 2, 1) := by decide +kernel
theorem d_M_leastOf_54 : decode cX12_leastOf 54 = .ok (.ifCond .lt 24, 3) := by decide +kernel
theorem d_M_leastOf_57 : decode cX12_leastOf 57 = .ok (.iload 4, 2) := by decide +kernel
theorem d_M_leastOf_59 : decode cX12_leastOf 59 = .ok (.invokestatic 492, 3) := by decide +kernel
theorem d_M_leastOf_62 : decode cX12_leastOf 62 = .ok (.iload_n 2, 1) := by decide +kernel
theorem d_M_leastOf_63 : decode cX12_leastOf 63 = .ok (.invokestatic 492, 3) := by decide +kernel
theorem d_M_leastOf_66 : decode cX12_leastOf 66 = .ok (.if_icmp .ne 12, 3) := by decide +kernel
theorem d_M_leastOf_69 : decode cX12_leastOf 69 = .ok (.iload 5, 2) := by decide +kernel
theorem d_M_leastOf_71 : decode cX12_leastOf 71 = .ok (.iload_n 3, 1) := by decide +kernel
theorem d_M_leastOf_72 : decode cX12_leastOf 72 = .ok (.if_icmp .lt 6, 3) := by decide +kernel
theorem d_M_leastOf_75 : decode cX12_leastOf 75 = .ok (.goto 9, 3) := by decide +kernel
theorem d_M_leastOf_78 : decode cX12_leastOf 78 = .ok (.iload 4, 2) := by decide +kernel
theorem d_M_leastOf_80 : decode cX12_leastOf 80 = .ok (.istore_n 2, 1) := by decide +kernel
theorem d_M_leastOf_81 : decode cX12_leastOf 81 = .ok (.iload 5, 2) := by decide +kernel
theorem d_M_leastOf_83 : decode cX12_leastOf 83 = .ok (.istore_n 3, 1) := by decide +kernel
theorem d_M_leastOf_84 : decode cX12_leastOf 84 = .ok (.iinc 4 1, 3) := by decide +kernel
theorem d_M_leastOf_87 : decode cX12_leastOf 87 = .ok (.goto (-80), 3) := by decide +kernel
theorem d_M_leastOf_90 : decode cX12_leastOf 90 = .ok (.iload_n 2, 1) := by decide +kernel
theorem d_M_leastOf_91 : decode cX12_leastOf 91 = .ok (.ireturn, 1) := by decide +kernel
noncomputable def f_M_leastOf (x1 : Int32) (h : mm_H) : Option (Int32 × mm_H) := (mm_while (σ := (Int32 × Int32 × Int32 × mm_H)) (ρ := (Int32 × mm_H)) (fun s1 => (f_M_allSecrets s1.2.2.2).bind fun v8 => if v8 < s1.2.2.1 then (some (Sum.inr (s1.1, s1.2.2.2))) else ((mm_jp (fun (j11 : Unit) => ((f_M_canPay x1 s1.2.2.1 s1.2.2.2).bind fun v15 => if v15.1 = 0 then (some (s1.1, s1.2.1, v15.2)) else ((f_M_worthsOf s1.2.2.1 v15.2).bind fun v17 => mm_jp (fun (j18 : Unit) => (some (s1.2.2.1, v17.1, v17.2))) fun k20 => if s1.1 < 0 then (k20 ()) else ((f_M_bits s1.2.2.1).bind fun v22 => (f_M_bits s1.1).bind fun v24 => if v22 = v24 then (if v17.1 < s1.2.1 then (k20 ()) else (some (s1.1, s1.2.1, v17.2))) else (k20 ()))))) fun k13 => if s1.1 < 0 then (k13 ()) else ((f_M_bits s1.2.2.1).bind fun v39 => (f_M_bits s1.1).bind fun v41 => if v41 < v39 then (some (s1.1, s1.2.1, s1.2.2.2)) else (k13 ())) : Option (Int32 × Int32 × mm_H)).bind fun j9 => mm_let (s1.2.2.1 + 1) fun y49 => some (Sum.inl (j9.1, j9.2.1, y49, j9.2.2)))) ((-1), 0, 1, h)).bind fun v4 => some (v4.1, v4.2)
theorem T_M_leastOf (V : mm_V) (l : Launch) (x1 : Int32) (h : mm_H) (r : (Int32 × mm_H)) (hf : f_M_leastOf x1 h = some r) : MT V l Y_M_leastOf 20 [.ref 261, .int x1] (fun r1 h1 => r1 = some (.int r.1) ∧ h1 = r.2) h := by
  unfold f_M_leastOf at hf
  refine MT.intro (pn_M rfl) [(0, .ref 261), (1, .int x1)] rfl (Nat.le_of_ble_eq_true rfl) ?_
  generalize hZ : mm_Z V _ = Z0
  refine MM.iconst ic_m1 d_M_leastOf_0 rfl ?_
  refine MM.istore_n (i := 2) (lv' := [(2, .int (-1)), (0, .ref 261), (1, .int x1)]) rfl rfl (Nat.le_of_ble_eq_true rfl) rfl d_M_leastOf_1 rfl ?_
  refine MM.iconst ic_0 d_M_leastOf_2 rfl ?_
  refine MM.istore_n (i := 3) (lv' := [(3, .int 0), (2, .int (-1)), (0, .ref 261), (1, .int x1)]) rfl rfl (Nat.le_of_ble_eq_true rfl) rfl d_M_leastOf_3 rfl ?_
  refine MM.iconst ic_1 d_M_leastOf_4 rfl ?_
  refine MM.istore (lv' := [(4, .int 1), (3, .int 0), (2, .int (-1)), (0, .ref 261), (1, .int x1)]) rfl (Nat.le_of_ble_eq_true rfl) rfl d_M_leastOf_5 rfl ?_
  obtain ⟨v4, e6, hf⟩ := mm_bind hf
  have K5 : MM V l Y_M_leastOf 20 0 0 Z0 90 [(2, .int v4.1)] [] v4.2 := by
    refine MM.iload_n (i := 2) rfl rfl d_M_leastOf_90 rfl ?_
    obtain rfl := Option.some.inj hf
    subst hZ
    exact MM.iret rfl d_M_leastOf_91 ⟨rfl, rfl⟩
  clear hf
  refine MM.sub [3, 4, 2, 1, 0] (by rfl) (mm_while_ind (fun s1 => MM V l Y_M_leastOf 20 0 0 Z0 7 [(0, .ref 261), (1, .int x1), (2, .int s1.1), (3, .int s1.2.1), (4, .int s1.2.2.1)] [] s1.2.2.2) e6 (fun s1 q2 hf hx3 => ?_))
  refine MM.iload rfl d_M_leastOf_7 rfl ?_
  refine MM.aload_n (i := 0) rfl rfl d_M_leastOf_9 rfl ?_
  obtain ⟨v8, e7, hf⟩ := mm_bind hf
  refine MM.callV1 (T_M_allSecrets V l  s1.2.2.2 _ e7) (fun _ _ q => q) cal_M_allSecrets rfl tg_261 ct_9 ww_94 ww_1911 ww_1909 (by decide) (by simp [Value.category]) d_M_leastOf_10 rfl ⟨rfl, rfl⟩ rfl ?_
  obtain ⟨m53, m54⟩ := mm_ifE hf
  refine MM.icmp_gt (tgt := 90) d_M_leastOf_13 rfl rfl (fun c52 => ?_) (fun c52 => ?_)
  · replace hf := m53 c52
    obtain rfl := Option.some.inj hf
    obtain rfl := Option.some.inj (mm_wxR hx3)
    exact MM.sub [2] (by rfl) K5
  · replace hf := m54 c52
    refine MM.iload_n (i := 2) rfl rfl d_M_leastOf_16 rfl ?_
    obtain ⟨j9, e51, hf⟩ := mm_bind hf
    have K10 : MM V l Y_M_leastOf 20 0 0 Z0 84 [(0, .ref 261), (1, .int x1), (2, .int j9.1), (3, .int j9.2.1), (4, .int s1.2.2.1)] [] j9.2.2 := by
      obtain ⟨y49, e50, hf⟩ := mm_letE hf
      refine MM.iinc (k0 := 4) (lv' := [(4, .int y49), (0, .ref 261), (1, .int x1), (2, .int j9.1), (3, .int j9.2.1)]) (by rw [ic_1]; exact e50) rfl (Nat.le_of_ble_eq_true rfl) rfl d_M_leastOf_84 rfl ?_
      refine MM.goto (tgt := 7) d_M_leastOf_87 rfl ?_
      obtain rfl := Option.some.inj hf
      have h9 := mm_wxL hx3
      exact MM.sub [1, 2, 3, 4, 0] (by rfl) h9
    clear hf
    have hf := e51
    clear e51
    obtain ⟨k13, e48, hf⟩ := mm_jpE hf
    have K12 : ∀ j11, k13 j11 = some j9 → MM V l Y_M_leastOf 20 0 0 Z0 32 [(0, .ref 261), (1, .int x1), (2, .int s1.1), (3, .int s1.2.1), (4, .int s1.2.2.1)] [] s1.2.2.2 := by
      intro j11 hf
      rw [e48] at hf
      refine MM.aload_n (i := 0) rfl rfl d_M_leastOf_32 rfl ?_
      refine MM.iload_n (i := 1) rfl rfl d_M_leastOf_33 rfl ?_
      refine MM.iload rfl d_M_leastOf_34 rfl ?_
      obtain ⟨v15, e14, hf⟩ := mm_bind hf
      refine MM.callV1 (T_M_canPay V l x1 s1.2.2.1 s1.2.2.2 _ e14) (fun _ _ q => q) cal_M_canPay rfl tg_261 ct_9 ww_89 ww_1871 ww_1869 (by decide) (by simp [Value.category]) d_M_leastOf_36 rfl ⟨rfl, rfl⟩ rfl ?_
      obtain ⟨m36, m37⟩ := mm_ifE hf
      refine MM.if_ne (tgt := 45) d_M_leastOf_39 rfl rfl (fun c35 => ?_) (fun c35 => ?_)
      · replace hf := m37 c35
        refine MM.aload_n (i := 0) rfl rfl d_M_leastOf_45 rfl ?_
        refine MM.iload rfl d_M_leastOf_46 rfl ?_
        obtain ⟨v17, e16, hf⟩ := mm_bind hf
        refine MM.callV1 (T_M_worthsOf V l s1.2.2.1 v15.2 _ e16) (fun _ _ q => q) cal_M_worthsOf rfl tg_261 ct_9 ww_73 ww_1779 ww_1777 (by decide) (by simp [Value.category]) d_M_leastOf_48 rfl ⟨rfl, rfl⟩ rfl ?_
        refine MM.istore (lv' := [(5, .int v17.1), (0, .ref 261), (1, .int x1), (2, .int s1.1), (3, .int s1.2.1), (4, .int s1.2.2.1)]) rfl (Nat.le_of_ble_eq_true rfl) rfl d_M_leastOf_51 rfl ?_
        refine MM.iload_n (i := 2) rfl rfl d_M_leastOf_53 rfl ?_
        obtain ⟨k20, e34, hf⟩ := mm_jpE hf
        have K19 : ∀ j18, k20 j18 = some j9 → MM V l Y_M_leastOf 20 0 0 Z0 78 [(0, .ref 261), (1, .int x1), (4, .int s1.2.2.1), (5, .int v17.1)] [] v17.2 := by
          intro j18 hf
          rw [e34] at hf
          refine MM.iload rfl d_M_leastOf_78 rfl ?_
          refine MM.istore_n (i := 2) (lv' := [(2, .int s1.2.2.1), (0, .ref 261), (1, .int x1), (4, .int s1.2.2.1), (5, .int v17.1)]) rfl rfl (Nat.le_of_ble_eq_true rfl) rfl d_M_leastOf_80 rfl ?_
          refine MM.iload rfl d_M_leastOf_81 rfl ?_
          refine MM.istore_n (i := 3) (lv' := [(3, .int v17.1), (2, .int s1.2.2.1), (0, .ref 261), (1, .int x1), (4, .int s1.2.2.1), (5, .int v17.1)]) rfl rfl (Nat.le_of_ble_eq_true rfl) rfl d_M_leastOf_83 rfl ?_
          obtain rfl := Option.some.inj hf
          exact MM.sub [2, 3, 1, 0, 4] (by rfl) K10
        clear e34
        obtain ⟨m32, m33⟩ := mm_ifE hf
        refine MM.if_lt (tgt := 78) d_M_leastOf_54 rfl rfl (fun c31 => ?_) (fun c31 => ?_)
        · replace hf := m32 c31
          exact MM.sub [1, 2, 5, 0] (by rfl) (K19 _ hf)
        · replace hf := m33 c31
          refine MM.iload rfl d_M_leastOf_57 rfl ?_
          obtain ⟨v22, e21, hf⟩ := mm_bind hf
          refine MM.callS1 (T_M_bits V l s1.2.2.1 v17.2 _ e21) (fun _ _ q => q) cal_M_bits rfl ww_1922 ww_1921 (by decide) (by simp [Value.category]) d_M_leastOf_59 rfl ⟨rfl, rfl⟩ rfl ?_
          refine MM.iload_n (i := 2) rfl rfl d_M_leastOf_62 rfl ?_
          obtain ⟨v24, e23, hf⟩ := mm_bind hf
          refine MM.callS1 (T_M_bits V l s1.1 v17.2 _ e23) (fun _ _ q => q) cal_M_bits rfl ww_1922 ww_1921 (by decide) (by simp [Value.category]) d_M_leastOf_63 rfl ⟨rfl, rfl⟩ rfl ?_
          obtain ⟨m29, m30⟩ := mm_ifE hf
          refine MM.icmp_ne (tgt := 78) d_M_leastOf_66 rfl rfl (fun c28 => ?_) (fun c28 => ?_)
          · replace hf := m30 c28
            exact MM.sub [1, 2, 5, 0] (by rfl) (K19 _ hf)
          · replace hf := m29 c28
            refine MM.iload rfl d_M_leastOf_69 rfl ?_
            refine MM.iload_n (i := 3) rfl rfl d_M_leastOf_71 rfl ?_
            obtain ⟨m26, m27⟩ := mm_ifE hf
            refine MM.icmp_lt (tgt := 78) d_M_leastOf_72 rfl rfl (fun c25 => ?_) (fun c25 => ?_)
            · replace hf := m26 c25
              exact MM.sub [1, 2, 5, 0] (by rfl) (K19 _ hf)
            · replace hf := m27 c25
              refine MM.goto (tgt := 84) d_M_leastOf_75 rfl ?_
              obtain rfl := Option.some.inj hf
              exact MM.sub [1, 2, 3, 4, 5] (by rfl) K10
      · replace hf := m36 c35
        refine MM.goto (tgt := 84) d_M_leastOf_42 rfl ?_
        obtain rfl := Option.some.inj hf
        exact MM.sub [0, 1, 2, 3, 4] (by rfl) K10
    clear e48
    obtain ⟨m46, m47⟩ := mm_ifE hf
    refine MM.if_lt (tgt := 32) d_M_leastOf_17 rfl rfl (fun c45 => ?_) (fun c45 => ?_)
    · replace hf := m46 c45
      exact MM.sub [0, 1, 2, 3, 4] (by rfl) (K12 _ hf)
    · replace hf := m47 c45
      refine MM.iload rfl d_M_leastOf_20 rfl ?_
      obtain ⟨v39, e38, hf⟩ := mm_bind hf
      refine MM.callS1 (T_M_bits V l s1.2.2.1 s1.2.2.2 _ e38) (fun _ _ q => q) cal_M_bits rfl ww_1922 ww_1921 (by decide) (by simp [Value.category]) d_M_leastOf_22 rfl ⟨rfl, rfl⟩ rfl ?_
      refine MM.iload_n (i := 2) rfl rfl d_M_leastOf_25 rfl ?_
      obtain ⟨v41, e40, hf⟩ := mm_bind hf
      refine MM.callS1 (T_M_bits V l s1.1 s1.2.2.2 _ e40) (fun _ _ q => q) cal_M_bits rfl ww_1922 ww_1921 (by decide) (by simp [Value.category]) d_M_leastOf_26 rfl ⟨rfl, rfl⟩ rfl ?_
      obtain ⟨m43, m44⟩ := mm_ifE hf
      refine MM.icmp_gt (tgt := 84) d_M_leastOf_29 rfl rfl (fun c42 => ?_) (fun c42 => ?_)
      · replace hf := m43 c42
        obtain rfl := Option.some.inj hf
        exact MM.sub [0, 1, 2, 3, 4] (by rfl) K10
      · replace hf := m44 c42
        exact MM.sub [0, 1, 2, 3, 4] (by rfl) (K12 _ hf)
theorem d_M_least_0 : decode cX12_least 0 = .ok (.aload_n 0, 1) := by decide +kernel
theorem d_M_least_1 : decode cX12_least 1 = .ok (.iconst 0, 1) := by decide +kernel
theorem d_M_least_2 : decode cX12_least 2 = .ok (.putfield 175, 3) := by decide +kernel
theorem d_M_least_5 : decode cX12_least 5 = .ok (.aload_n 0, 1) := by decide +kernel
theorem d_M_least_6 : decode cX12_least 6 = .ok (.iload_n 1, 1) := by decide +kernel
theorem d_M_least_7 : decode cX12_least 7 = .ok (.invokevirtual 436, 3) := by decide +kernel
theorem d_M_least_10 : decode cX12_least 10 = .ok (.ifCond .eq 11, 3) := by decide +kernel
theorem d_M_least_13 : decode cX12_least 13 = .ok (.aload_n 0, 1) := by decide +kernel
theorem d_M_least_14 : decode cX12_least 14 = .ok (.iload_n 1, 1) := by decide +kernel
theorem d_M_least_15 : decode cX12_least 15 = .ok (.invokevirtual 495, 3) := by decide +kernel
theorem d_M_least_18 : decode cX12_least 18 = .ok (.goto 4, 3) := by decide +kernel
theorem d_M_least_21 : decode cX12_least 21 = .ok (.iconst (-1), 1) := by decide +kernel
theorem d_M_least_22 : decode cX12_least 22 = .ok (.ireturn, 1) := by decide +kernel
noncomputable def f_M_least (x1 : Int32) (h : mm_H) : Option (Int32 × mm_H) := mm_let (mm_pI h 261 0 0) fun h1 => (f_M_isPerson x1 h1).bind fun v4 => if v4 = 0 then (some ((-1), h1)) else ((f_M_leastOf x1 h1).bind fun v6 => some (v6.1, v6.2))
theorem T_M_least (V : mm_V) (l : Launch) (x1 : Int32) (h : mm_H) (r : (Int32 × mm_H)) (hf : f_M_least x1 h = some r) : MT V l Y_M_least 21 [.ref 261, .int x1] (fun r1 h1 => r1 = some (.int r.1) ∧ h1 = r.2) h := by
  unfold f_M_least at hf
  refine MT.intro (pn_M rfl) [(0, .ref 261), (1, .int x1)] rfl (Nat.le_of_ble_eq_true rfl) ?_
  generalize hZ : mm_Z V _ = Z0
  refine MM.aload_n (i := 0) rfl rfl d_M_least_0 rfl ?_
  refine MM.iconst ic_0 d_M_least_1 rfl ?_
  obtain ⟨h1, e2, hf⟩ := mm_letE hf
  refine MM.putI e2 9 tg_261 lays_9 toks_9 pq_9_0 ww_1358 d_M_least_2 rfl ?_
  refine MM.aload_n (i := 0) rfl rfl d_M_least_5 rfl ?_
  refine MM.iload_n (i := 1) rfl rfl d_M_least_6 rfl ?_
  obtain ⟨v4, e3, hf⟩ := mm_bind hf
  refine MM.callV1 (T_M_isPerson V l x1 h1 _ e3) (fun _ _ q => q) cal_M_isPerson rfl tg_261 ct_9 ww_70 ww_1767 ww_1765 (by decide) (by simp [Value.category]) d_M_least_7 rfl ⟨rfl, rfl⟩ rfl ?_
  obtain ⟨m8, m9⟩ := mm_ifE hf
  refine MM.if_eq (tgt := 21) d_M_least_10 rfl rfl (fun c7 => ?_) (fun c7 => ?_)
  · replace hf := m8 c7
    refine MM.iconst ic_m1 d_M_least_21 rfl ?_
    obtain rfl := Option.some.inj hf
    subst hZ
    exact MM.iret rfl d_M_least_22 ⟨rfl, rfl⟩
  · replace hf := m9 c7
    refine MM.aload_n (i := 0) rfl rfl d_M_least_13 rfl ?_
    refine MM.iload_n (i := 1) rfl rfl d_M_least_14 rfl ?_
    obtain ⟨v6, e5, hf⟩ := mm_bind hf
    refine MM.callV1 (T_M_leastOf V l x1 h1 _ e5) (fun _ _ q => q) cal_M_leastOf rfl tg_261 ct_9 ww_95 ww_1919 ww_1917 (by decide) (by simp [Value.category]) d_M_least_15 rfl ⟨rfl, rfl⟩ rfl ?_
    refine MM.goto (tgt := 22) d_M_least_18 rfl ?_
    obtain rfl := Option.some.inj hf
    subst hZ
    exact MM.iret rfl d_M_least_22 ⟨rfl, rfl⟩
theorem d_M_payTogether_0 : decode cX12_payTogether 0 = .ok (.iconst 0, 1) := by decide +kernel
theorem d_M_payTogether_1 : decode cX12_payTogether 1 = .ok (.istore_n 3, 1) := by decide +kernel
theorem d_M_payTogether_2 : decode cX12_payTogether 2 = .ok (.iload_n 1, 1) := by decide +kernel
theorem d_M_payTogether_3 : decode cX12_payTogether 3 = .ok (.iload_n 3, 1) := by decide +kernel
theorem d_M_payTogether_4 : decode cX12_payTogether 4 = .ok (.ishr, 1) := by decide +kernel
theorem d_M_payTogether_5 : decode cX12_payTogether 5 = .ok (.iconst 1, 1) := by decide +kernel
theorem d_M_payTogether_6 : decode cX12_payTogether 6 = .ok (.iand, 1) := by decide +kernel
theorem d_M_payTogether_7 : decode cX12_payTogether 7 = .ok (.ifCond .ne 9, 3) := by decide +kernel
theorem d_M_payTogether_10 : decode cX12_payTogether 10 = .ok (.iinc 3 1, 3) := by decide +kernel
theorem d_M_payTogether_13 : decode cX12_payTogether 13 = .ok (.goto (-11), 3) := by decide +kernel
theorem d_M_payTogether_16 : decode cX12_payTogether 16 = .ok (.iload_n 2, 1) := by decide +kernel
theorem d_M_payTogether_17 : decode cX12_payTogether 17 = .ok (.istore 4, 2) := by decide +kernel
theorem d_M_payTogether_19 : decode cX12_payTogether 19 = .ok (.iload 4, 2) := by decide +kernel
theorem d_M_payTogether_21 : decode cX12_payTogether 21 = .ok (.ifCond .le 58, 3) := by decide +kernel
theorem d_M_payTogether_24 : decode cX12_payTogether 24 = .ok (.aload_n 0, 1) := by decide +kernel
theorem d_M_payTogether_25 : decode cX12_payTogether 25 = .ok (.getfield 148, 3) := by decide +kernel
theorem d_M_payTogether_28 : decode cX12_payTogether 28 = .ok (.sipush 1024, 3) := by decide +kernel
theorem d_M_payTogether_31 : decode cX12_payTogether 31 = .ok (.iload_n 3, 1) := by decide +kernel
theorem d_M_payTogether_32 : decode cX12_payTogether 32 = .ok (.imul, 1) := by decide +kernel
theorem d_M_payTogether_33 : decode cX12_payTogether 33 = .ok (.iload 4, 2) := by decide +kernel
theorem d_M_payTogether_35 : decode cX12_payTogether 35 = .ok (.iadd, 1) := by decide +kernel
theorem d_M_payTogether_36 : decode cX12_payTogether 36 = .ok (.baload, 1) := by decide +kernel
theorem d_M_payTogether_37 : decode cX12_payTogether 37 = .ok (.ifCond .eq 31, 3) := by decide +kernel
theorem d_M_payTogether_40 : decode cX12_payTogether 40 = .ok (.aload_n 0, 1) := by decide +kernel
theorem d_M_payTogether_41 : decode cX12_payTogether 41 = .ok (.getfield 145, 3) := by decide +kernel
theorem d_M_payTogether_44 : decode cX12_payTogether 44 = .ok (.sipush 1024, 3) := by decide +kernel
theorem d_M_payTogether_47 : decode cX12_payTogether 47 = .ok (.iload_n 1, 1) := by decide +kernel
theorem d_M_payTogether_48 : decode cX12_payTogether 48 = .ok (.iconst 1, 1) := by decide +kernel
theorem d_M_payTogether_49 : decode cX12_payTogether 49 = .ok (.iload_n 3, 1) := by decide +kernel
theorem d_M_payTogether_50 : decode cX12_payTogether 50 = .ok (.ishl, 1) := by decide +kernel
theorem d_M_payTogether_51 : decode cX12_payTogether 51 = .ok (.iconst (-1), 1) := by decide +kernel
theorem d_M_payTogether_52 : decode cX12_payTogether 52 = .ok (.ixor, 1) := by decide +kernel
theorem d_M_payTogether_53 : decode cX12_payTogether 53 = .ok (.iand, 1) := by decide +kernel
theorem d_M_payTogether_54 : decode cX12_payTogether 54 = .ok (.imul, 1) := by decide +kernel
theorem d_M_payTogether_55 : decode cX12_payTogether 55 = .ok (.iload_n 2, 1) := by decide +kernel
theorem d_M_payTogether_56 : decode cX12_payTogether 56 = .ok (.iload 4, 2) := by decide +kernel
theorem d_M_payTogether_58 : decode cX12_payTogether 58 = .ok (.iconst (-1), 1) := by decide +kernel
theorem d_M_payTogether_59 : decode cX12_payTogether 59 = .ok (.ixor, 1) := by decide +kernel
theorem d_M_payTogether_60 : decode cX12_payTogether 60 = .ok (.iand, 1) := by decide +kernel
theorem d_M_payTogether_61 : decode cX12_payTogether 61 = .ok (.iadd, 1) := by decide +kernel
theorem d_M_payTogether_62 : decode cX12_payTogether 62 = .ok (.baload, 1) := by decide +kernel
theorem d_M_payTogether_63 : decode cX12_payTogether 63 = .ok (.ifCond .eq 5, 3) := by decide +kernel
theorem d_M_payTogether_66 : decode cX12_payTogether 66 = .ok (.iconst 1, 1) := by decide +kernel
theorem d_M_payTogether_67 : decode cX12_payTogether 67 = .ok (.ireturn, 1) := by decide +kernel
theorem d_M_payTogether_68 : decode cX12_payTogether 68 = .ok (.iload 4, 2) := by decide +kernel
theorem d_M_payTogether_70 : decode cX12_payTogether 70 = .ok (.iconst 1, 1) := by decide +kernel
theorem d_M_payTogether_71 : decode cX12_payTogether 71 = .ok (.isub, 1) := by decide +kernel
theorem d_M_payTogether_72 : decode cX12_payTogether 72 = .ok (.iload_n 2, 1) := by decide +kernel
theorem d_M_payTogether_73 : decode cX12_payTogether 73 = .ok (.iand, 1) := by decide +kernel
theorem d_M_payTogether_74 : decode cX12_payTogether 74 = .ok (.istore 4, 2) := by decide +kernel
theorem d_M_payTogether_76 : decode cX12_payTogether 76 = .ok (.goto (-57), 3) := by decide +kernel
theorem d_M_payTogether_79 : decode cX12_payTogether 79 = .ok (.iconst 0, 1) := by decide +kernel
theorem d_M_payTogether_80 : decode cX12_payTogether 80 = .ok (.ireturn, 1) := by decide +kernel
noncomputable def f_M_payTogether (x1 : Int32) (x2 : Int32) (h : mm_H) : Option Int32 := (mm_while (σ := Int32) (ρ := Int32) (fun s1 => if ((x1 >>> (s1 &&& 31)) &&& 1) = 0 then (mm_let (s1 + 1) fun y7 => some (Sum.inl y7)) else (some (Sum.inr s1))) 0).bind fun v4 => mm_while (σ := Int32) (ρ := Int32) (fun s12 => if s12 ≤ 0 then (some (Sum.inr 0)) else ((mm_ix ((1024 * v4) + s12) 6144).bind fun k15 => mm_jp (fun (j17 : Unit) => (mm_let ((s12 - 1) &&& x2) fun y20 => some (Sum.inl y20))) fun k19 => if (h.1 307 k15) = 0 then (k19 ()) else ((mm_ix ((1024 * (x1 &&& (((1 : Int32) <<< (v4 &&& 31)) ^^^ (-1)))) + (x2 &&& (s12 ^^^ (-1)))) 65536).bind fun k22 => if (h.1 306 k22) = 0 then (k19 ()) else (some (Sum.inr 1))))) x2
theorem T_M_payTogether (V : mm_V) (l : Launch) (x1 : Int32) (x2 : Int32) (h : mm_H) (r : Int32) (hf : f_M_payTogether x1 x2 h = some r) : MT V l Y_M_payTogether 1 [.ref 261, .int x1, .int x2] (fun r1 h1 => r1 = some (.int r) ∧ h1 = h) h := by
  unfold f_M_payTogether at hf
  refine MT.intro (pn_M rfl) [(0, .ref 261), (1, .int x1), (2, .int x2)] rfl (Nat.le_of_ble_eq_true rfl) ?_
  generalize hZ : mm_Z V _ = Z0
  refine MM.iconst ic_0 d_M_payTogether_0 rfl ?_
  refine MM.istore_n (i := 3) (lv' := [(3, .int 0), (0, .ref 261), (1, .int x1), (2, .int x2)]) rfl rfl (Nat.le_of_ble_eq_true rfl) rfl d_M_payTogether_1 rfl ?_
  obtain ⟨v4, e6, hf⟩ := mm_bind hf
  have K5 : MM V l Y_M_payTogether 1 0 0 Z0 16 [(0, .ref 261), (1, .int x1), (2, .int x2), (3, .int v4)] [] h := by
    refine MM.iload_n (i := 2) rfl rfl d_M_payTogether_16 rfl ?_
    refine MM.istore (lv' := [(4, .int x2), (0, .ref 261), (1, .int x1), (2, .int x2), (3, .int v4)]) rfl (Nat.le_of_ble_eq_true rfl) rfl d_M_payTogether_17 rfl ?_
    refine MM.sub [1, 2, 3, 4, 0] (by rfl) (mm_while_ind (fun s12 => MM V l Y_M_payTogether 1 0 0 Z0 19 [(0, .ref 261), (1, .int x1), (2, .int x2), (3, .int v4), (4, .int s12)] [] h) hf (fun s12 q13 hf hx14 => ?_))
    refine MM.iload rfl d_M_payTogether_19 rfl ?_
    obtain ⟨m32, m33⟩ := mm_ifE hf
    refine MM.if_le (tgt := 79) d_M_payTogether_21 rfl rfl (fun c31 => ?_) (fun c31 => ?_)
    · replace hf := m32 c31
      refine MM.iconst ic_0 d_M_payTogether_79 rfl ?_
      obtain rfl := Option.some.inj hf
      replace hf := mm_wxR hx14
      obtain rfl := Option.some.inj hf
      subst hZ
      exact MM.zret (Or.inl rfl) rfl d_M_payTogether_80 ⟨rfl, rfl⟩
    · replace hf := m33 c31
      refine MM.aload_n (i := 0) rfl rfl d_M_payTogether_24 rfl ?_
      refine MM.gR 9 46 tg_261 rq_9_57 rfl lays_9 ww_1415 d_M_payTogether_25 rfl ?_
      refine MM.sipush sp_1024 d_M_payTogether_28 rfl ?_
      refine MM.iload_n (i := 3) rfl rfl d_M_payTogether_31 rfl ?_
      refine MM.imul d_M_payTogether_32 rfl ?_
      refine MM.iload rfl d_M_payTogether_33 rfl ?_
      refine MM.iadd d_M_payTogether_35 rfl ?_
      obtain ⟨k15, e16, hf⟩ := mm_bind hf
      refine MM.gZ e16 al_307 d_M_payTogether_36 rfl ?_
      obtain ⟨k19, e30, hf⟩ := mm_jpE hf
      have K18 : ∀ j17, k19 j17 = some q13 → MM V l Y_M_payTogether 1 0 0 Z0 68 [(0, .ref 261), (1, .int x1), (2, .int x2), (3, .int v4), (4, .int s12)] [] h := by
        intro j17 hf
        rw [e30] at hf
        refine MM.iload rfl d_M_payTogether_68 rfl ?_
        refine MM.iconst ic_1 d_M_payTogether_70 rfl ?_
        refine MM.isub d_M_payTogether_71 rfl ?_
        refine MM.iload_n (i := 2) rfl rfl d_M_payTogether_72 rfl ?_
        refine MM.iand d_M_payTogether_73 rfl ?_
        obtain ⟨y20, e21, hf⟩ := mm_letE hf
        refine MM.istore (lv' := [(4, .int y20), (0, .ref 261), (1, .int x1), (2, .int x2), (3, .int v4)]) e21 (Nat.le_of_ble_eq_true rfl) rfl d_M_payTogether_74 rfl ?_
        refine MM.goto (tgt := 19) d_M_payTogether_76 rfl ?_
        obtain rfl := Option.some.inj hf
        have h9 := mm_wxL hx14
        exact MM.sub [1, 2, 3, 4, 0] (by rfl) h9
      clear e30
      obtain ⟨m28, m29⟩ := mm_ifE hf
      refine MM.if_eq (tgt := 68) d_M_payTogether_37 rfl rfl (fun c27 => ?_) (fun c27 => ?_)
      · replace hf := m28 c27
        exact MM.sub [0, 1, 2, 3, 4] (by rfl) (K18 _ hf)
      · replace hf := m29 c27
        refine MM.aload_n (i := 0) rfl rfl d_M_payTogether_40 rfl ?_
        refine MM.gR 9 45 tg_261 rq_9_56 rfl lays_9 ww_1414 d_M_payTogether_41 rfl ?_
        refine MM.sipush sp_1024 d_M_payTogether_44 rfl ?_
        refine MM.iload_n (i := 1) rfl rfl d_M_payTogether_47 rfl ?_
        refine MM.iconst ic_1 d_M_payTogether_48 rfl ?_
        refine MM.iload_n (i := 3) rfl rfl d_M_payTogether_49 rfl ?_
        refine MM.ishl d_M_payTogether_50 rfl ?_
        refine MM.iconst ic_m1 d_M_payTogether_51 rfl ?_
        refine MM.ixor d_M_payTogether_52 rfl ?_
        refine MM.iand d_M_payTogether_53 rfl ?_
        refine MM.imul d_M_payTogether_54 rfl ?_
        refine MM.iload_n (i := 2) rfl rfl d_M_payTogether_55 rfl ?_
        refine MM.iload rfl d_M_payTogether_56 rfl ?_
        refine MM.iconst ic_m1 d_M_payTogether_58 rfl ?_
        refine MM.ixor d_M_payTogether_59 rfl ?_
        refine MM.iand d_M_payTogether_60 rfl ?_
        refine MM.iadd d_M_payTogether_61 rfl ?_
        obtain ⟨k22, e23, hf⟩ := mm_bind hf
        refine MM.gZ e23 al_306 d_M_payTogether_62 rfl ?_
        obtain ⟨m25, m26⟩ := mm_ifE hf
        refine MM.if_eq (tgt := 68) d_M_payTogether_63 rfl rfl (fun c24 => ?_) (fun c24 => ?_)
        · replace hf := m25 c24
          exact MM.sub [0, 1, 2, 3, 4] (by rfl) (K18 _ hf)
        · replace hf := m26 c24
          refine MM.iconst ic_1 d_M_payTogether_66 rfl ?_
          obtain rfl := Option.some.inj hf
          replace hf := mm_wxR hx14
          obtain rfl := Option.some.inj hf
          subst hZ
          exact MM.zret (Or.inr rfl) rfl d_M_payTogether_67 ⟨rfl, rfl⟩
  clear hf
  refine MM.sub [1, 2, 3, 0] (by rfl) (mm_while_ind (fun s1 => MM V l Y_M_payTogether 1 0 0 Z0 2 [(0, .ref 261), (1, .int x1), (2, .int x2), (3, .int s1)] [] h) e6 (fun s1 q2 hf hx3 => ?_))
  refine MM.iload_n (i := 1) rfl rfl d_M_payTogether_2 rfl ?_
  refine MM.iload_n (i := 3) rfl rfl d_M_payTogether_3 rfl ?_
  refine MM.ishr d_M_payTogether_4 rfl ?_
  refine MM.iconst ic_1 d_M_payTogether_5 rfl ?_
  refine MM.iand d_M_payTogether_6 rfl ?_
  obtain ⟨m10, m11⟩ := mm_ifE hf
  refine MM.if_ne (tgt := 16) d_M_payTogether_7 rfl rfl (fun c9 => ?_) (fun c9 => ?_)
  · replace hf := m11 c9
    obtain rfl := Option.some.inj hf
    obtain rfl := Option.some.inj (mm_wxR hx3)
    exact MM.sub [0, 1, 2, 3] (by rfl) K5
  · replace hf := m10 c9
    obtain ⟨y7, e8, hf⟩ := mm_letE hf
    refine MM.iinc (k0 := 3) (lv' := [(3, .int y7), (0, .ref 261), (1, .int x1), (2, .int x2)]) (by rw [ic_1]; exact e8) rfl (Nat.le_of_ble_eq_true rfl) rfl d_M_payTogether_10 rfl ?_
    refine MM.goto (tgt := 2) d_M_payTogether_13 rfl ?_
    obtain rfl := Option.some.inj hf
    have h9 := mm_wxL hx3
    exact MM.sub [1, 2, 3, 0] (by rfl) h9
theorem d_M_payers_0 : decode cX12_payers 0 = .ok (.aload_n 0, 1) := by decide +kernel
theorem d_M_payers_1 : decode cX12_payers 1 = .ok (.iconst 0, 1) := by decide +kernel
theorem d_M_payers_2 : decode cX12_payers 2 = .ok (.putfield 175, 3) := by decide +kernel
theorem d_M_payers_5 : decode cX12_payers 5 = .ok (.iconst 0, 1) := by decide +kernel
theorem d_M_payers_6 : decode cX12_payers 6 = .ok (.istore_n 1, 1) := by decide +kernel
theorem d_M_payers_7 : decode cX12_payers 7 = .ok (.iconst 0, 1) := by decide +kernel
theorem d_M_payers_8 : decode cX12_payers 8 = .ok (.istore_n 2, 1) := by decide +kernel
theorem d_M_payers_9 : decode cX12_payers 9 = .ok (.iload_n 2, 1) := by decide +kernel
theorem d_M_payers_10 : decode cX12_payers 10 = .ok (.aload_n 0, 1) := by decide +kernel
theorem d_M_payers_11 : decode cX12_payers 11 = .ok (.getfield 13, 3) := by decide +kernel
theorem d_M_payers_14 : decode cX12_payers 14 = .ok (.iconst 0, 1) := by decide +kernel
theorem d_M_payers_15 : decode cX12_payers 15 = .ok (.iaload, 1) := by decide +kernel
theorem d_M_payers_16 : decode cX12_payers 16 = .ok (.if_icmp .ge 76, 3) := by decide +kernel
theorem d_M_payers_19 : decode cX12_payers 19 = .ok (.iload_n 1, 1) := by decide +kernel
theorem d_M_payers_20 : decode cX12_payers 20 = .ok (.aload_n 0, 1) := by decide +kernel
theorem d_M_payers_21 : decode cX12_payers 21 = .ok (.getfield 29, 3) := by decide +kernel
theorem d_M_payers_24 : decode cX12_payers 24 = .ok (.iload_n 2, 1) := by decide +kernel
theorem d_M_payers_25 : decode cX12_payers 25 = .ok (.iaload, 1) := by decide +kernel
theorem d_M_payers_26 : decode cX12_payers 26 = .ok (.ifCond .le 23, 3) := by decide +kernel
theorem d_M_payers_29 : decode cX12_payers 29 = .ok (.aload_n 0, 1) := by decide +kernel
theorem d_M_payers_30 : decode cX12_payers 30 = .ok (.getfield 129, 3) := by decide +kernel
theorem d_M_payers_33 : decode cX12_payers 33 = .ok (.bipush 78, 2) := by decide +kernel
theorem d_M_payers_35 : decode cX12_payers 35 = .ok (.iaload, 1) := by decide +kernel
theorem d_M_payers_36 : decode cX12_payers 36 = .ok (.iload_n 2, 1) := by decide +kernel
theorem d_M_payers_37 : decode cX12_payers 37 = .ok (.ishr, 1) := by decide +kernel
theorem d_M_payers_38 : decode cX12_payers 38 = .ok (.iconst 1, 1) := by decide +kernel
theorem d_M_payers_39 : decode cX12_payers 39 = .ok (.iand, 1) := by decide +kernel
theorem d_M_payers_40 : decode cX12_payers 40 = .ok (.ifCond .ne 9, 3) := by decide +kernel
theorem d_M_payers_43 : decode cX12_payers 43 = .ok (.iconst 1, 1) := by decide +kernel
theorem d_M_payers_44 : decode cX12_payers 44 = .ok (.iload_n 2, 1) := by decide +kernel
theorem d_M_payers_45 : decode cX12_payers 45 = .ok (.ishl, 1) := by decide +kernel
theorem d_M_payers_46 : decode cX12_payers 46 = .ok (.goto 4, 3) := by decide +kernel
theorem d_M_payers_49 : decode cX12_payers 49 = .ok (.iconst 0, 1) := by decide +kernel
theorem d_M_payers_50 : decode cX12_payers 50 = .ok (.ior, 1) := by decide +kernel
theorem d_M_payers_51 : decode cX12_payers 51 = .ok (.istore_n 1, 1) := by decide +kernel
theorem d_M_payers_52 : decode cX12_payers 52 = .ok (.iconst 0, 1) := by decide +kernel
theorem d_M_payers_53 : decode cX12_payers 53 = .ok (.istore_n 3, 1) := by decide +kernel
theorem d_M_payers_54 : decode cX12_payers 54 = .ok (.iload_n 3, 1) := by decide +kernel
theorem d_M_payers_55 : decode cX12_payers 55 = .ok (.aload_n 0, 1) := by decide +kernel
theorem d_M_payers_56 : decode cX12_payers 56 = .ok (.invokevirtual 489, 3) := by decide +kernel
theorem d_M_payers_59 : decode cX12_payers 59 = .ok (.if_icmp .gt 27, 3) := by decide +kernel
theorem d_M_payers_62 : decode cX12_payers 62 = .ok (.aload_n 0, 1) := by decide +kernel
theorem d_M_payers_63 : decode cX12_payers 63 = .ok (.getfield 148, 3) := by decide +kernel
theorem d_M_payers_66 : decode cX12_payers 66 = .ok (.sipush 1024, 3) := by decide +kernel
theorem d_M_payers_69 : decode cX12_payers 69 = .ok (.iload_n 2, 1) := by decide +kernel
theorem d_M_payers_70 : decode cX12_payers 70 = .ok (.imul, 1) := by decide +kernel
theorem d_M_payers_71 : decode cX12_payers 71 = .ok (.iload_n 3, 1) := by decide +kernel
theorem d_M_payers_72 : decode cX12_payers 72 = .ok (.iadd, 1) := by decide +kernel
theorem d_M_payers_73 : decode cX12_payers 73 = .ok (.aload_n 0, 1) := by decide +kernel
theorem d_M_payers_74 : decode cX12_payers 74 = .ok (.iload_n 2, 1) := by decide +kernel
theorem d_M_payers_75 : decode cX12_payers 75 = .ok (.iload_n 3, 1) := by decide +kernel
theorem d_M_payers_76 : decode cX12_payers 76 = .ok (.invokevirtual 474, 3) := by decide +kernel
theorem d_M_payers_79 : decode cX12_payers 79 = .ok (.bastore, 1) := by decide +kernel
theorem d_M_payers_80 : decode cX12_payers 80 = .ok (.iinc 3 1, 3) := by decide +kernel
theorem d_M_payers_83 : decode cX12_payers 83 = .ok (.goto (-29), 3) := by decide +kernel
theorem d_M_payers_86 : decode cX12_payers 86 = .ok (.iinc 2 1, 3) := by decide +kernel
theorem d_M_payers_89 : decode cX12_payers 89 = .ok (.goto (-80), 3) := by decide +kernel
theorem d_M_payers_92 : decode cX12_payers 92 = .ok (.iconst 0, 1) := by decide +kernel
theorem d_M_payers_93 : decode cX12_payers 93 = .ok (.istore_n 2, 1) := by decide +kernel
theorem d_M_payers_94 : decode cX12_payers 94 = .ok (.iconst 0, 1) := by decide +kernel
theorem d_M_payers_95 : decode cX12_payers 95 = .ok (.istore_n 3, 1) := by decide +kernel
theorem d_M_payers_96 : decode cX12_payers 96 = .ok (.iload_n 3, 1) := by decide +kernel
theorem d_M_payers_97 : decode cX12_payers 97 = .ok (.bipush 64, 2) := by decide +kernel
theorem d_M_payers_99 : decode cX12_payers 99 = .ok (.if_icmp .ge 101, 3) := by decide +kernel
theorem d_M_payers_102 : decode cX12_payers 102 = .ok (.iload_n 3, 1) := by decide +kernel
theorem d_M_payers_103 : decode cX12_payers 103 = .ok (.iload_n 1, 1) := by decide +kernel
theorem d_M_payers_104 : decode cX12_payers 104 = .ok (.iconst (-1), 1) := by decide +kernel
theorem d_M_payers_105 : decode cX12_payers 105 = .ok (.ixor, 1) := by decide +kernel
theorem d_M_payers_106 : decode cX12_payers 106 = .ok (.iand, 1) := by decide +kernel
theorem d_M_payers_107 : decode cX12_payers 107 = .ok (.ifCond .eq 6, 3) := by decide +kernel
theorem d_M_payers_110 : decode cX12_payers 110 = .ok (.goto 84, 3) := by decide +kernel
theorem d_M_payers_113 : decode cX12_payers 113 = .ok (.iconst 0, 1) := by decide +kernel
theorem d_M_payers_114 : decode cX12_payers 114 = .ok (.istore 4, 2) := by decide +kernel
theorem d_M_payers_116 : decode cX12_payers 116 = .ok (.iload 4, 2) := by decide +kernel
theorem d_M_payers_118 : decode cX12_payers 118 = .ok (.aload_n 0, 1) := by decide +kernel
theorem d_M_payers_119 : decode cX12_payers 119 = .ok (.invokevirtual 489, 3) := by decide +kernel
theorem d_M_payers_122 : decode cX12_payers 122 = .ok (.if_icmp .gt 41, 3) := by decide +kernel
theorem d_M_payers_125 : decode cX12_payers 125 = .ok (.aload_n 0, 1) := by decide +kernel
theorem d_M_payers_126 : decode cX12_payers 126 = .ok (.getfield 145, 3) := by decide +kernel
theorem d_M_payers_129 : decode cX12_payers 129 = .ok (.sipush 1024, 3) := by decide +kernel
theorem d_M_payers_132 : decode cX12_payers 132 = .ok (.iload_n 3, 1) := by decide +kernel
theorem d_M_payers_133 : decode cX12_payers 133 = .ok (.imul, 1) := by decide +kernel
theorem d_M_payers_134 : decode cX12_payers 134 = .ok (.iload 4, 2) := by decide +kernel
theorem d_M_payers_136 : decode cX12_payers 136 = .ok (.iadd, 1) := by decide +kernel
theorem d_M_payers_137 : decode cX12_payers 137 = .ok (.iload_n 3, 1) := by decide +kernel
theorem d_M_payers_138 : decode cX12_payers 138 = .ok (.ifCond .eq 13, 3) := by decide +kernel
theorem d_M_payers_141 : decode cX12_payers 141 = .ok (.aload_n 0, 1) := by decide +kernel
theorem d_M_payers_142 : decode cX12_payers 142 = .ok (.iload_n 3, 1) := by decide +kernel
theorem d_M_payers_143 : decode cX12_payers 143 = .ok (.iload 4, 2) := by decide +kernel
theorem d_M_payers_145 : decode cX12_payers 145 = .ok (.invokevirtual 498, 3) := by decide +kernel
theorem d_M_payers_148 : decode cX12_payers 148 = .ok (.ifCond .eq 7, 3) := by decide +kernel
theorem d_M_payers_151 : decode cX12_payers 151 = .ok (.iconst 1, 1) := by decide +kernel
theorem d_M_payers_152 : decode cX12_payers 152 = .ok (.goto 4, 3) := by decide +kernel
theorem d_M_payers_155 : decode cX12_payers 155 = .ok (.iconst 0, 1) := by decide +kernel
theorem d_M_payers_156 : decode cX12_payers 156 = .ok (.bastore, 1) := by decide +kernel
theorem d_M_payers_157 : decode cX12_payers 157 = .ok (.iinc 4 1, 3) := by decide +kernel
theorem d_M_payers_160 : decode cX12_payers 160 = .ok (.goto (-44), 3) := by decide +kernel
theorem d_M_payers_163 : decode cX12_payers 163 = .ok (.aload_n 0, 1) := by decide +kernel
theorem d_M_payers_164 : decode cX12_payers 164 = .ok (.getfield 145, 3) := by decide +kernel
theorem d_M_payers_167 : decode cX12_payers 167 = .ok (.sipush 1024, 3) := by decide +kernel
theorem d_M_payers_170 : decode cX12_payers 170 = .ok (.iload_n 3, 1) := by decide +kernel
theorem d_M_payers_171 : decode cX12_payers 171 = .ok (.imul, 1) := by decide +kernel
theorem d_M_payers_172 : decode cX12_payers 172 = .ok (.aload_n 0, 1) := by decide +kernel
theorem d_M_payers_173 : decode cX12_payers 173 = .ok (.invokevirtual 489, 3) := by decide +kernel
theorem d_M_payers_176 : decode cX12_payers 176 = .ok (.iadd, 1) := by decide +kernel
theorem d_M_payers_177 : decode cX12_payers 177 = .ok (.baload, 1) := by decide +kernel
theorem d_M_payers_178 : decode cX12_payers 178 = .ok (.ifCond .eq 16, 3) := by decide +kernel
theorem d_M_payers_181 : decode cX12_payers 181 = .ok (.iload_n 3, 1) := by decide +kernel
theorem d_M_payers_182 : decode cX12_payers 182 = .ok (.invokestatic 492, 3) := by decide +kernel
theorem d_M_payers_185 : decode cX12_payers 185 = .ok (.iload_n 2, 1) := by decide +kernel
theorem d_M_payers_186 : decode cX12_payers 186 = .ok (.invokestatic 492, 3) := by decide +kernel
theorem d_M_payers_189 : decode cX12_payers 189 = .ok (.if_icmp .le 5, 3) := by decide +kernel
theorem d_M_payers_192 : decode cX12_payers 192 = .ok (.iload_n 3, 1) := by decide +kernel
theorem d_M_payers_193 : decode cX12_payers 193 = .ok (.istore_n 2, 1) := by decide +kernel
theorem d_M_payers_194 : decode cX12_payers 194 = .ok (.iinc 3 1, 3) := by decide +kernel
theorem d_M_payers_197 : decode cX12_payers 197 = .ok (.goto (-101), 3) := by decide +kernel
theorem d_M_payers_200 : decode cX12_payers 200 = .ok (.iload_n 2, 1) := by decide +kernel
theorem d_M_payers_201 : decode cX12_payers 201 = .ok (.ireturn, 1) := by decide +kernel
noncomputable def f_M_payers (h : mm_H) : Option (Int32 × mm_H) := mm_let (mm_pI h 261 0 0) fun h1 => (mm_while (σ := (Int32 × Int32 × mm_H)) (ρ := (Int32 × mm_H)) (fun s3 => if (s3.2.2.1 263 0) ≤ s3.2.1 then (some (Sum.inr (s3.1, s3.2.2))) else ((mm_ix s3.2.1 12).bind fun k9 => (if (s3.2.2.1 268 k9) ≤ 0 then (some 0) else (if (((s3.2.2.1 301 78) >>> (s3.2.1 &&& 31)) &&& 1) = 0 then (some ((1 : Int32) <<< (s3.2.1 &&& 31))) else (some 0)) : Option Int32).bind fun j11 => mm_let (s3.1 ||| j11) fun y19 => (mm_while (σ := (Int32 × mm_H)) (ρ := mm_H) (fun s21 => (f_M_allSecrets s21.2).bind fun v28 => if v28 < s21.1 then (some (Sum.inr s21.2)) else ((f_M_canPay s3.2.1 s21.1 s21.2).bind fun v30 => (mm_ix ((1024 * s3.2.1) + s21.1) 6144).bind fun k31 => mm_let (mm_pI v30.2 307 k31 (v30.1 &&& 1)) fun h33 => mm_let (s21.1 + 1) fun y35 => some (Sum.inl (y35, h33)))) (0, s3.2.2)).bind fun v24 => mm_let (s3.2.1 + 1) fun y40 => some (Sum.inl (y19, y40, v24)))) (0, 0, h1)).bind fun v6 => (mm_while (σ := (Int32 × Int32 × mm_H)) (ρ := (Int32 × mm_H)) (fun s46 => if 64 ≤ s46.2.1 then (some (Sum.inr (s46.1, s46.2.2))) else ((if (s46.2.1 &&& (v6.1 ^^^ (-1))) = 0 then ((mm_while (σ := (Int32 × mm_H)) (ρ := mm_H) (fun s54 => (f_M_allSecrets s54.2).bind fun v61 => if v61 < s54.1 then (some (Sum.inr s54.2)) else ((if s46.2.1 = 0 then (some 1) else ((f_M_payTogether s46.2.1 s54.1 s54.2).bind fun v65 => if v65 = 0 then (some 0) else (some 1)) : Option Int32).bind fun j62 => (mm_ix ((1024 * s46.2.1) + s54.1) 65536).bind fun k72 => mm_let (mm_pI s54.2 306 k72 (j62 &&& 1)) fun h74 => mm_let (s54.1 + 1) fun y76 => some (Sum.inl (y76, h74)))) (0, s46.2.2)).bind fun v57 => (f_M_allSecrets v57).bind fun v83 => (mm_ix ((1024 * s46.2.1) + v83) 65536).bind fun k84 => if (v57.1 306 k84) = 0 then (some (s46.1, v57)) else ((f_M_bits s46.2.1).bind fun v87 => (f_M_bits s46.1).bind fun v89 => if v87 ≤ v89 then (some (s46.1, v57)) else (some (s46.2.1, v57)))) else (some (s46.1, s46.2.2)) : Option (Int32 × mm_H)).bind fun j52 => mm_let (s46.2.1 + 1) fun y99 => some (Sum.inl (j52.1, y99, j52.2)))) (0, 0, v6.2)).bind fun v49 => some (v49.1, v49.2)
theorem T_M_payers (V : mm_V) (l : Launch) (h : mm_H) (r : (Int32 × mm_H)) (hf : f_M_payers h = some r) : MT V l Y_M_payers 20 [.ref 261] (fun r1 h1 => r1 = some (.int r.1) ∧ h1 = r.2) h := by
  unfold f_M_payers at hf
  refine MT.intro (pn_M rfl) [(0, .ref 261)] rfl (Nat.le_of_ble_eq_true rfl) ?_
  generalize hZ : mm_Z V _ = Z0
  refine MM.aload_n (i := 0) rfl rfl d_M_payers_0 rfl ?_
  refine MM.iconst ic_0 d_M_payers_1 rfl ?_
  obtain ⟨h1, e2, hf⟩ := mm_letE hf
  refine MM.putI e2 9 tg_261 lays_9 toks_9 pq_9_0 ww_1358 d_M_payers_2 rfl ?_
  refine MM.iconst ic_0 d_M_payers_5 rfl ?_
  refine MM.istore_n (i := 1) (lv' := [(1, .int 0), (0, .ref 261)]) rfl rfl (Nat.le_of_ble_eq_true rfl) rfl d_M_payers_6 rfl ?_
  refine MM.iconst ic_0 d_M_payers_7 rfl ?_
  refine MM.istore_n (i := 2) (lv' := [(2, .int 0), (1, .int 0), (0, .ref 261)]) rfl rfl (Nat.le_of_ble_eq_true rfl) rfl d_M_payers_8 rfl ?_
  obtain ⟨v6, e8, hf⟩ := mm_bind hf
  have K7 : MM V l Y_M_payers 20 0 0 Z0 92 [(0, .ref 261), (1, .int v6.1)] [] v6.2 := by
    refine MM.iconst ic_0 d_M_payers_92 rfl ?_
    refine MM.istore_n (i := 2) (lv' := [(2, .int 0), (0, .ref 261), (1, .int v6.1)]) rfl rfl (Nat.le_of_ble_eq_true rfl) rfl d_M_payers_93 rfl ?_
    refine MM.iconst ic_0 d_M_payers_94 rfl ?_
    refine MM.istore_n (i := 3) (lv' := [(3, .int 0), (2, .int 0), (0, .ref 261), (1, .int v6.1)]) rfl rfl (Nat.le_of_ble_eq_true rfl) rfl d_M_payers_95 rfl ?_
    obtain ⟨v49, e51, hf⟩ := mm_bind hf
    have K50 : MM V l Y_M_payers 20 0 0 Z0 200 [(2, .int v49.1)] [] v49.2 := by
      refine MM.iload_n (i := 2) rfl rfl d_M_payers_200 rfl ?_
      obtain rfl := Option.some.inj hf
      subst hZ
      exact MM.iret rfl d_M_payers_201 ⟨rfl, rfl⟩
    clear hf
    refine MM.sub [2, 3, 1, 0] (by rfl) (mm_while_ind (fun s46 => MM V l Y_M_payers 20 0 0 Z0 96 [(0, .ref 261), (1, .int v6.1), (2, .int s46.1), (3, .int s46.2.1)] [] s46.2.2) e51 (fun s46 q47 hf hx48 => ?_))
    refine MM.iload_n (i := 3) rfl rfl d_M_payers_96 rfl ?_
    refine MM.bipush bp_64 d_M_payers_97 rfl ?_
    obtain ⟨m103, m104⟩ := mm_ifE hf
    refine MM.icmp_ge (tgt := 200) d_M_payers_99 rfl rfl (fun c102 => ?_) (fun c102 => ?_)
    · replace hf := m103 c102
      obtain rfl := Option.some.inj hf
      obtain rfl := Option.some.inj (mm_wxR hx48)
      exact MM.sub [2] (by rfl) K50
    · replace hf := m104 c102
      refine MM.iload_n (i := 3) rfl rfl d_M_payers_102 rfl ?_
      refine MM.iload_n (i := 1) rfl rfl d_M_payers_103 rfl ?_
      refine MM.iconst ic_m1 d_M_payers_104 rfl ?_
      refine MM.ixor d_M_payers_105 rfl ?_
      refine MM.iand d_M_payers_106 rfl ?_
      obtain ⟨j52, e101, hf⟩ := mm_bind hf
      have K53 : MM V l Y_M_payers 20 0 0 Z0 194 [(0, .ref 261), (1, .int v6.1), (2, .int j52.1), (3, .int s46.2.1)] [] j52.2 := by
        obtain ⟨y99, e100, hf⟩ := mm_letE hf
        refine MM.iinc (k0 := 3) (lv' := [(3, .int y99), (0, .ref 261), (1, .int v6.1), (2, .int j52.1)]) (by rw [ic_1]; exact e100) rfl (Nat.le_of_ble_eq_true rfl) rfl d_M_payers_194 rfl ?_
        refine MM.goto (tgt := 96) d_M_payers_197 rfl ?_
        obtain rfl := Option.some.inj hf
        have h9 := mm_wxL hx48
        exact MM.sub [1, 2, 3, 0] (by rfl) h9
      clear hf
      have hf := e101
      clear e101
      obtain ⟨m97, m98⟩ := mm_ifE hf
      refine MM.if_eq (tgt := 113) d_M_payers_107 rfl rfl (fun c96 => ?_) (fun c96 => ?_)
      · replace hf := m97 c96
        refine MM.iconst ic_0 d_M_payers_113 rfl ?_
        refine MM.istore (lv' := [(4, .int 0), (0, .ref 261), (1, .int v6.1), (2, .int s46.1), (3, .int s46.2.1)]) rfl (Nat.le_of_ble_eq_true rfl) rfl d_M_payers_114 rfl ?_
        obtain ⟨v57, e59, hf⟩ := mm_bind hf
        have K58 : MM V l Y_M_payers 20 0 0 Z0 163 [(0, .ref 261), (1, .int v6.1), (2, .int s46.1), (3, .int s46.2.1)] [] v57 := by
          refine MM.aload_n (i := 0) rfl rfl d_M_payers_163 rfl ?_
          refine MM.gR 9 45 tg_261 rq_9_56 rfl lays_9 ww_1414 d_M_payers_164 rfl ?_
          refine MM.sipush sp_1024 d_M_payers_167 rfl ?_
          refine MM.iload_n (i := 3) rfl rfl d_M_payers_170 rfl ?_
          refine MM.imul d_M_payers_171 rfl ?_
          refine MM.aload_n (i := 0) rfl rfl d_M_payers_172 rfl ?_
          obtain ⟨v83, e82, hf⟩ := mm_bind hf
          refine MM.callV1 (T_M_allSecrets V l  v57 _ e82) (fun _ _ q => q) cal_M_allSecrets rfl tg_261 ct_9 ww_94 ww_1911 ww_1909 (by decide) (by simp [Value.category]) d_M_payers_173 rfl ⟨rfl, rfl⟩ rfl ?_
          refine MM.iadd d_M_payers_176 rfl ?_
          obtain ⟨k84, e85, hf⟩ := mm_bind hf
          refine MM.gZ e85 al_306 d_M_payers_177 rfl ?_
          obtain ⟨m94, m95⟩ := mm_ifE hf
          refine MM.if_eq (tgt := 194) d_M_payers_178 rfl rfl (fun c93 => ?_) (fun c93 => ?_)
          · replace hf := m94 c93
            obtain rfl := Option.some.inj hf
            exact MM.sub [0, 1, 2, 3] (by rfl) K53
          · replace hf := m95 c93
            refine MM.iload_n (i := 3) rfl rfl d_M_payers_181 rfl ?_
            obtain ⟨v87, e86, hf⟩ := mm_bind hf
            refine MM.callS1 (T_M_bits V l s46.2.1 v57 _ e86) (fun _ _ q => q) cal_M_bits rfl ww_1922 ww_1921 (by decide) (by simp [Value.category]) d_M_payers_182 rfl ⟨rfl, rfl⟩ rfl ?_
            refine MM.iload_n (i := 2) rfl rfl d_M_payers_185 rfl ?_
            obtain ⟨v89, e88, hf⟩ := mm_bind hf
            refine MM.callS1 (T_M_bits V l s46.1 v57 _ e88) (fun _ _ q => q) cal_M_bits rfl ww_1922 ww_1921 (by decide) (by simp [Value.category]) d_M_payers_186 rfl ⟨rfl, rfl⟩ rfl ?_
            obtain ⟨m91, m92⟩ := mm_ifE hf
            refine MM.icmp_le (tgt := 194) d_M_payers_189 rfl rfl (fun c90 => ?_) (fun c90 => ?_)
            · replace hf := m91 c90
              obtain rfl := Option.some.inj hf
              exact MM.sub [0, 1, 2, 3] (by rfl) K53
            · replace hf := m92 c90
              refine MM.iload_n (i := 3) rfl rfl d_M_payers_192 rfl ?_
              refine MM.istore_n (i := 2) (lv' := [(2, .int s46.2.1), (0, .ref 261), (1, .int v6.1), (3, .int s46.2.1)]) rfl rfl (Nat.le_of_ble_eq_true rfl) rfl d_M_payers_193 rfl ?_
              obtain rfl := Option.some.inj hf
              exact MM.sub [1, 2, 0, 3] (by rfl) K53
        clear hf
        refine MM.sub [1, 2, 3, 4, 0] (by rfl) (mm_while_ind (fun s54 => MM V l Y_M_payers 20 0 0 Z0 116 [(0, .ref 261), (1, .int v6.1), (2, .int s46.1), (3, .int s46.2.1), (4, .int s54.1)] [] s54.2) e59 (fun s54 q55 hf hx56 => ?_))
        refine MM.iload rfl d_M_payers_116 rfl ?_
        refine MM.aload_n (i := 0) rfl rfl d_M_payers_118 rfl ?_
        obtain ⟨v61, e60, hf⟩ := mm_bind hf
        refine MM.callV1 (T_M_allSecrets V l  s54.2 _ e60) (fun _ _ q => q) cal_M_allSecrets rfl tg_261 ct_9 ww_94 ww_1911 ww_1909 (by decide) (by simp [Value.category]) d_M_payers_119 rfl ⟨rfl, rfl⟩ rfl ?_
        obtain ⟨m80, m81⟩ := mm_ifE hf
        refine MM.icmp_gt (tgt := 163) d_M_payers_122 rfl rfl (fun c79 => ?_) (fun c79 => ?_)
        · replace hf := m80 c79
          obtain rfl := Option.some.inj hf
          obtain rfl := Option.some.inj (mm_wxR hx56)
          exact MM.sub [0, 1, 2, 3] (by rfl) K58
        · replace hf := m81 c79
          refine MM.aload_n (i := 0) rfl rfl d_M_payers_125 rfl ?_
          refine MM.gR 9 45 tg_261 rq_9_56 rfl lays_9 ww_1414 d_M_payers_126 rfl ?_
          refine MM.sipush sp_1024 d_M_payers_129 rfl ?_
          refine MM.iload_n (i := 3) rfl rfl d_M_payers_132 rfl ?_
          refine MM.imul d_M_payers_133 rfl ?_
          refine MM.iload rfl d_M_payers_134 rfl ?_
          refine MM.iadd d_M_payers_136 rfl ?_
          refine MM.iload_n (i := 3) rfl rfl d_M_payers_137 rfl ?_
          obtain ⟨j62, e78, hf⟩ := mm_bind hf
          have K63 : MM V l Y_M_payers 20 0 0 Z0 156 [(0, .ref 261), (1, .int v6.1), (2, .int s46.1), (3, .int s46.2.1), (4, .int s54.1)] [.int j62, .int ((1024 * s46.2.1) + s54.1), .ref 306] s54.2 := by
            obtain ⟨k72, e73, hf⟩ := mm_bind hf
            obtain ⟨h74, e75, hf⟩ := mm_letE hf
            refine MM.sZ e73 e75 al_306 d_M_payers_156 rfl ?_
            obtain ⟨y76, e77, hf⟩ := mm_letE hf
            refine MM.iinc (k0 := 4) (lv' := [(4, .int y76), (0, .ref 261), (1, .int v6.1), (2, .int s46.1), (3, .int s46.2.1)]) (by rw [ic_1]; exact e77) rfl (Nat.le_of_ble_eq_true rfl) rfl d_M_payers_157 rfl ?_
            refine MM.goto (tgt := 116) d_M_payers_160 rfl ?_
            obtain rfl := Option.some.inj hf
            have h9 := mm_wxL hx56
            exact MM.sub [1, 2, 3, 4, 0] (by rfl) h9
          clear hf
          have hf := e78
          clear e78
          obtain ⟨m70, m71⟩ := mm_ifE hf
          refine MM.if_eq (tgt := 151) d_M_payers_138 rfl rfl (fun c69 => ?_) (fun c69 => ?_)
          · replace hf := m70 c69
            refine MM.iconst ic_1 d_M_payers_151 rfl ?_
            refine MM.goto (tgt := 156) d_M_payers_152 rfl ?_
            obtain rfl := Option.some.inj hf
            exact MM.sub [0, 1, 2, 3, 4] (by rfl) K63
          · replace hf := m71 c69
            refine MM.aload_n (i := 0) rfl rfl d_M_payers_141 rfl ?_
            refine MM.iload_n (i := 3) rfl rfl d_M_payers_142 rfl ?_
            refine MM.iload rfl d_M_payers_143 rfl ?_
            obtain ⟨v65, e64, hf⟩ := mm_bind hf
            refine MM.callV1 (T_M_payTogether V l s46.2.1 s54.1 s54.2 _ e64) (fun _ _ q => q) cal_M_payTogether rfl tg_261 ct_9 ww_96 ww_1930 ww_1928 (by decide) (by simp [Value.category]) d_M_payers_145 rfl ⟨rfl, rfl⟩ rfl ?_
            obtain ⟨m67, m68⟩ := mm_ifE hf
            refine MM.if_eq (tgt := 155) d_M_payers_148 rfl rfl (fun c66 => ?_) (fun c66 => ?_)
            · replace hf := m67 c66
              refine MM.iconst ic_0 d_M_payers_155 rfl ?_
              obtain rfl := Option.some.inj hf
              exact MM.sub [0, 1, 2, 3, 4] (by rfl) K63
            · replace hf := m68 c66
              refine MM.iconst ic_1 d_M_payers_151 rfl ?_
              refine MM.goto (tgt := 156) d_M_payers_152 rfl ?_
              obtain rfl := Option.some.inj hf
              exact MM.sub [0, 1, 2, 3, 4] (by rfl) K63
      · replace hf := m98 c96
        refine MM.goto (tgt := 194) d_M_payers_110 rfl ?_
        obtain rfl := Option.some.inj hf
        exact MM.sub [0, 1, 2, 3] (by rfl) K53
  clear hf
  refine MM.sub [2, 1, 0] (by rfl) (mm_while_ind (fun s3 => MM V l Y_M_payers 20 0 0 Z0 9 [(0, .ref 261), (1, .int s3.1), (2, .int s3.2.1)] [] s3.2.2) e8 (fun s3 q4 hf hx5 => ?_))
  refine MM.iload_n (i := 2) rfl rfl d_M_payers_9 rfl ?_
  refine MM.aload_n (i := 0) rfl rfl d_M_payers_10 rfl ?_
  refine MM.gR 9 2 tg_261 rq_9_10 rfl lays_9 ww_1368 d_M_payers_11 rfl ?_
  refine MM.iconst ic_0 d_M_payers_14 rfl ?_
  refine MM.gI ix_0_8 al_263 d_M_payers_15 rfl ?_
  obtain ⟨m44, m45⟩ := mm_ifE hf
  refine MM.icmp_ge (tgt := 92) d_M_payers_16 rfl rfl (fun c43 => ?_) (fun c43 => ?_)
  · replace hf := m44 c43
    obtain rfl := Option.some.inj hf
    obtain rfl := Option.some.inj (mm_wxR hx5)
    exact MM.sub [0, 1] (by rfl) K7
  · replace hf := m45 c43
    refine MM.iload_n (i := 1) rfl rfl d_M_payers_19 rfl ?_
    refine MM.aload_n (i := 0) rfl rfl d_M_payers_20 rfl ?_
    refine MM.gR 9 7 tg_261 rq_9_15 rfl lays_9 ww_1373 d_M_payers_21 rfl ?_
    refine MM.iload_n (i := 2) rfl rfl d_M_payers_24 rfl ?_
    obtain ⟨k9, e10, hf⟩ := mm_bind hf
    refine MM.gI e10 al_268 d_M_payers_25 rfl ?_
    obtain ⟨j11, e42, hf⟩ := mm_bind hf
    have K12 : MM V l Y_M_payers 20 0 0 Z0 50 [(0, .ref 261), (2, .int s3.2.1)] [.int j11, .int s3.1] s3.2.2 := by
      refine MM.ior d_M_payers_50 rfl ?_
      obtain ⟨y19, e20, hf⟩ := mm_letE hf
      refine MM.istore_n (i := 1) (lv' := [(1, .int y19), (0, .ref 261), (2, .int s3.2.1)]) e20 rfl (Nat.le_of_ble_eq_true rfl) rfl d_M_payers_51 rfl ?_
      refine MM.iconst ic_0 d_M_payers_52 rfl ?_
      refine MM.istore_n (i := 3) (lv' := [(3, .int 0), (1, .int y19), (0, .ref 261), (2, .int s3.2.1)]) rfl rfl (Nat.le_of_ble_eq_true rfl) rfl d_M_payers_53 rfl ?_
      obtain ⟨v24, e26, hf⟩ := mm_bind hf
      have K25 : MM V l Y_M_payers 20 0 0 Z0 86 [(0, .ref 261), (1, .int y19), (2, .int s3.2.1)] [] v24 := by
        obtain ⟨y40, e41, hf⟩ := mm_letE hf
        refine MM.iinc (k0 := 2) (lv' := [(2, .int y40), (0, .ref 261), (1, .int y19)]) (by rw [ic_1]; exact e41) rfl (Nat.le_of_ble_eq_true rfl) rfl d_M_payers_86 rfl ?_
        refine MM.goto (tgt := 9) d_M_payers_89 rfl ?_
        obtain rfl := Option.some.inj hf
        have h9 := mm_wxL hx5
        exact MM.sub [1, 2, 0] (by rfl) h9
      clear hf
      refine MM.sub [2, 1, 3, 0] (by rfl) (mm_while_ind (fun s21 => MM V l Y_M_payers 20 0 0 Z0 54 [(0, .ref 261), (1, .int y19), (2, .int s3.2.1), (3, .int s21.1)] [] s21.2) e26 (fun s21 q22 hf hx23 => ?_))
      refine MM.iload_n (i := 3) rfl rfl d_M_payers_54 rfl ?_
      refine MM.aload_n (i := 0) rfl rfl d_M_payers_55 rfl ?_
      obtain ⟨v28, e27, hf⟩ := mm_bind hf
      refine MM.callV1 (T_M_allSecrets V l  s21.2 _ e27) (fun _ _ q => q) cal_M_allSecrets rfl tg_261 ct_9 ww_94 ww_1911 ww_1909 (by decide) (by simp [Value.category]) d_M_payers_56 rfl ⟨rfl, rfl⟩ rfl ?_
      obtain ⟨m38, m39⟩ := mm_ifE hf
      refine MM.icmp_gt (tgt := 86) d_M_payers_59 rfl rfl (fun c37 => ?_) (fun c37 => ?_)
      · replace hf := m38 c37
        obtain rfl := Option.some.inj hf
        obtain rfl := Option.some.inj (mm_wxR hx23)
        exact MM.sub [0, 1, 2] (by rfl) K25
      · replace hf := m39 c37
        refine MM.aload_n (i := 0) rfl rfl d_M_payers_62 rfl ?_
        refine MM.gR 9 46 tg_261 rq_9_57 rfl lays_9 ww_1415 d_M_payers_63 rfl ?_
        refine MM.sipush sp_1024 d_M_payers_66 rfl ?_
        refine MM.iload_n (i := 2) rfl rfl d_M_payers_69 rfl ?_
        refine MM.imul d_M_payers_70 rfl ?_
        refine MM.iload_n (i := 3) rfl rfl d_M_payers_71 rfl ?_
        refine MM.iadd d_M_payers_72 rfl ?_
        refine MM.aload_n (i := 0) rfl rfl d_M_payers_73 rfl ?_
        refine MM.iload_n (i := 2) rfl rfl d_M_payers_74 rfl ?_
        refine MM.iload_n (i := 3) rfl rfl d_M_payers_75 rfl ?_
        obtain ⟨v30, e29, hf⟩ := mm_bind hf
        refine MM.callV1 (T_M_canPay V l s3.2.1 s21.1 s21.2 _ e29) (fun _ _ q => q) cal_M_canPay rfl tg_261 ct_9 ww_89 ww_1871 ww_1869 (by decide) (by simp [Value.category]) d_M_payers_76 rfl ⟨rfl, rfl⟩ rfl ?_
        obtain ⟨k31, e32, hf⟩ := mm_bind hf
        obtain ⟨h33, e34, hf⟩ := mm_letE hf
        refine MM.sZ e32 e34 al_307 d_M_payers_79 rfl ?_
        obtain ⟨y35, e36, hf⟩ := mm_letE hf
        refine MM.iinc (k0 := 3) (lv' := [(3, .int y35), (0, .ref 261), (1, .int y19), (2, .int s3.2.1)]) (by rw [ic_1]; exact e36) rfl (Nat.le_of_ble_eq_true rfl) rfl d_M_payers_80 rfl ?_
        refine MM.goto (tgt := 54) d_M_payers_83 rfl ?_
        obtain rfl := Option.some.inj hf
        have h9 := mm_wxL hx23
        exact MM.sub [1, 2, 3, 0] (by rfl) h9
    clear hf
    have hf := e42
    clear e42
    obtain ⟨m17, m18⟩ := mm_ifE hf
    refine MM.if_le (tgt := 49) d_M_payers_26 rfl rfl (fun c16 => ?_) (fun c16 => ?_)
    · replace hf := m17 c16
      refine MM.iconst ic_0 d_M_payers_49 rfl ?_
      obtain rfl := Option.some.inj hf
      exact MM.sub [0, 2] (by rfl) K12
    · replace hf := m18 c16
      refine MM.aload_n (i := 0) rfl rfl d_M_payers_29 rfl ?_
      refine MM.gR 9 40 tg_261 rq_9_50 rfl lays_9 ww_1408 d_M_payers_30 rfl ?_
      refine MM.bipush bp_78 d_M_payers_33 rfl ?_
      refine MM.gI ix_78_123 al_301 d_M_payers_35 rfl ?_
      refine MM.iload_n (i := 2) rfl rfl d_M_payers_36 rfl ?_
      refine MM.ishr d_M_payers_37 rfl ?_
      refine MM.iconst ic_1 d_M_payers_38 rfl ?_
      refine MM.iand d_M_payers_39 rfl ?_
      obtain ⟨m14, m15⟩ := mm_ifE hf
      refine MM.if_ne (tgt := 49) d_M_payers_40 rfl rfl (fun c13 => ?_) (fun c13 => ?_)
      · replace hf := m15 c13
        refine MM.iconst ic_0 d_M_payers_49 rfl ?_
        obtain rfl := Option.some.inj hf
        exact MM.sub [0, 2] (by rfl) K12
      · replace hf := m14 c13
        refine MM.iconst ic_1 d_M_payers_43 rfl ?_
        refine MM.iload_n (i := 2) rfl rfl d_M_payers_44 rfl ?_
        refine MM.ishl d_M_payers_45 rfl ?_
        refine MM.goto (tgt := 50) d_M_payers_46 rfl ?_
        obtain rfl := Option.some.inj hf
        exact MM.sub [0, 2] (by rfl) K12
theorem d_M_plots_0 : decode cX12_plots 0 = .ok (.aload_n 0, 1) := by decide +kernel
theorem d_M_plots_1 : decode cX12_plots 1 = .ok (.iload_n 1, 1) := by decide +kernel
theorem d_M_plots_2 : decode cX12_plots 2 = .ok (.invokevirtual 439, 3) := by decide +kernel
theorem d_M_plots_5 : decode cX12_plots 5 = .ok (.aload_n 0, 1) := by decide +kernel
theorem d_M_plots_6 : decode cX12_plots 6 = .ok (.iload_n 2, 1) := by decide +kernel
theorem d_M_plots_7 : decode cX12_plots 7 = .ok (.invokevirtual 439, 3) := by decide +kernel
theorem d_M_plots_10 : decode cX12_plots 10 = .ok (.isub, 1) := by decide +kernel
theorem d_M_plots_11 : decode cX12_plots 11 = .ok (.istore 5, 2) := by decide +kernel
theorem d_M_plots_13 : decode cX12_plots 13 = .ok (.aload_n 0, 1) := by decide +kernel
theorem d_M_plots_14 : decode cX12_plots 14 = .ok (.getfield 501, 3) := by decide +kernel
theorem d_M_plots_17 : decode cX12_plots 17 = .ok (.ifCond .lt 29, 3) := by decide +kernel
theorem d_M_plots_20 : decode cX12_plots 20 = .ok (.iload 5, 2) := by decide +kernel
theorem d_M_plots_22 : decode cX12_plots 22 = .ok (.aload_n 0, 1) := by decide +kernel
theorem d_M_plots_23 : decode cX12_plots 23 = .ok (.getfield 504, 3) := by decide +kernel
theorem d_M_plots_26 : decode cX12_plots 26 = .ok (.if_icmp .gt 20, 3) := by decide +kernel
theorem d_M_plots_29 : decode cX12_plots 29 = .ok (.iload 5, 2) := by decide +kernel
theorem d_M_plots_31 : decode cX12_plots 31 = .ok (.aload_n 0, 1) := by decide +kernel
theorem d_M_plots_32 : decode cX12_plots 32 = .ok (.getfield 504, 3) := by decide +kernel
theorem d_M_plots_35 : decode cX12_plots 35 = .ok (.if_icmp .ne 61, 3) := by decide +kernel
theorem d_M_plots_38 : decode cX12_plots 38 = .ok (.iload_n 3, 1) := by decide +kernel
theorem d_M_plots_39 : decode cX12_plots 39 = .ok (.aload_n 0, 1) := by decide +kernel
theorem d_M_plots_40 : decode cX12_plots 40 = .ok (.getfield 501, 3) := by decide +kernel
theorem d_M_plots_43 : decode cX12_plots 43 = .ok (.if_icmp .ge 53, 3) := by decide +kernel
theorem d_M_plots_46 : decode cX12_plots 46 = .ok (.aload_n 0, 1) := by decide +kernel
theorem d_M_plots_47 : decode cX12_plots 47 = .ok (.iload 5, 2) := by decide +kernel
theorem d_M_plots_49 : decode cX12_plots 49 = .ok (.putfield 504, 3) := by decide +kernel
theorem d_M_plots_52 : decode cX12_plots 52 = .ok (.aload_n 0, 1) := by decide +kernel
theorem d_M_plots_53 : decode cX12_plots 53 = .ok (.iload_n 3, 1) := by decide +kernel
theorem d_M_plots_54 : decode cX12_plots 54 = .ok (.putfield 501, 3) := by decide +kernel
theorem d_M_plots_57 : decode cX12_plots 57 = .ok (.iconst 0, 1) := by decide +kernel
theorem d_M_plots_58 : decode cX12_plots 58 = .ok (.istore 6, 2) := by decide +kernel
theorem d_M_plots_60 : decode cX12_plots 60 = .ok (.iload 6, 2) := by decide +kernel
theorem d_M_plots_62 : decode cX12_plots 62 = .ok (.iconst 2, 1) := by decide +kernel
theorem d_M_plots_63 : decode cX12_plots 63 = .ok (.if_icmp .ge 33, 3) := by decide +kernel
theorem d_M_plots_66 : decode cX12_plots 66 = .ok (.aload_n 0, 1) := by decide +kernel
theorem d_M_plots_67 : decode cX12_plots 67 = .ok (.getfield 154, 3) := by decide +kernel
theorem d_M_plots_70 : decode cX12_plots 70 = .ok (.iload 6, 2) := by decide +kernel
theorem d_M_plots_72 : decode cX12_plots 72 = .ok (.iload 6, 2) := by decide +kernel
theorem d_M_plots_74 : decode cX12_plots 74 = .ok (.iload_n 3, 1) := by decide +kernel
theorem d_M_plots_75 : decode cX12_plots 75 = .ok (.if_icmp .ge 13, 3) := by decide +kernel
theorem d_M_plots_78 : decode cX12_plots 78 = .ok (.aload_n 0, 1) := by decide +kernel
theorem d_M_plots_79 : decode cX12_plots 79 = .ok (.getfield 151, 3) := by decide +kernel
theorem d_M_plots_82 : decode cX12_plots 82 = .ok (.iload 6, 2) := by decide +kernel
theorem d_M_plots_84 : decode cX12_plots 84 = .ok (.iaload, 1) := by decide +kernel
theorem d_M_plots_85 : decode cX12_plots 85 = .ok (.goto 4, 3) := by decide +kernel
theorem d_M_plots_88 : decode cX12_plots 88 = .ok (.iconst (-1), 1) := by decide +kernel
theorem d_M_plots_89 : decode cX12_plots 89 = .ok (.iastore, 1) := by decide +kernel
theorem d_M_plots_90 : decode cX12_plots 90 = .ok (.iinc 6 1, 3) := by decide +kernel
theorem d_M_plots_93 : decode cX12_plots 93 = .ok (.goto (-33), 3) := by decide +kernel
theorem d_M_plots_96 : decode cX12_plots 96 = .ok (.iload_n 3, 1) := by decide +kernel
theorem d_M_plots_97 : decode cX12_plots 97 = .ok (.iload 4, 2) := by decide +kernel
theorem d_M_plots_99 : decode cX12_plots 99 = .ok (.if_icmp .ne 4, 3) := by decide +kernel
theorem d_M_plots_102 : decode cX12_plots 102 = .ok (.return_, 1) := by decide +kernel
theorem d_M_plots_103 : decode cX12_plots 103 = .ok (.iconst 0, 1) := by decide +kernel
theorem d_M_plots_104 : decode cX12_plots 104 = .ok (.istore 6, 2) := by decide +kernel
theorem d_M_plots_106 : decode cX12_plots 106 = .ok (.iload 6, 2) := by decide +kernel
theorem d_M_plots_108 : decode cX12_plots 108 = .ok (.aload_n 0, 1) := by decide +kernel
theorem d_M_plots_109 : decode cX12_plots 109 = .ok (.getfield 13, 3) := by decide +kernel
theorem d_M_plots_112 : decode cX12_plots 112 = .ok (.iconst 0, 1) := by decide +kernel
theorem d_M_plots_113 : decode cX12_plots 113 = .ok (.iaload, 1) := by decide +kernel
theorem d_M_plots_114 : decode cX12_plots 114 = .ok (.if_icmp .ge 188, 3) := by decide +kernel
theorem d_M_plots_117 : decode cX12_plots 117 = .ok (.iconst 0, 1) := by decide +kernel
theorem d_M_plots_118 : decode cX12_plots 118 = .ok (.istore 7, 2) := by decide +kernel
theorem d_M_plots_120 : decode cX12_plots 120 = .ok (.iload 7, 2) := by decide +kernel
theorem d_M_plots_122 : decode cX12_plots 122 = .ok (.aload_n 0, 1) := by decide +kernel
theorem d_M_plots_123 : decode cX12_plots 123 = .ok (.getfield 13, 3) := by decide +kernel
theorem d_M_plots_126 : decode cX12_plots 126 = .ok (.iconst 1, 1) := by decide +kernel
theorem d_M_plots_127 : decode cX12_plots 127 = .ok (.iaload, 1) := by decide +kernel
theorem d_M_plots_128 : decode cX12_plots 128 = .ok (.if_icmp .ge 168, 3) := by decide +kernel
theorem d_M_plots_131 : decode cX12_plots 131 = .ok (.iload 6, 2) := by decide +kernel
theorem d_M_plots_133 : decode cX12_plots 133 = .ok (.iload_n 1, 1) := by decide +kernel
theorem d_M_plots_134 : decode cX12_plots 134 = .ok (.if_icmp .eq 156, 3) := by decide +kernel
theorem d_M_plots_137 : decode cX12_plots 137 = .ok (.aload_n 0, 1) := by decide +kernel
theorem d_M_plots_138 : decode cX12_plots 138 = .ok (.iload_n 1, 1) := by decide +kernel
theorem d_M_plots_139 : decode cX12_plots 139 = .ok (.iload 6, 2) := by decide +kernel
theorem d_M_plots_141 : decode cX12_plots 141 = .ok (.iload 7, 2) := by decide +kernel
theorem d_M_plots_143 : decode cX12_plots 143 = .ok (.invokevirtual 464, 3) := by decide +kernel
theorem d_M_plots_146 : decode cX12_plots 146 = .ok (.ifCond .ne 6, 3) := by decide +kernel
theorem d_M_plots_149 : decode cX12_plots 149 = .ok (.goto 141, 3) := by decide +kernel
theorem d_M_plots_152 : decode cX12_plots 152 = .ok (.aload_n 0, 1) := by decide +kernel
theorem d_M_plots_153 : decode cX12_plots 153 = .ok (.getfield 129, 3) := by decide +kernel
theorem d_M_plots_156 : decode cX12_plots 156 = .ok (.bipush 76, 2) := by decide +kernel
theorem d_M_plots_158 : decode cX12_plots 158 = .ok (.iaload, 1) := by decide +kernel
theorem d_M_plots_159 : decode cX12_plots 159 = .ok (.istore 8, 2) := by decide +kernel
theorem d_M_plots_161 : decode cX12_plots 161 = .ok (.aload_n 0, 1) := by decide +kernel
theorem d_M_plots_162 : decode cX12_plots 162 = .ok (.getfield 129, 3) := by decide +kernel
theorem d_M_plots_165 : decode cX12_plots 165 = .ok (.bipush 10, 2) := by decide +kernel
theorem d_M_plots_167 : decode cX12_plots 167 = .ok (.bipush 10, 2) := by decide +kernel
theorem d_M_plots_169 : decode cX12_plots 169 = .ok (.iload_n 1, 1) := by decide +kernel
theorem d_M_plots_170 : decode cX12_plots 170 = .ok (.imul, 1) := by decide +kernel
theorem d_M_plots_171 : decode cX12_plots 171 = .ok (.iadd, 1) := by decide +kernel
theorem d_M_plots_172 : decode cX12_plots 172 = .ok (.iload 7, 2) := by decide +kernel
theorem d_M_plots_174 : decode cX12_plots 174 = .ok (.iadd, 1) := by decide +kernel
theorem d_M_plots_175 : decode cX12_plots 175 = .ok (.iaload, 1) := by decide +kernel
theorem d_M_plots_176 : decode cX12_plots 176 = .ok (.istore 9, 2) := by decide +kernel
theorem d_M_plots_178 : decode cX12_plots 178 = .ok (.aload_n 0, 1) := by decide +kernel
theorem d_M_plots_179 : decode cX12_plots 179 = .ok (.getfield 129, 3) := by decide +kernel
theorem d_M_plots_182 : decode cX12_plots 182 = .ok (.bipush 10, 2) := by decide +kernel
theorem d_M_plots_184 : decode cX12_plots 184 = .ok (.bipush 10, 2) := by decide +kernel
theorem d_M_plots_186 : decode cX12_plots 186 = .ok (.iload 6, 2) := by decide +kernel
theorem d_M_plots_188 : decode cX12_plots 188 = .ok (.imul, 1) := by decide +kernel
theorem d_M_plots_189 : decode cX12_plots 189 = .ok (.iadd, 1) := by decide +kernel
theorem d_M_plots_190 : decode cX12_plots 190 = .ok (.iload 7, 2) := by decide +kernel
theorem d_M_plots_192 : decode cX12_plots 192 = .ok (.iadd, 1) := by decide +kernel
theorem d_M_plots_193 : decode cX12_plots 193 = .ok (.iaload, 1) := by decide +kernel
theorem d_M_plots_194 : decode cX12_plots 194 = .ok (.istore 10, 2) := by decide +kernel
theorem d_M_plots_196 : decode cX12_plots 196 = .ok (.aload_n 0, 1) := by decide +kernel
theorem d_M_plots_197 : decode cX12_plots 197 = .ok (.getfield 151, 3) := by decide +kernel
theorem d_M_plots_200 : decode cX12_plots 200 = .ok (.iload_n 3, 1) := by decide +kernel
theorem d_M_plots_201 : decode cX12_plots 201 = .ok (.bipush 10, 2) := by decide +kernel
theorem d_M_plots_203 : decode cX12_plots 203 = .ok (.iload 6, 2) := by decide +kernel
theorem d_M_plots_205 : decode cX12_plots 205 = .ok (.imul, 1) := by decide +kernel
theorem d_M_plots_206 : decode cX12_plots 206 = .ok (.iload 7, 2) := by decide +kernel
theorem d_M_plots_208 : decode cX12_plots 208 = .ok (.iadd, 1) := by decide +kernel
theorem d_M_plots_209 : decode cX12_plots 209 = .ok (.iastore, 1) := by decide +kernel
theorem d_M_plots_210 : decode cX12_plots 210 = .ok (.aload_n 0, 1) := by decide +kernel
theorem d_M_plots_211 : decode cX12_plots 211 = .ok (.iload_n 1, 1) := by decide +kernel
theorem d_M_plots_212 : decode cX12_plots 212 = .ok (.iload 6, 2) := by decide +kernel
theorem d_M_plots_214 : decode cX12_plots 214 = .ok (.iload 7, 2) := by decide +kernel
theorem d_M_plots_216 : decode cX12_plots 216 = .ok (.invokevirtual 470, 3) := by decide +kernel
theorem d_M_plots_219 : decode cX12_plots 219 = .ok (.aload_n 0, 1) := by decide +kernel
theorem d_M_plots_220 : decode cX12_plots 220 = .ok (.iload_n 1, 1) := by decide +kernel
theorem d_M_plots_221 : decode cX12_plots 221 = .ok (.iload_n 2, 1) := by decide +kernel
theorem d_M_plots_222 : decode cX12_plots 222 = .ok (.iload_n 3, 1) := by decide +kernel
theorem d_M_plots_223 : decode cX12_plots 223 = .ok (.iconst 1, 1) := by decide +kernel
theorem d_M_plots_224 : decode cX12_plots 224 = .ok (.iadd, 1) := by decide +kernel
theorem d_M_plots_225 : decode cX12_plots 225 = .ok (.iload 4, 2) := by decide +kernel
theorem d_M_plots_227 : decode cX12_plots 227 = .ok (.invokevirtual 507, 3) := by decide +kernel
theorem d_M_plots_230 : decode cX12_plots 230 = .ok (.aload_n 0, 1) := by decide +kernel
theorem d_M_plots_231 : decode cX12_plots 231 = .ok (.getfield 129, 3) := by decide +kernel
theorem d_M_plots_234 : decode cX12_plots 234 = .ok (.bipush 76, 2) := by decide +kernel
theorem d_M_plots_236 : decode cX12_plots 236 = .ok (.iload 8, 2) := by decide +kernel
theorem d_M_plots_238 : decode cX12_plots 238 = .ok (.iastore, 1) := by decide +kernel
theorem d_M_plots_239 : decode cX12_plots 239 = .ok (.aload_n 0, 1) := by decide +kernel
theorem d_M_plots_240 : decode cX12_plots 240 = .ok (.getfield 129, 3) := by decide +kernel
theorem d_M_plots_243 : decode cX12_plots 243 = .ok (.bipush 10, 2) := by decide +kernel
theorem d_M_plots_245 : decode cX12_plots 245 = .ok (.bipush 10, 2) := by decide +kernel
theorem d_M_plots_247 : decode cX12_plots 247 = .ok (.iload_n 1, 1) := by decide +kernel
theorem d_M_plots_248 : decode cX12_plots 248 = .ok (.imul, 1) := by decide +kernel
theorem d_M_plots_249 : decode cX12_plots 249 = .ok (.iadd, 1) := by decide +kernel
theorem d_M_plots_250 : decode cX12_plots 250 = .ok (.iload 7, 2) := by decide +kernel
theorem d_M_plots_252 : decode cX12_plots 252 = .ok (.iadd, 1) := by decide +kernel
theorem d_M_plots_253 : decode cX12_plots 253 = .ok (.iload 9, 2) := by decide +kernel
theorem d_M_plots_255 : decode cX12_plots 255 = .ok (.iastore, 1) := by decide +kernel
theorem d_M_plots_256 : decode cX12_plots 256 = .ok (.aload_n 0, 1) := by decide +kernel
theorem d_M_plots_257 : decode cX12_plots 257 = .ok (.getfield 129, 3) := by decide +kernel
theorem d_M_plots_260 : decode cX12_plots 260 = .ok (.bipush 10, 2) := by decide +kernel
theorem d_M_plots_262 : decode cX12_plots 262 = .ok (.bipush 10, 2) := by decide +kernel
theorem d_M_plots_264 : decode cX12_plots 264 = .ok (.iload 6, 2) := by decide +kernel
theorem d_M_plots_266 : decode cX12_plots 266 = .ok (.imul, 1) := by decide +kernel
theorem d_M_plots_267 : decode cX12_plots 267 = .ok (.iadd, 1) := by decide +kernel
theorem d_M_plots_268 : decode cX12_plots 268 = .ok (.iload 7, 2) := by decide +kernel
theorem d_M_plots_270 : decode cX12_plots 270 = .ok (.iadd, 1) := by decide +kernel
theorem d_M_plots_271 : decode cX12_plots 271 = .ok (.iload 10, 2) := by decide +kernel
theorem d_M_plots_273 : decode cX12_plots 273 = .ok (.iastore, 1) := by decide +kernel
theorem d_M_plots_274 : decode cX12_plots 274 = .ok (.aload_n 0, 1) := by decide +kernel
theorem d_M_plots_275 : decode cX12_plots 275 = .ok (.getfield 129, 3) := by decide +kernel
theorem d_M_plots_278 : decode cX12_plots 278 = .ok (.iload 7, 2) := by decide +kernel
theorem d_M_plots_280 : decode cX12_plots 280 = .ok (.dup2, 1) := by decide +kernel
theorem d_M_plots_281 : decode cX12_plots 281 = .ok (.iaload, 1) := by decide +kernel
theorem d_M_plots_282 : decode cX12_plots 282 = .ok (.iconst 1, 1) := by decide +kernel
theorem d_M_plots_283 : decode cX12_plots 283 = .ok (.iload 6, 2) := by decide +kernel
theorem d_M_plots_285 : decode cX12_plots 285 = .ok (.ishl, 1) := by decide +kernel
theorem d_M_plots_286 : decode cX12_plots 286 = .ok (.iconst (-1), 1) := by decide +kernel
theorem d_M_plots_287 : decode cX12_plots 287 = .ok (.ixor, 1) := by decide +kernel
theorem d_M_plots_288 : decode cX12_plots 288 = .ok (.iand, 1) := by decide +kernel
theorem d_M_plots_289 : decode cX12_plots 289 = .ok (.iastore, 1) := by decide +kernel
theorem d_M_plots_290 : decode cX12_plots 290 = .ok (.iinc 7 1, 3) := by decide +kernel
theorem d_M_plots_293 : decode cX12_plots 293 = .ok (.goto (-173), 3) := by decide +kernel
theorem d_M_plots_296 : decode cX12_plots 296 = .ok (.iinc 6 1, 3) := by decide +kernel
theorem d_M_plots_299 : decode cX12_plots 299 = .ok (.goto (-193), 3) := by decide +kernel
theorem d_M_plots_302 : decode cX12_plots 302 = .ok (.return_, 1) := by decide +kernel
noncomputable def f_M_plots_b (rp : Int32 → Int32 → Int32 → Int32 → mm_H → Option mm_H) (x1 : Int32) (x2 : Int32) (x3 : Int32) (x4 : Int32) (h : mm_H) : Option mm_H := (f_M_purse x1 h).bind fun v2 => (f_M_purse x2 v2.2).bind fun v4 => mm_let (v2.1 - v4.1) fun y5 => (mm_jp (fun (j9 : Unit) => (mm_let (mm_pI v4.2 261 60 y5) fun h12 => mm_let (mm_pI h12 261 61 x3) fun h14 => (mm_while (σ := (Int32 × mm_H)) (ρ := mm_H) (fun s16 => if 2 ≤ s16.1 then (some (Sum.inr s16.2)) else ((if x3 ≤ s16.1 then (some (-1)) else ((mm_ix s16.1 2).bind fun k24 => some (s16.2.1 308 k24)) : Option Int32).bind fun j22 => (mm_ix s16.1 2).bind fun k29 => mm_let (mm_pI s16.2 309 k29 j22) fun h31 => mm_let (s16.1 + 1) fun y33 => some (Sum.inl (y33, h31)))) (0, h14)).bind fun v19 => some v19)) fun k11 => if (v4.2.1 261 61) < 0 then (k11 ()) else (if (v4.2.1 261 60) < y5 then (k11 ()) else (if y5 = (v4.2.1 261 60) then (if (v4.2.1 261 61) ≤ x3 then (some v4.2) else (k11 ())) else (some v4.2))) : Option mm_H).bind fun j7 => if x3 = x4 then (some j7) else ((mm_while (σ := (Int32 × mm_H)) (ρ := mm_H) (fun s52 => if (s52.2.1 263 0) ≤ s52.1 then (some (Sum.inr s52.2)) else ((mm_while (σ := (Int32 × mm_H)) (ρ := mm_H) (fun s58 => if (s58.2.1 263 1) ≤ s58.1 then (some (Sum.inr s58.2)) else ((if s52.1 = x1 then (some s58.2) else ((f_M_canTell x1 s52.1 s58.1 s58.2).bind fun v67 => if v67 = 0 then (some s58.2) else (mm_let (s58.2.1 301 76) fun y68 => (mm_ix ((10 + (10 * x1)) + s58.1) 123).bind fun k70 => mm_let (s58.2.1 301 k70) fun y72 => (mm_ix ((10 + (10 * s52.1)) + s58.1) 123).bind fun k74 => mm_let (s58.2.1 301 k74) fun y76 => (mm_ix x3 2).bind fun k78 => mm_let (mm_pI s58.2 308 k78 ((10 * s52.1) + s58.1)) fun h80 => (f_M_tells x1 s52.1 s58.1 h80).bind fun v83 => (rp x1 x2 (x3 + 1) x4 v83).bind fun v85 => mm_let (mm_pI v85 301 76 y68) fun h86 => (mm_ix ((10 + (10 * x1)) + s58.1) 123).bind fun k88 => mm_let (mm_pI h86 301 k88 y72) fun h90 => (mm_ix ((10 + (10 * s52.1)) + s58.1) 123).bind fun k92 => mm_let (mm_pI h90 301 k92 y76) fun h94 => (mm_ix s58.1 123).bind fun k96 => (mm_ix s58.1 123).bind fun k98 => mm_let (mm_pI h94 301 k98 ((h94.1 301 k96) &&& (((1 : Int32) <<< (s52.1 &&& 31)) ^^^ (-1)))) fun h100 => some h100)) : Option mm_H).bind fun j64 => mm_let (s58.1 + 1) fun y108 => some (Sum.inl (y108, j64)))) (0, s52.2)).bind fun v61 => mm_let (s52.1 + 1) fun y114 => some (Sum.inl (y114, v61)))) (0, j7)).bind fun v55 => some v55)
theorem T_M_plots_b (V : mm_V) (l : Launch) (rp : Int32 → Int32 → Int32 → Int32 → mm_H → Option mm_H) (D : Nat) (hD : 20 ≤ D) (hrp : ∀ (x1 : Int32) (x2 : Int32) (x3 : Int32) (x4 : Int32) (h : mm_H) (r : mm_H), rp x1 x2 x3 x4 h = some r → MT V l Y_M_plots D [.ref 261, .int x1, .int x2, .int x3, .int x4] (fun r1 h1 => r1 = none ∧ h1 = r) h) (x1 : Int32) (x2 : Int32) (x3 : Int32) (x4 : Int32) (h : mm_H) (r : mm_H) (hf : f_M_plots_b rp x1 x2 x3 x4 h = some r) : MT V l Y_M_plots (D + 1) [.ref 261, .int x1, .int x2, .int x3, .int x4] (fun r1 h1 => r1 = none ∧ h1 = r) h := by
  unfold f_M_plots_b at hf
  refine MT.intro (pn_M rfl) [(0, .ref 261), (1, .int x1), (2, .int x2), (3, .int x3), (4, .int x4)] rfl (Nat.le_of_ble_eq_true rfl) ?_
  generalize hZ : mm_Z V _ = Z0
  refine MM.aload_n (i := 0) rfl rfl d_M_plots_0 rfl ?_
  refine MM.iload_n (i := 1) rfl rfl d_M_plots_1 rfl ?_
  obtain ⟨v2, e1, hf⟩ := mm_bind hf
  refine MM.callV1 (T_M_purse V l x1 h _ e1) (fun _ _ q => q) cal_M_purse rfl tg_261 ct_9 ww_72 ww_1775 ww_1773 (by omega) (by simp [Value.category]) d_M_plots_2 rfl ⟨rfl, rfl⟩ rfl ?_
  refine MM.aload_n (i := 0) rfl rfl d_M_plots_5 rfl ?_
  refine MM.iload_n (i := 2) rfl rfl d_M_plots_6 rfl ?_
  obtain ⟨v4, e3, hf⟩ := mm_bind hf
  refine MM.callV1 (T_M_purse V l x2 v2.2 _ e3) (fun _ _ q => q) cal_M_purse rfl tg_261 ct_9 ww_72 ww_1775 ww_1773 (by omega) (by simp [Value.category]) d_M_plots_7 rfl ⟨rfl, rfl⟩ rfl ?_
  refine MM.isub d_M_plots_10 rfl ?_
  obtain ⟨y5, e6, hf⟩ := mm_letE hf
  refine MM.istore (lv' := [(5, .int y5), (0, .ref 261), (1, .int x1), (2, .int x2), (3, .int x3), (4, .int x4)]) e6 (Nat.le_of_ble_eq_true rfl) rfl d_M_plots_11 rfl ?_
  refine MM.aload_n (i := 0) rfl rfl d_M_plots_13 rfl ?_
  refine MM.getI 9 tg_261 lays_9 gq_9_61 ww_1419 d_M_plots_14 rfl ?_
  obtain ⟨j7, e122, hf⟩ := mm_bind hf
  have K8 : MM V l Y_M_plots (D + 1) 0 0 Z0 96 [(0, .ref 261), (1, .int x1), (2, .int x2), (3, .int x3), (4, .int x4)] [] j7 := by
    refine MM.iload_n (i := 3) rfl rfl d_M_plots_96 rfl ?_
    refine MM.iload rfl d_M_plots_97 rfl ?_
    obtain ⟨m120, m121⟩ := mm_ifE hf
    refine MM.icmp_ne (tgt := 103) d_M_plots_99 rfl rfl (fun c119 => ?_) (fun c119 => ?_)
    · replace hf := m121 c119
      refine MM.iconst ic_0 d_M_plots_103 rfl ?_
      refine MM.istore (lv' := [(6, .int 0), (0, .ref 261), (1, .int x1), (2, .int x2), (3, .int x3), (4, .int x4)]) rfl (Nat.le_of_ble_eq_true rfl) rfl d_M_plots_104 rfl ?_
      obtain ⟨v55, e57, hf⟩ := mm_bind hf
      have K56 : MM V l Y_M_plots (D + 1) 0 0 Z0 302 [] [] v55 := by
        obtain rfl := Option.some.inj hf
        subst hZ
        exact MM.vret rfl d_M_plots_302 ⟨rfl, rfl⟩
      clear hf
      refine MM.sub [1, 2, 3, 4, 5, 0] (by rfl) (mm_while_ind (fun s52 => MM V l Y_M_plots (D + 1) 0 0 Z0 106 [(0, .ref 261), (1, .int x1), (2, .int x2), (3, .int x3), (4, .int x4), (6, .int s52.1)] [] s52.2) e57 (fun s52 q53 hf hx54 => ?_))
      refine MM.iload rfl d_M_plots_106 rfl ?_
      refine MM.aload_n (i := 0) rfl rfl d_M_plots_108 rfl ?_
      refine MM.gR 9 2 tg_261 rq_9_10 rfl lays_9 ww_1368 d_M_plots_109 rfl ?_
      refine MM.iconst ic_0 d_M_plots_112 rfl ?_
      refine MM.gI ix_0_8 al_263 d_M_plots_113 rfl ?_
      obtain ⟨m117, m118⟩ := mm_ifE hf
      refine MM.icmp_ge (tgt := 302) d_M_plots_114 rfl rfl (fun c116 => ?_) (fun c116 => ?_)
      · replace hf := m117 c116
        obtain rfl := Option.some.inj hf
        obtain rfl := Option.some.inj (mm_wxR hx54)
        exact MM.sub [] (by rfl) K56
      · replace hf := m118 c116
        refine MM.iconst ic_0 d_M_plots_117 rfl ?_
        refine MM.istore (lv' := [(7, .int 0), (0, .ref 261), (1, .int x1), (2, .int x2), (3, .int x3), (4, .int x4), (6, .int s52.1)]) rfl (Nat.le_of_ble_eq_true rfl) rfl d_M_plots_118 rfl ?_
        obtain ⟨v61, e63, hf⟩ := mm_bind hf
        have K62 : MM V l Y_M_plots (D + 1) 0 0 Z0 296 [(0, .ref 261), (1, .int x1), (2, .int x2), (3, .int x3), (4, .int x4), (6, .int s52.1)] [] v61 := by
          obtain ⟨y114, e115, hf⟩ := mm_letE hf
          refine MM.iinc (k0 := 5) (lv' := [(6, .int y114), (0, .ref 261), (1, .int x1), (2, .int x2), (3, .int x3), (4, .int x4)]) (by rw [ic_1]; exact e115) rfl (Nat.le_of_ble_eq_true rfl) rfl d_M_plots_296 rfl ?_
          refine MM.goto (tgt := 106) d_M_plots_299 rfl ?_
          obtain rfl := Option.some.inj hf
          have h9 := mm_wxL hx54
          exact MM.sub [1, 2, 3, 4, 5, 0] (by rfl) h9
        clear hf
        refine MM.sub [1, 2, 3, 4, 5, 6, 0] (by rfl) (mm_while_ind (fun s58 => MM V l Y_M_plots (D + 1) 0 0 Z0 120 [(0, .ref 261), (1, .int x1), (2, .int x2), (3, .int x3), (4, .int x4), (6, .int s52.1), (7, .int s58.1)] [] s58.2) e63 (fun s58 q59 hf hx60 => ?_))
        refine MM.iload rfl d_M_plots_120 rfl ?_
        refine MM.aload_n (i := 0) rfl rfl d_M_plots_122 rfl ?_
        refine MM.gR 9 2 tg_261 rq_9_10 rfl lays_9 ww_1368 d_M_plots_123 rfl ?_
        refine MM.iconst ic_1 d_M_plots_126 rfl ?_
        refine MM.gI ix_1_8 al_263 d_M_plots_127 rfl ?_
        obtain ⟨m112, m113⟩ := mm_ifE hf
        refine MM.icmp_ge (tgt := 296) d_M_plots_128 rfl rfl (fun c111 => ?_) (fun c111 => ?_)
        · replace hf := m112 c111
          obtain rfl := Option.some.inj hf
          obtain rfl := Option.some.inj (mm_wxR hx60)
          exact MM.sub [0, 1, 2, 3, 4, 5] (by rfl) K62
        · replace hf := m113 c111
          refine MM.iload rfl d_M_plots_131 rfl ?_
          refine MM.iload_n (i := 1) rfl rfl d_M_plots_133 rfl ?_
          obtain ⟨j64, e110, hf⟩ := mm_bind hf
          have K65 : MM V l Y_M_plots (D + 1) 0 0 Z0 290 [(0, .ref 261), (1, .int x1), (2, .int x2), (3, .int x3), (4, .int x4), (6, .int s52.1), (7, .int s58.1)] [] j64 := by
            obtain ⟨y108, e109, hf⟩ := mm_letE hf
            refine MM.iinc (k0 := 6) (lv' := [(7, .int y108), (0, .ref 261), (1, .int x1), (2, .int x2), (3, .int x3), (4, .int x4), (6, .int s52.1)]) (by rw [ic_1]; exact e109) rfl (Nat.le_of_ble_eq_true rfl) rfl d_M_plots_290 rfl ?_
            refine MM.goto (tgt := 120) d_M_plots_293 rfl ?_
            obtain rfl := Option.some.inj hf
            have h9 := mm_wxL hx60
            exact MM.sub [1, 2, 3, 4, 5, 6, 0] (by rfl) h9
          clear hf
          have hf := e110
          clear e110
          obtain ⟨m106, m107⟩ := mm_ifE hf
          refine MM.icmp_eq (tgt := 290) d_M_plots_134 rfl rfl (fun c105 => ?_) (fun c105 => ?_)
          · replace hf := m106 c105
            obtain rfl := Option.some.inj hf
            exact MM.sub [0, 1, 2, 3, 4, 5, 6] (by rfl) K65
          · replace hf := m107 c105
            refine MM.aload_n (i := 0) rfl rfl d_M_plots_137 rfl ?_
            refine MM.iload_n (i := 1) rfl rfl d_M_plots_138 rfl ?_
            refine MM.iload rfl d_M_plots_139 rfl ?_
            refine MM.iload rfl d_M_plots_141 rfl ?_
            obtain ⟨v67, e66, hf⟩ := mm_bind hf
            refine MM.callV1 (T_M_canTell V l x1 s52.1 s58.1 s58.2 _ e66) (fun _ _ q => q) cal_M_canTell rfl tg_261 ct_9 ww_85 ww_1848 ww_1846 (by omega) (by simp [Value.category]) d_M_plots_143 rfl ⟨rfl, rfl⟩ rfl ?_
            obtain ⟨m103, m104⟩ := mm_ifE hf
            refine MM.if_ne (tgt := 152) d_M_plots_146 rfl rfl (fun c102 => ?_) (fun c102 => ?_)
            · replace hf := m104 c102
              refine MM.aload_n (i := 0) rfl rfl d_M_plots_152 rfl ?_
              refine MM.gR 9 40 tg_261 rq_9_50 rfl lays_9 ww_1408 d_M_plots_153 rfl ?_
              refine MM.bipush bp_76 d_M_plots_156 rfl ?_
              refine MM.gI ix_76_123 al_301 d_M_plots_158 rfl ?_
              obtain ⟨y68, e69, hf⟩ := mm_letE hf
              refine MM.istore (lv' := [(8, .int y68), (0, .ref 261), (1, .int x1), (2, .int x2), (3, .int x3), (4, .int x4), (6, .int s52.1), (7, .int s58.1)]) e69 (Nat.le_of_ble_eq_true rfl) rfl d_M_plots_159 rfl ?_
              refine MM.aload_n (i := 0) rfl rfl d_M_plots_161 rfl ?_
              refine MM.gR 9 40 tg_261 rq_9_50 rfl lays_9 ww_1408 d_M_plots_162 rfl ?_
              refine MM.bipush bp_10 d_M_plots_165 rfl ?_
              refine MM.bipush bp_10 d_M_plots_167 rfl ?_
              refine MM.iload_n (i := 1) rfl rfl d_M_plots_169 rfl ?_
              refine MM.imul d_M_plots_170 rfl ?_
              refine MM.iadd d_M_plots_171 rfl ?_
              refine MM.iload rfl d_M_plots_172 rfl ?_
              refine MM.iadd d_M_plots_174 rfl ?_
              obtain ⟨k70, e71, hf⟩ := mm_bind hf
              refine MM.gI e71 al_301 d_M_plots_175 rfl ?_
              obtain ⟨y72, e73, hf⟩ := mm_letE hf
              refine MM.istore (lv' := [(9, .int y72), (8, .int y68), (0, .ref 261), (1, .int x1), (2, .int x2), (3, .int x3), (4, .int x4), (6, .int s52.1), (7, .int s58.1)]) e73 (Nat.le_of_ble_eq_true rfl) rfl d_M_plots_176 rfl ?_
              refine MM.aload_n (i := 0) rfl rfl d_M_plots_178 rfl ?_
              refine MM.gR 9 40 tg_261 rq_9_50 rfl lays_9 ww_1408 d_M_plots_179 rfl ?_
              refine MM.bipush bp_10 d_M_plots_182 rfl ?_
              refine MM.bipush bp_10 d_M_plots_184 rfl ?_
              refine MM.iload rfl d_M_plots_186 rfl ?_
              refine MM.imul d_M_plots_188 rfl ?_
              refine MM.iadd d_M_plots_189 rfl ?_
              refine MM.iload rfl d_M_plots_190 rfl ?_
              refine MM.iadd d_M_plots_192 rfl ?_
              obtain ⟨k74, e75, hf⟩ := mm_bind hf
              refine MM.gI e75 al_301 d_M_plots_193 rfl ?_
              obtain ⟨y76, e77, hf⟩ := mm_letE hf
              refine MM.istore (lv' := [(10, .int y76), (9, .int y72), (8, .int y68), (0, .ref 261), (1, .int x1), (2, .int x2), (3, .int x3), (4, .int x4), (6, .int s52.1), (7, .int s58.1)]) e77 (Nat.le_of_ble_eq_true rfl) rfl d_M_plots_194 rfl ?_
              refine MM.aload_n (i := 0) rfl rfl d_M_plots_196 rfl ?_
              refine MM.gR 9 47 tg_261 rq_9_58 rfl lays_9 ww_1416 d_M_plots_197 rfl ?_
              refine MM.iload_n (i := 3) rfl rfl d_M_plots_200 rfl ?_
              refine MM.bipush bp_10 d_M_plots_201 rfl ?_
              refine MM.iload rfl d_M_plots_203 rfl ?_
              refine MM.imul d_M_plots_205 rfl ?_
              refine MM.iload rfl d_M_plots_206 rfl ?_
              refine MM.iadd d_M_plots_208 rfl ?_
              obtain ⟨k78, e79, hf⟩ := mm_bind hf
              obtain ⟨h80, e81, hf⟩ := mm_letE hf
              refine MM.sI e79 e81 al_308 d_M_plots_209 rfl ?_
              refine MM.aload_n (i := 0) rfl rfl d_M_plots_210 rfl ?_
              refine MM.iload_n (i := 1) rfl rfl d_M_plots_211 rfl ?_
              refine MM.iload rfl d_M_plots_212 rfl ?_
              refine MM.iload rfl d_M_plots_214 rfl ?_
              obtain ⟨v83, e82, hf⟩ := mm_bind hf
              refine MM.callV0 (T_M_tells V l x1 s52.1 s58.1 h80 _ e82) (fun _ _ q => q) cal_M_tells rfl tg_261 ct_9 ww_88 ww_1863 ww_1861 (by omega) (by simp [Value.category]) d_M_plots_216 rfl ⟨rfl, rfl⟩ rfl ?_
              refine MM.aload_n (i := 0) rfl rfl d_M_plots_219 rfl ?_
              refine MM.iload_n (i := 1) rfl rfl d_M_plots_220 rfl ?_
              refine MM.iload_n (i := 2) rfl rfl d_M_plots_221 rfl ?_
              refine MM.iload_n (i := 3) rfl rfl d_M_plots_222 rfl ?_
              refine MM.iconst ic_1 d_M_plots_223 rfl ?_
              refine MM.iadd d_M_plots_224 rfl ?_
              refine MM.iload rfl d_M_plots_225 rfl ?_
              obtain ⟨v85, e84, hf⟩ := mm_bind hf
              refine MM.callV0 (hrp x1 x2 (x3 + 1) x4 v83 _ e84) (fun _ _ q => q) cal_M_plots rfl tg_261 ct_9 ww_97 ww_1938 ww_1936 (by omega) (by simp [Value.category]) d_M_plots_227 rfl ⟨rfl, rfl⟩ rfl ?_
              refine MM.aload_n (i := 0) rfl rfl d_M_plots_230 rfl ?_
              refine MM.gR 9 40 tg_261 rq_9_50 rfl lays_9 ww_1408 d_M_plots_231 rfl ?_
              refine MM.bipush bp_76 d_M_plots_234 rfl ?_
              refine MM.iload rfl d_M_plots_236 rfl ?_
              obtain ⟨h86, e87, hf⟩ := mm_letE hf
              refine MM.sI ix_76_123 e87 al_301 d_M_plots_238 rfl ?_
              refine MM.aload_n (i := 0) rfl rfl d_M_plots_239 rfl ?_
              refine MM.gR 9 40 tg_261 rq_9_50 rfl lays_9 ww_1408 d_M_plots_240 rfl ?_
              refine MM.bipush bp_10 d_M_plots_243 rfl ?_
              refine MM.bipush bp_10 d_M_plots_245 rfl ?_
              refine MM.iload_n (i := 1) rfl rfl d_M_plots_247 rfl ?_
              refine MM.imul d_M_plots_248 rfl ?_
              refine MM.iadd d_M_plots_249 rfl ?_
              refine MM.iload rfl d_M_plots_250 rfl ?_
              refine MM.iadd d_M_plots_252 rfl ?_
              refine MM.iload rfl d_M_plots_253 rfl ?_
              obtain ⟨k88, e89, hf⟩ := mm_bind hf
              obtain ⟨h90, e91, hf⟩ := mm_letE hf
              refine MM.sI e89 e91 al_301 d_M_plots_255 rfl ?_
              refine MM.aload_n (i := 0) rfl rfl d_M_plots_256 rfl ?_
              refine MM.gR 9 40 tg_261 rq_9_50 rfl lays_9 ww_1408 d_M_plots_257 rfl ?_
              refine MM.bipush bp_10 d_M_plots_260 rfl ?_
              refine MM.bipush bp_10 d_M_plots_262 rfl ?_
              refine MM.iload rfl d_M_plots_264 rfl ?_
              refine MM.imul d_M_plots_266 rfl ?_
              refine MM.iadd d_M_plots_267 rfl ?_
              refine MM.iload rfl d_M_plots_268 rfl ?_
              refine MM.iadd d_M_plots_270 rfl ?_
              refine MM.iload rfl d_M_plots_271 rfl ?_
              obtain ⟨k92, e93, hf⟩ := mm_bind hf
              obtain ⟨h94, e95, hf⟩ := mm_letE hf
              refine MM.sI e93 e95 al_301 d_M_plots_273 rfl ?_
              refine MM.aload_n (i := 0) rfl rfl d_M_plots_274 rfl ?_
              refine MM.gR 9 40 tg_261 rq_9_50 rfl lays_9 ww_1408 d_M_plots_275 rfl ?_
              refine MM.iload rfl d_M_plots_278 rfl ?_
              refine MM.dup2 rfl rfl d_M_plots_280 rfl ?_
              obtain ⟨k96, e97, hf⟩ := mm_bind hf
              refine MM.gI e97 al_301 d_M_plots_281 rfl ?_
              refine MM.iconst ic_1 d_M_plots_282 rfl ?_
              refine MM.iload rfl d_M_plots_283 rfl ?_
              refine MM.ishl d_M_plots_285 rfl ?_
              refine MM.iconst ic_m1 d_M_plots_286 rfl ?_
              refine MM.ixor d_M_plots_287 rfl ?_
              refine MM.iand d_M_plots_288 rfl ?_
              obtain ⟨k98, e99, hf⟩ := mm_bind hf
              obtain ⟨h100, e101, hf⟩ := mm_letE hf
              refine MM.sI e99 e101 al_301 d_M_plots_289 rfl ?_
              obtain rfl := Option.some.inj hf
              exact MM.sub [3, 4, 5, 6, 7, 8, 9] (by rfl) K65
            · replace hf := m103 c102
              refine MM.goto (tgt := 290) d_M_plots_149 rfl ?_
              obtain rfl := Option.some.inj hf
              exact MM.sub [0, 1, 2, 3, 4, 5, 6] (by rfl) K65
    · replace hf := m120 c119
      obtain rfl := Option.some.inj hf
      subst hZ
      exact MM.vret rfl d_M_plots_102 ⟨rfl, rfl⟩
  clear hf
  have hf := e122
  clear e122
  obtain ⟨k11, e51, hf⟩ := mm_jpE hf
  have K10 : ∀ j9, k11 j9 = some j7 → MM V l Y_M_plots (D + 1) 0 0 Z0 46 [(0, .ref 261), (1, .int x1), (2, .int x2), (3, .int x3), (4, .int x4), (5, .int y5)] [] v4.2 := by
    intro j9 hf
    rw [e51] at hf
    refine MM.aload_n (i := 0) rfl rfl d_M_plots_46 rfl ?_
    refine MM.iload rfl d_M_plots_47 rfl ?_
    obtain ⟨h12, e13, hf⟩ := mm_letE hf
    refine MM.putI e13 9 tg_261 lays_9 toks_9 pq_9_60 ww_1418 d_M_plots_49 rfl ?_
    refine MM.aload_n (i := 0) rfl rfl d_M_plots_52 rfl ?_
    refine MM.iload_n (i := 3) rfl rfl d_M_plots_53 rfl ?_
    obtain ⟨h14, e15, hf⟩ := mm_letE hf
    refine MM.putI e15 9 tg_261 lays_9 toks_9 pq_9_61 ww_1419 d_M_plots_54 rfl ?_
    refine MM.iconst ic_0 d_M_plots_57 rfl ?_
    refine MM.istore (lv' := [(6, .int 0), (0, .ref 261), (1, .int x1), (2, .int x2), (3, .int x3), (4, .int x4), (5, .int y5)]) rfl (Nat.le_of_ble_eq_true rfl) rfl d_M_plots_58 rfl ?_
    obtain ⟨v19, e21, hf⟩ := mm_bind hf
    have K20 : MM V l Y_M_plots (D + 1) 0 0 Z0 96 [(0, .ref 261), (1, .int x1), (2, .int x2), (3, .int x3), (4, .int x4)] [] v19 := by
      obtain rfl := Option.some.inj hf
      exact MM.sub [0, 1, 2, 3, 4] (by rfl) K8
    clear hf
    refine MM.sub [1, 2, 3, 4, 5, 0] (by rfl) (mm_while_ind (fun s16 => MM V l Y_M_plots (D + 1) 0 0 Z0 60 [(0, .ref 261), (1, .int x1), (2, .int x2), (3, .int x3), (4, .int x4), (6, .int s16.1)] [] s16.2) e21 (fun s16 q17 hf hx18 => ?_))
    refine MM.iload rfl d_M_plots_60 rfl ?_
    refine MM.iconst ic_2 d_M_plots_62 rfl ?_
    obtain ⟨m37, m38⟩ := mm_ifE hf
    refine MM.icmp_ge (tgt := 96) d_M_plots_63 rfl rfl (fun c36 => ?_) (fun c36 => ?_)
    · replace hf := m37 c36
      obtain rfl := Option.some.inj hf
      obtain rfl := Option.some.inj (mm_wxR hx18)
      exact MM.sub [0, 1, 2, 3, 4] (by rfl) K20
    · replace hf := m38 c36
      refine MM.aload_n (i := 0) rfl rfl d_M_plots_66 rfl ?_
      refine MM.gR 9 48 tg_261 rq_9_59 rfl lays_9 ww_1417 d_M_plots_67 rfl ?_
      refine MM.iload rfl d_M_plots_70 rfl ?_
      refine MM.iload rfl d_M_plots_72 rfl ?_
      refine MM.iload_n (i := 3) rfl rfl d_M_plots_74 rfl ?_
      obtain ⟨j22, e35, hf⟩ := mm_bind hf
      have K23 : MM V l Y_M_plots (D + 1) 0 0 Z0 89 [(0, .ref 261), (1, .int x1), (2, .int x2), (3, .int x3), (4, .int x4), (6, .int s16.1)] [.int j22, .int s16.1, .ref 309] s16.2 := by
        obtain ⟨k29, e30, hf⟩ := mm_bind hf
        obtain ⟨h31, e32, hf⟩ := mm_letE hf
        refine MM.sI e30 e32 al_309 d_M_plots_89 rfl ?_
        obtain ⟨y33, e34, hf⟩ := mm_letE hf
        refine MM.iinc (k0 := 5) (lv' := [(6, .int y33), (0, .ref 261), (1, .int x1), (2, .int x2), (3, .int x3), (4, .int x4)]) (by rw [ic_1]; exact e34) rfl (Nat.le_of_ble_eq_true rfl) rfl d_M_plots_90 rfl ?_
        refine MM.goto (tgt := 60) d_M_plots_93 rfl ?_
        obtain rfl := Option.some.inj hf
        have h9 := mm_wxL hx18
        exact MM.sub [1, 2, 3, 4, 5, 0] (by rfl) h9
      clear hf
      have hf := e35
      clear e35
      obtain ⟨m27, m28⟩ := mm_ifE hf
      refine MM.icmp_ge (tgt := 88) d_M_plots_75 rfl rfl (fun c26 => ?_) (fun c26 => ?_)
      · replace hf := m27 c26
        refine MM.iconst ic_m1 d_M_plots_88 rfl ?_
        obtain rfl := Option.some.inj hf
        exact MM.sub [0, 1, 2, 3, 4, 5] (by rfl) K23
      · replace hf := m28 c26
        refine MM.aload_n (i := 0) rfl rfl d_M_plots_78 rfl ?_
        refine MM.gR 9 47 tg_261 rq_9_58 rfl lays_9 ww_1416 d_M_plots_79 rfl ?_
        refine MM.iload rfl d_M_plots_82 rfl ?_
        obtain ⟨k24, e25, hf⟩ := mm_bind hf
        refine MM.gI e25 al_308 d_M_plots_84 rfl ?_
        refine MM.goto (tgt := 89) d_M_plots_85 rfl ?_
        obtain rfl := Option.some.inj hf
        exact MM.sub [0, 1, 2, 3, 4, 5] (by rfl) K23
  clear e51
  obtain ⟨m49, m50⟩ := mm_ifE hf
  refine MM.if_lt (tgt := 46) d_M_plots_17 rfl rfl (fun c48 => ?_) (fun c48 => ?_)
  · replace hf := m49 c48
    exact MM.sub [1, 2, 3, 4, 5, 0] (by rfl) (K10 _ hf)
  · replace hf := m50 c48
    refine MM.iload rfl d_M_plots_20 rfl ?_
    refine MM.aload_n (i := 0) rfl rfl d_M_plots_22 rfl ?_
    refine MM.getI 9 tg_261 lays_9 gq_9_60 ww_1418 d_M_plots_23 rfl ?_
    obtain ⟨m46, m47⟩ := mm_ifE hf
    refine MM.icmp_gt (tgt := 46) d_M_plots_26 rfl rfl (fun c45 => ?_) (fun c45 => ?_)
    · replace hf := m46 c45
      exact MM.sub [1, 2, 3, 4, 5, 0] (by rfl) (K10 _ hf)
    · replace hf := m47 c45
      refine MM.iload rfl d_M_plots_29 rfl ?_
      refine MM.aload_n (i := 0) rfl rfl d_M_plots_31 rfl ?_
      refine MM.getI 9 tg_261 lays_9 gq_9_60 ww_1418 d_M_plots_32 rfl ?_
      obtain ⟨m43, m44⟩ := mm_ifE hf
      refine MM.icmp_ne (tgt := 96) d_M_plots_35 rfl rfl (fun c42 => ?_) (fun c42 => ?_)
      · replace hf := m44 c42
        obtain rfl := Option.some.inj hf
        exact MM.sub [1, 2, 3, 4, 5] (by rfl) K8
      · replace hf := m43 c42
        refine MM.iload_n (i := 3) rfl rfl d_M_plots_38 rfl ?_
        refine MM.aload_n (i := 0) rfl rfl d_M_plots_39 rfl ?_
        refine MM.getI 9 tg_261 lays_9 gq_9_61 ww_1419 d_M_plots_40 rfl ?_
        obtain ⟨m40, m41⟩ := mm_ifE hf
        refine MM.icmp_ge (tgt := 96) d_M_plots_43 rfl rfl (fun c39 => ?_) (fun c39 => ?_)
        · replace hf := m40 c39
          obtain rfl := Option.some.inj hf
          exact MM.sub [1, 2, 3, 4, 5] (by rfl) K8
        · replace hf := m41 c39
          exact MM.sub [1, 2, 3, 4, 5, 0] (by rfl) (K10 _ hf)
noncomputable def f_M_plots_n : Nat → Int32 → Int32 → Int32 → Int32 → mm_H → Option mm_H
  | 0 => fun _ _ _ _ _ => none
  | n + 1 => f_M_plots_b (f_M_plots_n n)
theorem T_M_plots_n (V : mm_V) (l : Launch) : ∀ (n : Nat) (x1 : Int32) (x2 : Int32) (x3 : Int32) (x4 : Int32) (h : mm_H) (r : mm_H), f_M_plots_n n x1 x2 x3 x4 h = some r → MT V l Y_M_plots (20 + 1 * n) [.ref 261, .int x1, .int x2, .int x3, .int x4] (fun r1 h1 => r1 = none ∧ h1 = r) h := by
  intro n
  induction n with
  | zero => intro x1 x2 x3 x4 h r hf; cases hf
  | succ n ih =>
    intro x1 x2 x3 x4 h r hf
    have e9 : 20 + 1 * (n + 1) = 20 + 1 * n + 1 := by omega
    rw [e9]
    exact T_M_plots_b V l _ (20 + 1 * n) (by omega) ih x1 x2 x3 x4 h r hf
noncomputable def f_M_plots (x1 : Int32) (x2 : Int32) (x3 : Int32) (x4 : Int32) (h : mm_H) : Option mm_H := f_M_plots_n 4 x1 x2 x3 x4 h
theorem T_M_plots (V : mm_V) (l : Launch) (x1 : Int32) (x2 : Int32) (x3 : Int32) (x4 : Int32) (h : mm_H) (r : mm_H) (hf : f_M_plots x1 x2 x3 x4 h = some r) : MT V l Y_M_plots 24 [.ref 261, .int x1, .int x2, .int x3, .int x4] (fun r1 h1 => r1 = none ∧ h1 = r) h := T_M_plots_n V l 4 x1 x2 x3 x4 h r hf
