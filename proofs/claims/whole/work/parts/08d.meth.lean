/-! methods: Go_readLine, Go_readGossip, Tk_copyLines, X_gossip, To_hasPerson, St_known, JI_bitCount, To_knowers, La_operand, La_joined, La_value, St_lawWorth, St_weigh, X_weighed, X_together, X_person, To_hasSecret -/
theorem d_Go_readLine_0 : decode cX2_readLine 0 = .ok (.aload_n 0, 1) := by decide +kernel
theorem d_Go_readLine_1 : decode cX2_readLine 1 = .ok (.getfield 32, 3) := by decide +kernel
theorem d_Go_readLine_4 : decode cX2_readLine 4 = .ok (.astore_n 3, 1) := by decide +kernel
theorem d_Go_readLine_5 : decode cX2_readLine 5 = .ok (.aload_n 3, 1) := by decide +kernel
theorem d_Go_readLine_6 : decode cX2_readLine 6 = .ok (.getstatic 36, 3) := by decide +kernel
theorem d_Go_readLine_9 : decode cX2_readLine 9 = .ok (.if_acmp .eq 30, 3) := by decide +kernel
theorem d_Go_readLine_12 : decode cX2_readLine 12 = .ok (.aload_n 3, 1) := by decide +kernel
theorem d_Go_readLine_13 : decode cX2_readLine 13 = .ok (.getstatic 41, 3) := by decide +kernel
theorem d_Go_readLine_16 : decode cX2_readLine 16 = .ok (.if_acmp .eq 23, 3) := by decide +kernel
theorem d_Go_readLine_19 : decode cX2_readLine 19 = .ok (.aload_n 3, 1) := by decide +kernel
theorem d_Go_readLine_20 : decode cX2_readLine 20 = .ok (.getstatic 44, 3) := by decide +kernel
theorem d_Go_readLine_23 : decode cX2_readLine 23 = .ok (.if_acmp .eq 16, 3) := by decide +kernel
theorem d_Go_readLine_26 : decode cX2_readLine 26 = .ok (.aload_n 3, 1) := by decide +kernel
theorem d_Go_readLine_27 : decode cX2_readLine 27 = .ok (.getstatic 47, 3) := by decide +kernel
theorem d_Go_readLine_30 : decode cX2_readLine 30 = .ok (.if_acmp .eq 9, 3) := by decide +kernel
theorem d_Go_readLine_33 : decode cX2_readLine 33 = .ok (.aload_n 0, 1) := by decide +kernel
theorem d_Go_readLine_34 : decode cX2_readLine 34 = .ok (.iconst 1, 1) := by decide +kernel
theorem d_Go_readLine_35 : decode cX2_readLine 35 = .ok (.invokevirtual 50, 3) := by decide +kernel
theorem d_Go_readLine_38 : decode cX2_readLine 38 = .ok (.ireturn, 1) := by decide +kernel
theorem d_Go_readLine_39 : decode cX2_readLine 39 = .ok (.aload_n 2, 1) := by decide +kernel
theorem d_Go_readLine_40 : decode cX2_readLine 40 = .ok (.getfield 54, 3) := by decide +kernel
theorem d_Go_readLine_43 : decode cX2_readLine 43 = .ok (.bipush 30, 2) := by decide +kernel
theorem d_Go_readLine_45 : decode cX2_readLine 45 = .ok (.if_icmp .lt 9, 3) := by decide +kernel
theorem d_Go_readLine_48 : decode cX2_readLine 48 = .ok (.aload_n 0, 1) := by decide +kernel
theorem d_Go_readLine_49 : decode cX2_readLine 49 = .ok (.iconst 5, 1) := by decide +kernel
theorem d_Go_readLine_50 : decode cX2_readLine 50 = .ok (.invokevirtual 50, 3) := by decide +kernel
theorem d_Go_readLine_53 : decode cX2_readLine 53 = .ok (.ireturn, 1) := by decide +kernel
theorem d_Go_readLine_54 : decode cX2_readLine 54 = .ok (.aload_n 0, 1) := by decide +kernel
theorem d_Go_readLine_55 : decode cX2_readLine 55 = .ok (.invokevirtual 57, 3) := by decide +kernel
theorem d_Go_readLine_58 : decode cX2_readLine 58 = .ok (.aload_n 3, 1) := by decide +kernel
theorem d_Go_readLine_59 : decode cX2_readLine 59 = .ok (.getstatic 47, 3) := by decide +kernel
theorem d_Go_readLine_62 : decode cX2_readLine 62 = .ok (.if_acmp .ne 18, 3) := by decide +kernel
theorem d_Go_readLine_65 : decode cX2_readLine 65 = .ok (.aload_n 2, 1) := by decide +kernel
theorem d_Go_readLine_66 : decode cX2_readLine 66 = .ok (.iconst 3, 1) := by decide +kernel
theorem d_Go_readLine_67 : decode cX2_readLine 67 = .ok (.iconst 0, 1) := by decide +kernel
theorem d_Go_readLine_68 : decode cX2_readLine 68 = .ok (.iconst 0, 1) := by decide +kernel
theorem d_Go_readLine_69 : decode cX2_readLine 69 = .ok (.iconst 0, 1) := by decide +kernel
theorem d_Go_readLine_70 : decode cX2_readLine 70 = .ok (.invokevirtual 60, 3) := by decide +kernel
theorem d_Go_readLine_73 : decode cX2_readLine 73 = .ok (.aload_n 0, 1) := by decide +kernel
theorem d_Go_readLine_74 : decode cX2_readLine 74 = .ok (.bipush 59, 2) := by decide +kernel
theorem d_Go_readLine_76 : decode cX2_readLine 76 = .ok (.invokevirtual 64, 3) := by decide +kernel
theorem d_Go_readLine_79 : decode cX2_readLine 79 = .ok (.ireturn, 1) := by decide +kernel
theorem d_Go_readLine_80 : decode cX2_readLine 80 = .ok (.aload_n 1, 1) := by decide +kernel
theorem d_Go_readLine_81 : decode cX2_readLine 81 = .ok (.aload_n 0, 1) := by decide +kernel
theorem d_Go_readLine_82 : decode cX2_readLine 82 = .ok (.iconst 1, 1) := by decide +kernel
theorem d_Go_readLine_83 : decode cX2_readLine 83 = .ok (.invokevirtual 68, 3) := by decide +kernel
theorem d_Go_readLine_86 : decode cX2_readLine 86 = .ok (.istore 4, 2) := by decide +kernel
theorem d_Go_readLine_88 : decode cX2_readLine 88 = .ok (.iload 4, 2) := by decide +kernel
theorem d_Go_readLine_90 : decode cX2_readLine 90 = .ok (.iconst (-1), 1) := by decide +kernel
theorem d_Go_readLine_91 : decode cX2_readLine 91 = .ok (.if_icmp .ne 5, 3) := by decide +kernel
theorem d_Go_readLine_94 : decode cX2_readLine 94 = .ok (.iconst 0, 1) := by decide +kernel
theorem d_Go_readLine_95 : decode cX2_readLine 95 = .ok (.ireturn, 1) := by decide +kernel
theorem d_Go_readLine_96 : decode cX2_readLine 96 = .ok (.aload_n 3, 1) := by decide +kernel
theorem d_Go_readLine_97 : decode cX2_readLine 97 = .ok (.getstatic 44, 3) := by decide +kernel
theorem d_Go_readLine_100 : decode cX2_readLine 100 = .ok (.if_acmp .ne 19, 3) := by decide +kernel
theorem d_Go_readLine_103 : decode cX2_readLine 103 = .ok (.aload_n 2, 1) := by decide +kernel
theorem d_Go_readLine_104 : decode cX2_readLine 104 = .ok (.iconst 2, 1) := by decide +kernel
theorem d_Go_readLine_105 : decode cX2_readLine 105 = .ok (.iload 4, 2) := by decide +kernel
theorem d_Go_readLine_107 : decode cX2_readLine 107 = .ok (.iconst 0, 1) := by decide +kernel
theorem d_Go_readLine_108 : decode cX2_readLine 108 = .ok (.iconst 0, 1) := by decide +kernel
theorem d_Go_readLine_109 : decode cX2_readLine 109 = .ok (.invokevirtual 60, 3) := by decide +kernel
theorem d_Go_readLine_112 : decode cX2_readLine 112 = .ok (.aload_n 0, 1) := by decide +kernel
theorem d_Go_readLine_113 : decode cX2_readLine 113 = .ok (.bipush 59, 2) := by decide +kernel
theorem d_Go_readLine_115 : decode cX2_readLine 115 = .ok (.invokevirtual 64, 3) := by decide +kernel
theorem d_Go_readLine_118 : decode cX2_readLine 118 = .ok (.ireturn, 1) := by decide +kernel
theorem d_Go_readLine_119 : decode cX2_readLine 119 = .ok (.aload_n 3, 1) := by decide +kernel
theorem d_Go_readLine_120 : decode cX2_readLine 120 = .ok (.getstatic 36, 3) := by decide +kernel
theorem d_Go_readLine_123 : decode cX2_readLine 123 = .ok (.if_acmp .ne 14, 3) := by decide +kernel
theorem d_Go_readLine_126 : decode cX2_readLine 126 = .ok (.aload_n 0, 1) := by decide +kernel
theorem d_Go_readLine_127 : decode cX2_readLine 127 = .ok (.aload_n 1, 1) := by decide +kernel
theorem d_Go_readLine_128 : decode cX2_readLine 128 = .ok (.aload_n 2, 1) := by decide +kernel
theorem d_Go_readLine_129 : decode cX2_readLine 129 = .ok (.iload 4, 2) := by decide +kernel
theorem d_Go_readLine_131 : decode cX2_readLine 131 = .ok (.invokestatic 74, 3) := by decide +kernel
theorem d_Go_readLine_134 : decode cX2_readLine 134 = .ok (.goto 11, 3) := by decide +kernel
theorem d_Go_readLine_137 : decode cX2_readLine 137 = .ok (.aload_n 0, 1) := by decide +kernel
theorem d_Go_readLine_138 : decode cX2_readLine 138 = .ok (.aload_n 1, 1) := by decide +kernel
theorem d_Go_readLine_139 : decode cX2_readLine 139 = .ok (.aload_n 2, 1) := by decide +kernel
theorem d_Go_readLine_140 : decode cX2_readLine 140 = .ok (.iload 4, 2) := by decide +kernel
theorem d_Go_readLine_142 : decode cX2_readLine 142 = .ok (.invokestatic 78, 3) := by decide +kernel
theorem d_Go_readLine_145 : decode cX2_readLine 145 = .ok (.ireturn, 1) := by decide +kernel
noncomputable def f_Go_readLine (a1 : Nat) (a2 : Nat) (h : mm_H) : Option (Int32 × mm_H) := if mm_tg a1 = 7 ∧ mm_tg a2 = 5 then ((mm_gW h).bind fun wd1 => mm_jp (fun (j3 : Unit) => (if (h.1 a2 0) < 30 then ((f_Ta_next h).bind fun v7 => if wd1 = (some 14) then ((f_Tk_addLine a2 3 0 0 0 v7).bind fun v34 => (f_Ta_takeSign 59 v34).bind fun v36 => (mm_bo v36.1).bind fun b37 => some (b37, v36.2)) else ((f_To_takeTold a1 1 v7).bind fun v9 => if v9.1 = (-1) then (some (0, v9.2)) else (if wd1 = (some 13) then ((f_Tk_addLine a2 2 v9.1 0 0 v9.2).bind fun v22 => (f_Ta_takeSign 59 v22).bind fun v24 => (mm_bo v24.1).bind fun b25 => some (b25, v24.2)) else (if wd1 = (some 11) then ((f_Go_readTell a1 a2 v9.1 v9.2).bind fun v15 => (mm_bo v15.1).bind fun b16 => some (b16, v15.2)) else ((f_Go_readPay a1 a2 v9.1 v9.2).bind fun v11 => (mm_bo v11.1).bind fun b12 => some (b12, v11.2)))))) else ((f_Ta_wrong 5 h).bind fun v43 => (mm_bo v43.1).bind fun b44 => some (b44, v43.2)))) fun k5 => if wd1 = (some 11) then (k5 ()) else (if wd1 = (some 12) then (k5 ()) else (if wd1 = (some 13) then (k5 ()) else (if wd1 = (some 14) then (k5 ()) else ((f_Ta_wrong 1 h).bind fun v50 => (mm_bo v50.1).bind fun b51 => some (b51, v50.2)))))) else none
theorem T_Go_readLine (V : mm_V) (l : Launch) (a1 : Nat) (a2 : Nat) (h : mm_H) (r : (Int32 × mm_H)) (hf : f_Go_readLine a1 a2 h = some r) : MT V l Y_Go_readLine 9 [.ref 33, .ref a1, .ref a2] (fun r1 h1 => r1 = some (.int r.1) ∧ h1 = r.2) h := by
  unfold f_Go_readLine at hf
  obtain ⟨⟨t_a1, t_a2⟩, hf⟩ := mm_chkE hf
  refine MT.intro (pn_Go rfl) [(0, .ref 33), (1, .ref a1), (2, .ref a2)] rfl (Nat.le_of_ble_eq_true rfl) ?_
  generalize hZ : mm_Z V _ = Z0
  refine MM.aload_n (i := 0) rfl rfl d_Go_readLine_0 rfl ?_
  obtain ⟨wd1, e2, hf⟩ := mm_bind hf
  obtain ⟨e2, b_wd1⟩ := mm_gWE e2
  refine MM.gW e2 tg_33 wq_7 lays_6 ww_167 d_Go_readLine_1 rfl ?_
  refine MM.wstore_n (i := 3) (lv' := [(3, va_rf wd1), (0, .ref 33), (1, .ref a1), (2, .ref a2)]) rfl rfl (Nat.le_of_ble_eq_true rfl) rfl d_Go_readLine_4 rfl ?_
  refine MM.wload_n (i := 3) rfl rfl d_Go_readLine_5 rfl ?_
  refine MM.word (j := 11) (by decide) rfl ww_850 d_Go_readLine_6 rfl ?_
  obtain ⟨k5, e65, hf⟩ := mm_jpE hf
  have K4 : ∀ j3, k5 j3 = some r → MM V l Y_Go_readLine 9 0 0 Z0 39 [(0, .ref 33), (1, .ref a1), (2, .ref a2), (3, va_rf wd1)] [] h := by
    intro j3 hf
    rw [e65] at hf
    refine MM.aload_n (i := 2) rfl rfl d_Go_readLine_39 rfl ?_
    refine MM.getI 5 t_a2 lays_5 gq_5_0 ww_252 d_Go_readLine_40 rfl ?_
    refine MM.bipush bp_30 d_Go_readLine_43 rfl ?_
    obtain ⟨m47, m48⟩ := mm_ifE hf
    refine MM.icmp_lt (tgt := 54) d_Go_readLine_45 rfl rfl (fun c46 => ?_) (fun c46 => ?_)
    · replace hf := m47 c46
      refine MM.aload_n (i := 0) rfl rfl d_Go_readLine_54 rfl ?_
      obtain ⟨v7, e6, hf⟩ := mm_bind hf
      refine MM.callV0 (T_Ta_next V l  h _ e6) (fun _ _ q => q) cal_Ta_next rfl tg_33 ct_6 ww_561 ww_560 ww_859 (by decide) (by simp [Value.category]) d_Go_readLine_55 rfl ⟨rfl, rfl⟩ rfl ?_
      refine MM.wload_n (i := 3) rfl rfl d_Go_readLine_58 rfl ?_
      refine MM.word (j := 14) (by decide) rfl ww_856 d_Go_readLine_59 rfl ?_
      obtain ⟨m40, m41⟩ := mm_ifE hf
      refine MM.acmp_ne b_wd1 (fun _ q => by cases q; decide) (tgt := 80) d_Go_readLine_62 rfl rfl (fun c39 => ?_) (fun c39 => ?_)
      · replace hf := m41 c39
        refine MM.aload_n (i := 1) rfl rfl d_Go_readLine_80 rfl ?_
        refine MM.aload_n (i := 0) rfl rfl d_Go_readLine_81 rfl ?_
        refine MM.iconst ic_1 d_Go_readLine_82 rfl ?_
        obtain ⟨v9, e8, hf⟩ := mm_bind hf
        refine MM.callV1 (T_To_takeTold V l a1 1 v7 _ e8) (fun _ _ q => q) cal_To_takeTold rfl t_a1 ct_7 ww_737 ww_736 ww_865 (by decide) (by simp [Value.category]) d_Go_readLine_83 rfl ⟨rfl, rfl⟩ rfl ?_
        refine MM.istore (lv' := [(4, .int v9.1), (0, .ref 33), (1, .ref a1), (2, .ref a2), (3, va_rf wd1)]) rfl (Nat.le_of_ble_eq_true rfl) (by cases wd1 <;> rfl) d_Go_readLine_86 rfl ?_
        refine MM.iload rfl d_Go_readLine_88 rfl ?_
        refine MM.iconst ic_m1 d_Go_readLine_90 rfl ?_
        obtain ⟨m31, m32⟩ := mm_ifE hf
        refine MM.icmp_ne (tgt := 96) d_Go_readLine_91 rfl rfl (fun c30 => ?_) (fun c30 => ?_)
        · replace hf := m32 c30
          refine MM.wload_n (i := 3) rfl rfl d_Go_readLine_96 rfl ?_
          refine MM.word (j := 13) (by decide) rfl ww_854 d_Go_readLine_97 rfl ?_
          obtain ⟨m28, m29⟩ := mm_ifE hf
          refine MM.acmp_ne b_wd1 (fun _ q => by cases q; decide) (tgt := 119) d_Go_readLine_100 rfl rfl (fun c27 => ?_) (fun c27 => ?_)
          · replace hf := m29 c27
            refine MM.wload_n (i := 3) rfl rfl d_Go_readLine_119 rfl ?_
            refine MM.word (j := 11) (by decide) rfl ww_850 d_Go_readLine_120 rfl ?_
            obtain ⟨m19, m20⟩ := mm_ifE hf
            refine MM.acmp_ne b_wd1 (fun _ q => by cases q; decide) (tgt := 137) d_Go_readLine_123 rfl rfl (fun c18 => ?_) (fun c18 => ?_)
            · replace hf := m20 c18
              refine MM.aload_n (i := 0) rfl rfl d_Go_readLine_137 rfl ?_
              refine MM.aload_n (i := 1) rfl rfl d_Go_readLine_138 rfl ?_
              refine MM.aload_n (i := 2) rfl rfl d_Go_readLine_139 rfl ?_
              refine MM.iload rfl d_Go_readLine_140 rfl ?_
              obtain ⟨v11, e10, hf⟩ := mm_bind hf
              refine MM.callS1 (T_Go_readPay V l a1 a2 v9.1 v9.2 _ e10) (fun _ _ q => q) cal_Go_readPay rfl ww_871 ww_870 (by decide) (by simp [Value.category]) d_Go_readLine_142 rfl ⟨rfl, rfl⟩ rfl ?_
              obtain ⟨b12, e13, hf⟩ := mm_bind hf
              obtain ⟨ob12, e13⟩ := mm_boE e13
              subst e13
              obtain rfl := Option.some.inj hf
              subst hZ
              exact MM.zret ob12 rfl d_Go_readLine_145 ⟨rfl, rfl⟩
            · replace hf := m19 c18
              refine MM.aload_n (i := 0) rfl rfl d_Go_readLine_126 rfl ?_
              refine MM.aload_n (i := 1) rfl rfl d_Go_readLine_127 rfl ?_
              refine MM.aload_n (i := 2) rfl rfl d_Go_readLine_128 rfl ?_
              refine MM.iload rfl d_Go_readLine_129 rfl ?_
              obtain ⟨v15, e14, hf⟩ := mm_bind hf
              refine MM.callS1 (T_Go_readTell V l a1 a2 v9.1 v9.2 _ e14) (fun _ _ q => q) cal_Go_readTell rfl ww_867 ww_866 (by decide) (by simp [Value.category]) d_Go_readLine_131 rfl ⟨rfl, rfl⟩ rfl ?_
              refine MM.goto (tgt := 145) d_Go_readLine_134 rfl ?_
              obtain ⟨b16, e17, hf⟩ := mm_bind hf
              obtain ⟨ob16, e17⟩ := mm_boE e17
              subst e17
              obtain rfl := Option.some.inj hf
              subst hZ
              exact MM.zret ob16 rfl d_Go_readLine_145 ⟨rfl, rfl⟩
          · replace hf := m28 c27
            refine MM.aload_n (i := 2) rfl rfl d_Go_readLine_103 rfl ?_
            refine MM.iconst ic_2 d_Go_readLine_104 rfl ?_
            refine MM.iload rfl d_Go_readLine_105 rfl ?_
            refine MM.iconst ic_0 d_Go_readLine_107 rfl ?_
            refine MM.iconst ic_0 d_Go_readLine_108 rfl ?_
            obtain ⟨v22, e21, hf⟩ := mm_bind hf
            refine MM.callV0 (T_Tk_addLine V l a2 2 v9.1 0 0 v9.2 _ e21) (fun _ _ q => q) cal_Tk_addLine rfl t_a2 ct_5 ww_862 ww_861 ww_860 (by decide) (by simp [Value.category]) d_Go_readLine_109 rfl ⟨rfl, rfl⟩ rfl ?_
            refine MM.aload_n (i := 0) rfl rfl d_Go_readLine_112 rfl ?_
            refine MM.bipush bp_59 d_Go_readLine_113 rfl ?_
            obtain ⟨v24, e23, hf⟩ := mm_bind hf
            refine MM.callV1 (T_Ta_takeSign V l 59 v22 _ e23) (fun _ _ q => q) cal_Ta_takeSign rfl tg_33 ct_6 ww_715 ww_714 ww_864 (by decide) (by simp [Value.category]) d_Go_readLine_115 rfl ⟨rfl, rfl⟩ rfl ?_
            obtain ⟨b25, e26, hf⟩ := mm_bind hf
            obtain ⟨ob25, e26⟩ := mm_boE e26
            subst e26
            obtain rfl := Option.some.inj hf
            subst hZ
            exact MM.zret ob25 rfl d_Go_readLine_118 ⟨rfl, rfl⟩
        · replace hf := m31 c30
          refine MM.iconst ic_0 d_Go_readLine_94 rfl ?_
          obtain rfl := Option.some.inj hf
          subst hZ
          exact MM.zret (Or.inl rfl) rfl d_Go_readLine_95 ⟨rfl, rfl⟩
      · replace hf := m40 c39
        refine MM.aload_n (i := 2) rfl rfl d_Go_readLine_65 rfl ?_
        refine MM.iconst ic_3 d_Go_readLine_66 rfl ?_
        refine MM.iconst ic_0 d_Go_readLine_67 rfl ?_
        refine MM.iconst ic_0 d_Go_readLine_68 rfl ?_
        refine MM.iconst ic_0 d_Go_readLine_69 rfl ?_
        obtain ⟨v34, e33, hf⟩ := mm_bind hf
        refine MM.callV0 (T_Tk_addLine V l a2 3 0 0 0 v7 _ e33) (fun _ _ q => q) cal_Tk_addLine rfl t_a2 ct_5 ww_862 ww_861 ww_860 (by decide) (by simp [Value.category]) d_Go_readLine_70 rfl ⟨rfl, rfl⟩ rfl ?_
        refine MM.aload_n (i := 0) rfl rfl d_Go_readLine_73 rfl ?_
        refine MM.bipush bp_59 d_Go_readLine_74 rfl ?_
        obtain ⟨v36, e35, hf⟩ := mm_bind hf
        refine MM.callV1 (T_Ta_takeSign V l 59 v34 _ e35) (fun _ _ q => q) cal_Ta_takeSign rfl tg_33 ct_6 ww_715 ww_714 ww_864 (by decide) (by simp [Value.category]) d_Go_readLine_76 rfl ⟨rfl, rfl⟩ rfl ?_
        obtain ⟨b37, e38, hf⟩ := mm_bind hf
        obtain ⟨ob37, e38⟩ := mm_boE e38
        subst e38
        obtain rfl := Option.some.inj hf
        subst hZ
        exact MM.zret ob37 rfl d_Go_readLine_79 ⟨rfl, rfl⟩
    · replace hf := m48 c46
      refine MM.aload_n (i := 0) rfl rfl d_Go_readLine_48 rfl ?_
      refine MM.iconst ic_5 d_Go_readLine_49 rfl ?_
      obtain ⟨v43, e42, hf⟩ := mm_bind hf
      refine MM.callV1 (T_Ta_wrong V l 5 h _ e42) (fun _ _ q => q) cal_Ta_wrong rfl tg_33 ct_6 ww_671 ww_670 ww_858 (by decide) (by simp [Value.category]) d_Go_readLine_50 rfl ⟨rfl, rfl⟩ rfl ?_
      obtain ⟨b44, e45, hf⟩ := mm_bind hf
      obtain ⟨ob44, e45⟩ := mm_boE e45
      subst e45
      obtain rfl := Option.some.inj hf
      subst hZ
      exact MM.zret ob44 rfl d_Go_readLine_53 ⟨rfl, rfl⟩
  clear e65
  obtain ⟨m63, m64⟩ := mm_ifE hf
  refine MM.acmp_eq b_wd1 (fun _ q => by cases q; decide) (tgt := 39) d_Go_readLine_9 rfl rfl (fun c62 => ?_) (fun c62 => ?_)
  · replace hf := m63 c62
    exact MM.sub [1, 2, 3, 0] (by rfl) (K4 _ hf)
  · replace hf := m64 c62
    refine MM.wload_n (i := 3) rfl rfl d_Go_readLine_12 rfl ?_
    refine MM.word (j := 12) (by decide) rfl ww_852 d_Go_readLine_13 rfl ?_
    obtain ⟨m60, m61⟩ := mm_ifE hf
    refine MM.acmp_eq b_wd1 (fun _ q => by cases q; decide) (tgt := 39) d_Go_readLine_16 rfl rfl (fun c59 => ?_) (fun c59 => ?_)
    · replace hf := m60 c59
      exact MM.sub [1, 2, 3, 0] (by rfl) (K4 _ hf)
    · replace hf := m61 c59
      refine MM.wload_n (i := 3) rfl rfl d_Go_readLine_19 rfl ?_
      refine MM.word (j := 13) (by decide) rfl ww_854 d_Go_readLine_20 rfl ?_
      obtain ⟨m57, m58⟩ := mm_ifE hf
      refine MM.acmp_eq b_wd1 (fun _ q => by cases q; decide) (tgt := 39) d_Go_readLine_23 rfl rfl (fun c56 => ?_) (fun c56 => ?_)
      · replace hf := m57 c56
        exact MM.sub [1, 2, 3, 0] (by rfl) (K4 _ hf)
      · replace hf := m58 c56
        refine MM.wload_n (i := 3) rfl rfl d_Go_readLine_26 rfl ?_
        refine MM.word (j := 14) (by decide) rfl ww_856 d_Go_readLine_27 rfl ?_
        obtain ⟨m54, m55⟩ := mm_ifE hf
        refine MM.acmp_eq b_wd1 (fun _ q => by cases q; decide) (tgt := 39) d_Go_readLine_30 rfl rfl (fun c53 => ?_) (fun c53 => ?_)
        · replace hf := m54 c53
          exact MM.sub [1, 2, 3, 0] (by rfl) (K4 _ hf)
        · replace hf := m55 c53
          refine MM.aload_n (i := 0) rfl rfl d_Go_readLine_33 rfl ?_
          refine MM.iconst ic_1 d_Go_readLine_34 rfl ?_
          obtain ⟨v50, e49, hf⟩ := mm_bind hf
          refine MM.callV1 (T_Ta_wrong V l 1 h _ e49) (fun _ _ q => q) cal_Ta_wrong rfl tg_33 ct_6 ww_671 ww_670 ww_858 (by decide) (by simp [Value.category]) d_Go_readLine_35 rfl ⟨rfl, rfl⟩ rfl ?_
          obtain ⟨b51, e52, hf⟩ := mm_bind hf
          obtain ⟨ob51, e52⟩ := mm_boE e52
          subst e52
          obtain rfl := Option.some.inj hf
          subst hZ
          exact MM.zret ob51 rfl d_Go_readLine_38 ⟨rfl, rfl⟩
theorem d_Go_readGossip_0 : decode cX2_readGossip 0 = .ok (.aload_n 2, 1) := by decide +kernel
theorem d_Go_readGossip_1 : decode cX2_readGossip 1 = .ok (.invokevirtual 9, 3) := by decide +kernel
theorem d_Go_readGossip_4 : decode cX2_readGossip 4 = .ok (.aload_n 0, 1) := by decide +kernel
theorem d_Go_readGossip_5 : decode cX2_readGossip 5 = .ok (.invokevirtual 14, 3) := by decide +kernel
theorem d_Go_readGossip_8 : decode cX2_readGossip 8 = .ok (.iconst 0, 1) := by decide +kernel
theorem d_Go_readGossip_9 : decode cX2_readGossip 9 = .ok (.istore_n 3, 1) := by decide +kernel
theorem d_Go_readGossip_10 : decode cX2_readGossip 10 = .ok (.iload_n 3, 1) := by decide +kernel
theorem d_Go_readGossip_11 : decode cX2_readGossip 11 = .ok (.sipush 1000, 3) := by decide +kernel
theorem d_Go_readGossip_14 : decode cX2_readGossip 14 = .ok (.if_icmp .gt 31, 3) := by decide +kernel
theorem d_Go_readGossip_17 : decode cX2_readGossip 17 = .ok (.aload_n 0, 1) := by decide +kernel
theorem d_Go_readGossip_18 : decode cX2_readGossip 18 = .ok (.getfield 19, 3) := by decide +kernel
theorem d_Go_readGossip_21 : decode cX2_readGossip 21 = .ok (.iconst 1, 1) := by decide +kernel
theorem d_Go_readGossip_22 : decode cX2_readGossip 22 = .ok (.if_icmp .eq 23, 3) := by decide +kernel
theorem d_Go_readGossip_25 : decode cX2_readGossip 25 = .ok (.aload_n 0, 1) := by decide +kernel
theorem d_Go_readGossip_26 : decode cX2_readGossip 26 = .ok (.aload_n 1, 1) := by decide +kernel
theorem d_Go_readGossip_27 : decode cX2_readGossip 27 = .ok (.aload_n 2, 1) := by decide +kernel
theorem d_Go_readGossip_28 : decode cX2_readGossip 28 = .ok (.invokestatic 23, 3) := by decide +kernel
theorem d_Go_readGossip_31 : decode cX2_readGossip 31 = .ok (.ifCond .ne 8, 3) := by decide +kernel
theorem d_Go_readGossip_34 : decode cX2_readGossip 34 = .ok (.aload_n 0, 1) := by decide +kernel
theorem d_Go_readGossip_35 : decode cX2_readGossip 35 = .ok (.getfield 29, 3) := by decide +kernel
theorem d_Go_readGossip_38 : decode cX2_readGossip 38 = .ok (.ireturn, 1) := by decide +kernel
theorem d_Go_readGossip_39 : decode cX2_readGossip 39 = .ok (.iinc 3 1, 3) := by decide +kernel
theorem d_Go_readGossip_42 : decode cX2_readGossip 42 = .ok (.goto (-32), 3) := by decide +kernel
theorem d_Go_readGossip_45 : decode cX2_readGossip 45 = .ok (.iconst 0, 1) := by decide +kernel
theorem d_Go_readGossip_46 : decode cX2_readGossip 46 = .ok (.ireturn, 1) := by decide +kernel
noncomputable def f_Go_readGossip (a1 : Nat) (a2 : Nat) (h : mm_H) : Option (Int32 × mm_H) := if mm_tg a1 = 7 ∧ mm_tg a2 = 5 then ((f_Tk_clear a2 h).bind fun v2 => (f_Ta_rewind v2).bind fun v4 => mm_while (σ := (Int32 × mm_H)) (ρ := (Int32 × mm_H)) (fun s5 => if 1000 < s5.1 then (some (Sum.inr (0, s5.2))) else (if (s5.2.1 33 4) = 1 then (some (Sum.inr (0, s5.2))) else ((f_Go_readLine a1 a2 s5.2).bind fun v9 => if v9.1 = 0 then (some (Sum.inr ((v9.2.1 33 9), v9.2))) else (mm_let (s5.1 + 1) fun y10 => some (Sum.inl (y10, v9.2)))))) (0, v4)) else none
theorem T_Go_readGossip (V : mm_V) (l : Launch) (a1 : Nat) (a2 : Nat) (h : mm_H) (r : (Int32 × mm_H)) (hf : f_Go_readGossip a1 a2 h = some r) : MT V l Y_Go_readGossip 10 [.ref 33, .ref a1, .ref a2] (fun r1 h1 => r1 = some (.int r.1) ∧ h1 = r.2) h := by
  unfold f_Go_readGossip at hf
  obtain ⟨⟨t_a1, t_a2⟩, hf⟩ := mm_chkE hf
  refine MT.intro (pn_Go rfl) [(0, .ref 33), (1, .ref a1), (2, .ref a2)] rfl (Nat.le_of_ble_eq_true rfl) ?_
  generalize hZ : mm_Z V _ = Z0
  refine MM.aload_n (i := 2) rfl rfl d_Go_readGossip_0 rfl ?_
  obtain ⟨v2, e1, hf⟩ := mm_bind hf
  refine MM.callV0 (T_Tk_clear V l a2 h _ e1) (fun _ _ q => q) cal_Tk_clear rfl t_a2 ct_5 ww_835 ww_834 ww_845 (by decide) (by simp [Value.category]) d_Go_readGossip_1 rfl ⟨rfl, rfl⟩ rfl ?_
  refine MM.aload_n (i := 0) rfl rfl d_Go_readGossip_4 rfl ?_
  obtain ⟨v4, e3, hf⟩ := mm_bind hf
  refine MM.callV0 (T_Ta_rewind V l  v2 _ e3) (fun _ _ q => q) cal_Ta_rewind rfl tg_33 ct_6 ww_557 ww_556 ww_846 (by decide) (by simp [Value.category]) d_Go_readGossip_5 rfl ⟨rfl, rfl⟩ rfl ?_
  refine MM.iconst ic_0 d_Go_readGossip_8 rfl ?_
  refine MM.istore_n (i := 3) (lv' := [(3, .int 0), (0, .ref 33), (1, .ref a1), (2, .ref a2)]) rfl rfl (Nat.le_of_ble_eq_true rfl) rfl d_Go_readGossip_9 rfl ?_
  refine MM.sub [1, 2, 3, 0] (by rfl) (mm_while_ind (fun s5 => MM V l Y_Go_readGossip 10 0 0 Z0 10 [(0, .ref 33), (1, .ref a1), (2, .ref a2), (3, .int s5.1)] [] s5.2) hf (fun s5 q6 hf hx7 => ?_))
  refine MM.iload_n (i := 3) rfl rfl d_Go_readGossip_10 rfl ?_
  refine MM.sipush sp_1000 d_Go_readGossip_11 rfl ?_
  obtain ⟨m19, m20⟩ := mm_ifE hf
  refine MM.icmp_gt (tgt := 45) d_Go_readGossip_14 rfl rfl (fun c18 => ?_) (fun c18 => ?_)
  · replace hf := m19 c18
    refine MM.iconst ic_0 d_Go_readGossip_45 rfl ?_
    obtain rfl := Option.some.inj hf
    replace hf := mm_wxR hx7
    obtain rfl := Option.some.inj hf
    subst hZ
    exact MM.iret rfl d_Go_readGossip_46 ⟨rfl, rfl⟩
  · replace hf := m20 c18
    refine MM.aload_n (i := 0) rfl rfl d_Go_readGossip_17 rfl ?_
    refine MM.getI 6 tg_33 lays_6 gq_6_4 ww_158 d_Go_readGossip_18 rfl ?_
    refine MM.iconst ic_1 d_Go_readGossip_21 rfl ?_
    obtain ⟨m16, m17⟩ := mm_ifE hf
    refine MM.icmp_eq (tgt := 45) d_Go_readGossip_22 rfl rfl (fun c15 => ?_) (fun c15 => ?_)
    · replace hf := m16 c15
      refine MM.iconst ic_0 d_Go_readGossip_45 rfl ?_
      obtain rfl := Option.some.inj hf
      replace hf := mm_wxR hx7
      obtain rfl := Option.some.inj hf
      subst hZ
      exact MM.iret rfl d_Go_readGossip_46 ⟨rfl, rfl⟩
    · replace hf := m17 c15
      refine MM.aload_n (i := 0) rfl rfl d_Go_readGossip_25 rfl ?_
      refine MM.aload_n (i := 1) rfl rfl d_Go_readGossip_26 rfl ?_
      refine MM.aload_n (i := 2) rfl rfl d_Go_readGossip_27 rfl ?_
      obtain ⟨v9, e8, hf⟩ := mm_bind hf
      refine MM.callS1 (T_Go_readLine V l a1 a2 s5.2 _ e8) (fun _ _ q => q) cal_Go_readLine rfl ww_848 ww_847 (by decide) (by simp [Value.category]) d_Go_readGossip_28 rfl ⟨rfl, rfl⟩ rfl ?_
      obtain ⟨m13, m14⟩ := mm_ifE hf
      refine MM.if_ne (tgt := 39) d_Go_readGossip_31 rfl rfl (fun c12 => ?_) (fun c12 => ?_)
      · replace hf := m14 c12
        obtain ⟨y10, e11, hf⟩ := mm_letE hf
        refine MM.iinc (k0 := 3) (lv' := [(3, .int y10), (0, .ref 33), (1, .ref a1), (2, .ref a2)]) (by rw [ic_1]; exact e11) rfl (Nat.le_of_ble_eq_true rfl) rfl d_Go_readGossip_39 rfl ?_
        refine MM.goto (tgt := 10) d_Go_readGossip_42 rfl ?_
        obtain rfl := Option.some.inj hf
        have h9 := mm_wxL hx7
        exact MM.sub [1, 2, 3, 0] (by rfl) h9
      · replace hf := m13 c12
        refine MM.aload_n (i := 0) rfl rfl d_Go_readGossip_34 rfl ?_
        refine MM.getI 6 tg_33 lays_6 gq_6_9 ww_172 d_Go_readGossip_35 rfl ?_
        obtain rfl := Option.some.inj hf
        replace hf := mm_wxR hx7
        obtain rfl := Option.some.inj hf
        subst hZ
        exact MM.iret rfl d_Go_readGossip_38 ⟨rfl, rfl⟩
theorem d_Tk_copyLines_0 : decode cX6_copyLines 0 = .ok (.aload_n 0, 1) := by decide +kernel
theorem d_Tk_copyLines_1 : decode cX6_copyLines 1 = .ok (.aload_n 1, 1) := by decide +kernel
theorem d_Tk_copyLines_2 : decode cX6_copyLines 2 = .ok (.getfield 9, 3) := by decide +kernel
theorem d_Tk_copyLines_5 : decode cX6_copyLines 5 = .ok (.putfield 9, 3) := by decide +kernel
theorem d_Tk_copyLines_8 : decode cX6_copyLines 8 = .ok (.aload_n 1, 1) := by decide +kernel
theorem d_Tk_copyLines_9 : decode cX6_copyLines 9 = .ok (.getfield 15, 3) := by decide +kernel
theorem d_Tk_copyLines_12 : decode cX6_copyLines 12 = .ok (.iconst 0, 1) := by decide +kernel
theorem d_Tk_copyLines_13 : decode cX6_copyLines 13 = .ok (.aload_n 0, 1) := by decide +kernel
theorem d_Tk_copyLines_14 : decode cX6_copyLines 14 = .ok (.getfield 15, 3) := by decide +kernel
theorem d_Tk_copyLines_17 : decode cX6_copyLines 17 = .ok (.iconst 0, 1) := by decide +kernel
theorem d_Tk_copyLines_18 : decode cX6_copyLines 18 = .ok (.bipush 30, 2) := by decide +kernel
theorem d_Tk_copyLines_20 : decode cX6_copyLines 20 = .ok (.invokestatic 37, 3) := by decide +kernel
theorem d_Tk_copyLines_23 : decode cX6_copyLines 23 = .ok (.aload_n 1, 1) := by decide +kernel
theorem d_Tk_copyLines_24 : decode cX6_copyLines 24 = .ok (.getfield 19, 3) := by decide +kernel
theorem d_Tk_copyLines_27 : decode cX6_copyLines 27 = .ok (.iconst 0, 1) := by decide +kernel
theorem d_Tk_copyLines_28 : decode cX6_copyLines 28 = .ok (.aload_n 0, 1) := by decide +kernel
theorem d_Tk_copyLines_29 : decode cX6_copyLines 29 = .ok (.getfield 19, 3) := by decide +kernel
theorem d_Tk_copyLines_32 : decode cX6_copyLines 32 = .ok (.iconst 0, 1) := by decide +kernel
theorem d_Tk_copyLines_33 : decode cX6_copyLines 33 = .ok (.bipush 30, 2) := by decide +kernel
theorem d_Tk_copyLines_35 : decode cX6_copyLines 35 = .ok (.invokestatic 37, 3) := by decide +kernel
theorem d_Tk_copyLines_38 : decode cX6_copyLines 38 = .ok (.aload_n 1, 1) := by decide +kernel
theorem d_Tk_copyLines_39 : decode cX6_copyLines 39 = .ok (.getfield 22, 3) := by decide +kernel
theorem d_Tk_copyLines_42 : decode cX6_copyLines 42 = .ok (.iconst 0, 1) := by decide +kernel
theorem d_Tk_copyLines_43 : decode cX6_copyLines 43 = .ok (.aload_n 0, 1) := by decide +kernel
theorem d_Tk_copyLines_44 : decode cX6_copyLines 44 = .ok (.getfield 22, 3) := by decide +kernel
theorem d_Tk_copyLines_47 : decode cX6_copyLines 47 = .ok (.iconst 0, 1) := by decide +kernel
theorem d_Tk_copyLines_48 : decode cX6_copyLines 48 = .ok (.bipush 30, 2) := by decide +kernel
theorem d_Tk_copyLines_50 : decode cX6_copyLines 50 = .ok (.invokestatic 37, 3) := by decide +kernel
theorem d_Tk_copyLines_53 : decode cX6_copyLines 53 = .ok (.aload_n 1, 1) := by decide +kernel
theorem d_Tk_copyLines_54 : decode cX6_copyLines 54 = .ok (.getfield 25, 3) := by decide +kernel
theorem d_Tk_copyLines_57 : decode cX6_copyLines 57 = .ok (.iconst 0, 1) := by decide +kernel
theorem d_Tk_copyLines_58 : decode cX6_copyLines 58 = .ok (.aload_n 0, 1) := by decide +kernel
theorem d_Tk_copyLines_59 : decode cX6_copyLines 59 = .ok (.getfield 25, 3) := by decide +kernel
theorem d_Tk_copyLines_62 : decode cX6_copyLines 62 = .ok (.iconst 0, 1) := by decide +kernel
theorem d_Tk_copyLines_63 : decode cX6_copyLines 63 = .ok (.bipush 30, 2) := by decide +kernel
theorem d_Tk_copyLines_65 : decode cX6_copyLines 65 = .ok (.invokestatic 37, 3) := by decide +kernel
theorem d_Tk_copyLines_68 : decode cX6_copyLines 68 = .ok (.return_, 1) := by decide +kernel
noncomputable def f_Tk_copyLines (a0 : Nat) (a1 : Nat) (h : mm_H) : Option mm_H := if mm_tg a0 = 5 ∧ mm_tg a1 = 5 then (mm_let (mm_pI h a0 0 (h.1 a1 0)) fun h1 => mm_let (mm_cpI h1 (a1 + 1) (a0 + 1) 30) fun h3 => mm_let (mm_cpI h3 (a1 + 2) (a0 + 2) 30) fun h5 => mm_let (mm_cpI h5 (a1 + 3) (a0 + 3) 30) fun h7 => mm_let (mm_cpI h7 (a1 + 4) (a0 + 4) 30) fun h9 => some h9) else none
theorem T_Tk_copyLines (V : mm_V) (l : Launch) (a0 : Nat) (a1 : Nat) (h : mm_H) (r : mm_H) (hf : f_Tk_copyLines a0 a1 h = some r) : MT V l Y_Tk_copyLines 1 [.ref a0, .ref a1] (fun r1 h1 => r1 = none ∧ h1 = r) h := by
  unfold f_Tk_copyLines at hf
  obtain ⟨⟨t_a0, t_a1⟩, hf⟩ := mm_chkE hf
  refine MT.intro (pn_Tk rfl) [(0, .ref a0), (1, .ref a1)] rfl (Nat.le_of_ble_eq_true rfl) ?_
  generalize hZ : mm_Z V _ = Z0
  refine MM.aload_n (i := 0) rfl rfl d_Tk_copyLines_0 rfl ?_
  refine MM.aload_n (i := 1) rfl rfl d_Tk_copyLines_1 rfl ?_
  refine MM.getI 5 t_a1 lays_5 gq_5_0 ww_251 d_Tk_copyLines_2 rfl ?_
  obtain ⟨h1, e2, hf⟩ := mm_letE hf
  refine MM.putI e2 5 t_a0 lays_5 toks_5 pq_5_0 ww_251 d_Tk_copyLines_5 rfl ?_
  refine MM.aload_n (i := 1) rfl rfl d_Tk_copyLines_8 rfl ?_
  refine MM.gR 5 1 t_a1 rq_5_1 rfl lays_5 ww_254 d_Tk_copyLines_9 rfl ?_
  refine MM.iconst ic_0 d_Tk_copyLines_12 rfl ?_
  refine MM.aload_n (i := 0) rfl rfl d_Tk_copyLines_13 rfl ?_
  refine MM.gR 5 1 t_a0 rq_5_1 rfl lays_5 ww_254 d_Tk_copyLines_14 rfl ?_
  refine MM.iconst ic_0 d_Tk_copyLines_17 rfl ?_
  refine MM.bipush bp_30 d_Tk_copyLines_18 rfl ?_
  obtain ⟨h3, e4, hf⟩ := mm_letE hf
  refine MM.copyI (n := 30) e4 (al_5_1f t_a1) (al_5_1f t_a0) ww_878 ww_828 ww_827 ww_130 (by decide) (by decide) (by decide +kernel) (by decide) (by decide) d_Tk_copyLines_20 rfl ?_
  refine MM.aload_n (i := 1) rfl rfl d_Tk_copyLines_23 rfl ?_
  refine MM.gR 5 2 t_a1 rq_5_2 rfl lays_5 ww_256 d_Tk_copyLines_24 rfl ?_
  refine MM.iconst ic_0 d_Tk_copyLines_27 rfl ?_
  refine MM.aload_n (i := 0) rfl rfl d_Tk_copyLines_28 rfl ?_
  refine MM.gR 5 2 t_a0 rq_5_2 rfl lays_5 ww_256 d_Tk_copyLines_29 rfl ?_
  refine MM.iconst ic_0 d_Tk_copyLines_32 rfl ?_
  refine MM.bipush bp_30 d_Tk_copyLines_33 rfl ?_
  obtain ⟨h5, e6, hf⟩ := mm_letE hf
  refine MM.copyI (n := 30) e6 (al_5_2f t_a1) (al_5_2f t_a0) ww_878 ww_828 ww_827 ww_130 (by decide) (by decide) (by decide +kernel) (by decide) (by decide) d_Tk_copyLines_35 rfl ?_
  refine MM.aload_n (i := 1) rfl rfl d_Tk_copyLines_38 rfl ?_
  refine MM.gR 5 3 t_a1 rq_5_3 rfl lays_5 ww_258 d_Tk_copyLines_39 rfl ?_
  refine MM.iconst ic_0 d_Tk_copyLines_42 rfl ?_
  refine MM.aload_n (i := 0) rfl rfl d_Tk_copyLines_43 rfl ?_
  refine MM.gR 5 3 t_a0 rq_5_3 rfl lays_5 ww_258 d_Tk_copyLines_44 rfl ?_
  refine MM.iconst ic_0 d_Tk_copyLines_47 rfl ?_
  refine MM.bipush bp_30 d_Tk_copyLines_48 rfl ?_
  obtain ⟨h7, e8, hf⟩ := mm_letE hf
  refine MM.copyI (n := 30) e8 (al_5_3f t_a1) (al_5_3f t_a0) ww_878 ww_828 ww_827 ww_130 (by decide) (by decide) (by decide +kernel) (by decide) (by decide) d_Tk_copyLines_50 rfl ?_
  refine MM.aload_n (i := 1) rfl rfl d_Tk_copyLines_53 rfl ?_
  refine MM.gR 5 4 t_a1 rq_5_4 rfl lays_5 ww_260 d_Tk_copyLines_54 rfl ?_
  refine MM.iconst ic_0 d_Tk_copyLines_57 rfl ?_
  refine MM.aload_n (i := 0) rfl rfl d_Tk_copyLines_58 rfl ?_
  refine MM.gR 5 4 t_a0 rq_5_4 rfl lays_5 ww_260 d_Tk_copyLines_59 rfl ?_
  refine MM.iconst ic_0 d_Tk_copyLines_62 rfl ?_
  refine MM.bipush bp_30 d_Tk_copyLines_63 rfl ?_
  obtain ⟨h9, e10, hf⟩ := mm_letE hf
  refine MM.copyI (n := 30) e10 (al_5_4f t_a1) (al_5_4f t_a0) ww_878 ww_828 ww_827 ww_130 (by decide) (by decide) (by decide +kernel) (by decide) (by decide) d_Tk_copyLines_65 rfl ?_
  obtain rfl := Option.some.inj hf
  subst hZ
  exact MM.vret rfl d_Tk_copyLines_68 ⟨rfl, rfl⟩
theorem d_X_gossip_0 : decode cX11_gossip 0 = .ok (.aload_n 0, 1) := by decide +kernel
theorem d_X_gossip_1 : decode cX11_gossip 1 = .ok (.getfield 12, 3) := by decide +kernel
theorem d_X_gossip_4 : decode cX11_gossip 4 = .ok (.aload_n 0, 1) := by decide +kernel
theorem d_X_gossip_5 : decode cX11_gossip 5 = .ok (.getfield 81, 3) := by decide +kernel
theorem d_X_gossip_8 : decode cX11_gossip 8 = .ok (.aload_n 0, 1) := by decide +kernel
theorem d_X_gossip_9 : decode cX11_gossip 9 = .ok (.getfield 33, 3) := by decide +kernel
theorem d_X_gossip_12 : decode cX11_gossip 12 = .ok (.invokestatic 123, 3) := by decide +kernel
theorem d_X_gossip_15 : decode cX11_gossip 15 = .ok (.istore_n 1, 1) := by decide +kernel
theorem d_X_gossip_16 : decode cX11_gossip 16 = .ok (.aload_n 0, 1) := by decide +kernel
theorem d_X_gossip_17 : decode cX11_gossip 17 = .ok (.getfield 12, 3) := by decide +kernel
theorem d_X_gossip_20 : decode cX11_gossip 20 = .ok (.invokevirtual 115, 3) := by decide +kernel
theorem d_X_gossip_23 : decode cX11_gossip 23 = .ok (.iload_n 1, 1) := by decide +kernel
theorem d_X_gossip_24 : decode cX11_gossip 24 = .ok (.ifCond .ne 14, 3) := by decide +kernel
theorem d_X_gossip_27 : decode cX11_gossip 27 = .ok (.aload_n 0, 1) := by decide +kernel
theorem d_X_gossip_28 : decode cX11_gossip 28 = .ok (.getfield 29, 3) := by decide +kernel
theorem d_X_gossip_31 : decode cX11_gossip 31 = .ok (.aload_n 0, 1) := by decide +kernel
theorem d_X_gossip_32 : decode cX11_gossip 32 = .ok (.getfield 33, 3) := by decide +kernel
theorem d_X_gossip_35 : decode cX11_gossip 35 = .ok (.invokevirtual 129, 3) := by decide +kernel
theorem d_X_gossip_38 : decode cX11_gossip 38 = .ok (.iload_n 1, 1) := by decide +kernel
theorem d_X_gossip_39 : decode cX11_gossip 39 = .ok (.ireturn, 1) := by decide +kernel
noncomputable def f_X_gossip (h : mm_H) : Option (Int32 × mm_H) := (mm_gT h 14).bind fun t1 => (f_Go_readGossip t1 54 h).bind fun v4 => (f_Ta_clear v4.2).bind fun v6 => if v4.1 = 0 then ((f_Tk_copyLines 47 54 v6).bind fun v8 => some (v4.1, v8)) else (some (v4.1, v6))
theorem T_X_gossip (V : mm_V) (l : Launch) (h : mm_H) (r : (Int32 × mm_H)) (hf : f_X_gossip h = some r) : MT V l Y_X_gossip 11 [.ref 32] (fun r1 h1 => r1 = some (.int r.1) ∧ h1 = r.2) h := by
  unfold f_X_gossip at hf
  refine MT.intro (pn_X rfl) [(0, .ref 32)] rfl (Nat.le_of_ble_eq_true rfl) ?_
  generalize hZ : mm_Z V _ = Z0
  refine MM.aload_n (i := 0) rfl rfl d_X_gossip_0 rfl ?_
  refine MM.gR 8 1 tg_32 rq_8_0 rfl lays_8 ww_472 d_X_gossip_1 rfl ?_
  refine MM.aload_n (i := 0) rfl rfl d_X_gossip_4 rfl ?_
  obtain ⟨t1, e2, hf⟩ := mm_bind hf
  obtain ⟨e2, t_t1⟩ := mm_gTE e2
  refine MM.gT e2 tg_32 tq_14 lays_8 ww_486 d_X_gossip_5 rfl ?_
  refine MM.aload_n (i := 0) rfl rfl d_X_gossip_8 rfl ?_
  refine MM.gR 8 22 tg_32 rq_8_4 rfl lays_8 ww_476 d_X_gossip_9 rfl ?_
  obtain ⟨v4, e3, hf⟩ := mm_bind hf
  refine MM.callS1 (T_Go_readGossip V l t1 54 h _ e3) (fun _ _ q => q) cal_Go_readGossip rfl ww_843 ww_842 (by decide) (by simp [Value.category]) d_X_gossip_12 rfl ⟨rfl, rfl⟩ rfl ?_
  refine MM.istore_n (i := 1) (lv' := [(1, .int v4.1), (0, .ref 32)]) rfl rfl (Nat.le_of_ble_eq_true rfl) rfl d_X_gossip_15 rfl ?_
  refine MM.aload_n (i := 0) rfl rfl d_X_gossip_16 rfl ?_
  refine MM.gR 8 1 tg_32 rq_8_0 rfl lays_8 ww_472 d_X_gossip_17 rfl ?_
  obtain ⟨v6, e5, hf⟩ := mm_bind hf
  refine MM.callV0 (T_Ta_clear V l  v4.2 _ e5) (fun _ _ q => q) cal_Ta_clear rfl tg_33 ct_6 ww_820 ww_819 ww_818 (by decide) (by simp [Value.category]) d_X_gossip_20 rfl ⟨rfl, rfl⟩ rfl ?_
  refine MM.iload_n (i := 1) rfl rfl d_X_gossip_23 rfl ?_
  obtain ⟨m10, m11⟩ := mm_ifE hf
  refine MM.if_ne (tgt := 38) d_X_gossip_24 rfl rfl (fun c9 => ?_) (fun c9 => ?_)
  · replace hf := m11 c9
    refine MM.iload_n (i := 1) rfl rfl d_X_gossip_38 rfl ?_
    obtain rfl := Option.some.inj hf
    subst hZ
    exact MM.iret rfl d_X_gossip_39 ⟨rfl, rfl⟩
  · replace hf := m10 c9
    refine MM.aload_n (i := 0) rfl rfl d_X_gossip_27 rfl ?_
    refine MM.gR 8 15 tg_32 rq_8_3 rfl lays_8 ww_475 d_X_gossip_28 rfl ?_
    refine MM.aload_n (i := 0) rfl rfl d_X_gossip_31 rfl ?_
    refine MM.gR 8 22 tg_32 rq_8_4 rfl lays_8 ww_476 d_X_gossip_32 rfl ?_
    obtain ⟨v8, e7, hf⟩ := mm_bind hf
    refine MM.callV0 (T_Tk_copyLines V l 47 54 v6 _ e7) (fun _ _ q => q) cal_Tk_copyLines rfl tg_47 ct_5 ww_876 ww_875 ww_874 (by decide) (by simp [Value.category]) d_X_gossip_35 rfl ⟨rfl, rfl⟩ rfl ?_
    refine MM.iload_n (i := 1) rfl rfl d_X_gossip_38 rfl ?_
    obtain rfl := Option.some.inj hf
    subst hZ
    exact MM.iret rfl d_X_gossip_39 ⟨rfl, rfl⟩
theorem d_To_hasPerson_0 : decode cX8_hasPerson 0 = .ok (.iload_n 1, 1) := by decide +kernel
theorem d_To_hasPerson_1 : decode cX8_hasPerson 1 = .ok (.ifCond .lt 15, 3) := by decide +kernel
theorem d_To_hasPerson_4 : decode cX8_hasPerson 4 = .ok (.iload_n 1, 1) := by decide +kernel
theorem d_To_hasPerson_5 : decode cX8_hasPerson 5 = .ok (.aload_n 0, 1) := by decide +kernel
theorem d_To_hasPerson_6 : decode cX8_hasPerson 6 = .ok (.getfield 9, 3) := by decide +kernel
theorem d_To_hasPerson_9 : decode cX8_hasPerson 9 = .ok (.if_icmp .ge 7, 3) := by decide +kernel
theorem d_To_hasPerson_12 : decode cX8_hasPerson 12 = .ok (.iconst 1, 1) := by decide +kernel
theorem d_To_hasPerson_13 : decode cX8_hasPerson 13 = .ok (.goto 4, 3) := by decide +kernel
theorem d_To_hasPerson_16 : decode cX8_hasPerson 16 = .ok (.iconst 0, 1) := by decide +kernel
theorem d_To_hasPerson_17 : decode cX8_hasPerson 17 = .ok (.ireturn, 1) := by decide +kernel
noncomputable def f_To_hasPerson (a0 : Nat) (x1 : Int32) (h : mm_H) : Option Int32 := if mm_tg a0 = 7 then (if x1 < 0 then (some 0) else (if (h.1 a0 0) ≤ x1 then (some 0) else (some 1))) else none
theorem T_To_hasPerson (V : mm_V) (l : Launch) (a0 : Nat) (x1 : Int32) (h : mm_H) (r : Int32) (hf : f_To_hasPerson a0 x1 h = some r) : MT V l Y_To_hasPerson 1 [.ref a0, .int x1] (fun r1 h1 => r1 = some (.int r) ∧ h1 = h) h := by
  unfold f_To_hasPerson at hf
  obtain ⟨t_a0, hf⟩ := mm_chkE hf
  refine MT.intro (pn_To rfl) [(0, .ref a0), (1, .int x1)] rfl (Nat.le_of_ble_eq_true rfl) ?_
  generalize hZ : mm_Z V _ = Z0
  refine MM.iload_n (i := 1) rfl rfl d_To_hasPerson_0 rfl ?_
  obtain ⟨m5, m6⟩ := mm_ifE hf
  refine MM.if_lt (tgt := 16) d_To_hasPerson_1 rfl rfl (fun c4 => ?_) (fun c4 => ?_)
  · replace hf := m5 c4
    refine MM.iconst ic_0 d_To_hasPerson_16 rfl ?_
    obtain rfl := Option.some.inj hf
    subst hZ
    exact MM.zret (Or.inl rfl) rfl d_To_hasPerson_17 ⟨rfl, rfl⟩
  · replace hf := m6 c4
    refine MM.iload_n (i := 1) rfl rfl d_To_hasPerson_4 rfl ?_
    refine MM.aload_n (i := 0) rfl rfl d_To_hasPerson_5 rfl ?_
    refine MM.getI 7 t_a0 lays_7 gq_7_0 ww_363 d_To_hasPerson_6 rfl ?_
    obtain ⟨m2, m3⟩ := mm_ifE hf
    refine MM.icmp_ge (tgt := 16) d_To_hasPerson_9 rfl rfl (fun c1 => ?_) (fun c1 => ?_)
    · replace hf := m2 c1
      refine MM.iconst ic_0 d_To_hasPerson_16 rfl ?_
      obtain rfl := Option.some.inj hf
      subst hZ
      exact MM.zret (Or.inl rfl) rfl d_To_hasPerson_17 ⟨rfl, rfl⟩
    · replace hf := m3 c1
      refine MM.iconst ic_1 d_To_hasPerson_12 rfl ?_
      refine MM.goto (tgt := 17) d_To_hasPerson_13 rfl ?_
      obtain rfl := Option.some.inj hf
      subst hZ
      exact MM.zret (Or.inr rfl) rfl d_To_hasPerson_17 ⟨rfl, rfl⟩
theorem d_St_known_0 : decode cX5_known 0 = .ok (.iconst 0, 1) := by decide +kernel
theorem d_St_known_1 : decode cX5_known 1 = .ok (.istore_n 3, 1) := by decide +kernel
theorem d_St_known_2 : decode cX5_known 2 = .ok (.iconst 0, 1) := by decide +kernel
theorem d_St_known_3 : decode cX5_known 3 = .ok (.istore 4, 2) := by decide +kernel
theorem d_St_known_5 : decode cX5_known 5 = .ok (.iload 4, 2) := by decide +kernel
theorem d_St_known_7 : decode cX5_known 7 = .ok (.aload_n 1, 1) := by decide +kernel
theorem d_St_known_8 : decode cX5_known 8 = .ok (.getfield 65, 3) := by decide +kernel
theorem d_St_known_11 : decode cX5_known 11 = .ok (.if_icmp .ge 26, 3) := by decide +kernel
theorem d_St_known_14 : decode cX5_known 14 = .ok (.iload_n 3, 1) := by decide +kernel
theorem d_St_known_15 : decode cX5_known 15 = .ok (.aload_n 0, 1) := by decide +kernel
theorem d_St_known_16 : decode cX5_known 16 = .ok (.getfield 9, 3) := by decide +kernel
theorem d_St_known_19 : decode cX5_known 19 = .ok (.iload 4, 2) := by decide +kernel
theorem d_St_known_21 : decode cX5_known 21 = .ok (.iaload, 1) := by decide +kernel
theorem d_St_known_22 : decode cX5_known 22 = .ok (.iload_n 2, 1) := by decide +kernel
theorem d_St_known_23 : decode cX5_known 23 = .ok (.invokestatic 68, 3) := by decide +kernel
theorem d_St_known_26 : decode cX5_known 26 = .ok (.iload 4, 2) := by decide +kernel
theorem d_St_known_28 : decode cX5_known 28 = .ok (.ishl, 1) := by decide +kernel
theorem d_St_known_29 : decode cX5_known 29 = .ok (.ior, 1) := by decide +kernel
theorem d_St_known_30 : decode cX5_known 30 = .ok (.istore_n 3, 1) := by decide +kernel
theorem d_St_known_31 : decode cX5_known 31 = .ok (.iinc 4 1, 3) := by decide +kernel
theorem d_St_known_34 : decode cX5_known 34 = .ok (.goto (-29), 3) := by decide +kernel
theorem d_St_known_37 : decode cX5_known 37 = .ok (.iload_n 3, 1) := by decide +kernel
theorem d_St_known_38 : decode cX5_known 38 = .ok (.ireturn, 1) := by decide +kernel
noncomputable def f_St_known (a0 : Nat) (a1 : Nat) (x2 : Int32) (h : mm_H) : Option Int32 := if mm_tg a0 = 4 ∧ mm_tg a1 = 7 then ((mm_while (σ := (Int32 × Int32)) (ρ := Int32) (fun s1 => if (h.1 a1 6) ≤ s1.2 then (some (Sum.inr s1.1)) else ((mm_ix s1.2 10).bind fun k7 => (f_X_bit (h.1 (a0 + 1) k7) x2).bind fun v10 => mm_let (s1.1 ||| (v10 <<< (s1.2 &&& 31))) fun y11 => mm_let (s1.2 + 1) fun y13 => some (Sum.inl (y11, y13)))) (0, 0)).bind fun v4 => some v4) else none
theorem T_St_known (V : mm_V) (l : Launch) (a0 : Nat) (a1 : Nat) (x2 : Int32) (h : mm_H) (r : Int32) (hf : f_St_known a0 a1 x2 h = some r) : MT V l Y_St_known 2 [.ref a0, .ref a1, .int x2] (fun r1 h1 => r1 = some (.int r) ∧ h1 = h) h := by
  unfold f_St_known at hf
  obtain ⟨⟨t_a0, t_a1⟩, hf⟩ := mm_chkE hf
  refine MT.intro (pn_St rfl) [(0, .ref a0), (1, .ref a1), (2, .int x2)] rfl (Nat.le_of_ble_eq_true rfl) ?_
  generalize hZ : mm_Z V _ = Z0
  refine MM.iconst ic_0 d_St_known_0 rfl ?_
  refine MM.istore_n (i := 3) (lv' := [(3, .int 0), (0, .ref a0), (1, .ref a1), (2, .int x2)]) rfl rfl (Nat.le_of_ble_eq_true rfl) rfl d_St_known_1 rfl ?_
  refine MM.iconst ic_0 d_St_known_2 rfl ?_
  refine MM.istore (lv' := [(4, .int 0), (3, .int 0), (0, .ref a0), (1, .ref a1), (2, .int x2)]) rfl (Nat.le_of_ble_eq_true rfl) rfl d_St_known_3 rfl ?_
  obtain ⟨v4, e6, hf⟩ := mm_bind hf
  have K5 : MM V l Y_St_known 2 0 0 Z0 37 [(3, .int v4)] [] h := by
    refine MM.iload_n (i := 3) rfl rfl d_St_known_37 rfl ?_
    obtain rfl := Option.some.inj hf
    subst hZ
    exact MM.iret rfl d_St_known_38 ⟨rfl, rfl⟩
  clear hf
  refine MM.sub [2, 3, 4, 1, 0] (by rfl) (mm_while_ind (fun s1 => MM V l Y_St_known 2 0 0 Z0 5 [(0, .ref a0), (1, .ref a1), (2, .int x2), (3, .int s1.1), (4, .int s1.2)] [] h) e6 (fun s1 q2 hf hx3 => ?_))
  refine MM.iload rfl d_St_known_5 rfl ?_
  refine MM.aload_n (i := 1) rfl rfl d_St_known_7 rfl ?_
  refine MM.getI 7 t_a1 lays_7 gq_7_6 ww_387 d_St_known_8 rfl ?_
  obtain ⟨m16, m17⟩ := mm_ifE hf
  refine MM.icmp_ge (tgt := 37) d_St_known_11 rfl rfl (fun c15 => ?_) (fun c15 => ?_)
  · replace hf := m16 c15
    obtain rfl := Option.some.inj hf
    obtain rfl := Option.some.inj (mm_wxR hx3)
    exact MM.sub [3] (by rfl) K5
  · replace hf := m17 c15
    refine MM.iload_n (i := 3) rfl rfl d_St_known_14 rfl ?_
    refine MM.aload_n (i := 0) rfl rfl d_St_known_15 rfl ?_
    refine MM.gR 4 1 t_a0 rq_4_0 rfl lays_4 ww_201 d_St_known_16 rfl ?_
    refine MM.iload rfl d_St_known_19 rfl ?_
    obtain ⟨k7, e8, hf⟩ := mm_bind hf
    refine MM.gI e8 (al_4_0f t_a0) d_St_known_21 rfl ?_
    refine MM.iload_n (i := 2) rfl rfl d_St_known_22 rfl ?_
    obtain ⟨v10, e9, hf⟩ := mm_bind hf
    refine MM.callSN1 (T_X_bit V l (h.1 (a0 + 1) k7) x2 h _ e9) (fun _ _ q => q) cal_X_bit rfl ww_763 ww_906n (by decide) (by simp [Value.category]) d_St_known_23 rfl ⟨rfl, rfl⟩ rfl ?_
    refine MM.iload rfl d_St_known_26 rfl ?_
    refine MM.ishl d_St_known_28 rfl ?_
    refine MM.ior d_St_known_29 rfl ?_
    obtain ⟨y11, e12, hf⟩ := mm_letE hf
    refine MM.istore_n (i := 3) (lv' := [(3, .int y11), (0, .ref a0), (1, .ref a1), (2, .int x2), (4, .int s1.2)]) e12 rfl (Nat.le_of_ble_eq_true rfl) rfl d_St_known_30 rfl ?_
    obtain ⟨y13, e14, hf⟩ := mm_letE hf
    refine MM.iinc (k0 := 4) (lv' := [(4, .int y13), (3, .int y11), (0, .ref a0), (1, .ref a1), (2, .int x2)]) (by rw [ic_1]; exact e14) rfl (Nat.le_of_ble_eq_true rfl) rfl d_St_known_31 rfl ?_
    refine MM.goto (tgt := 5) d_St_known_34 rfl ?_
    obtain rfl := Option.some.inj hf
    have h9 := mm_wxL hx3
    exact MM.sub [2, 3, 4, 1, 0] (by rfl) h9
theorem d_JI_bitCount_0 : decode cJ6_bitCount_0f7a4 0 = .ok (.iload_n 0, 1) := by decide +kernel
theorem d_JI_bitCount_1 : decode cJ6_bitCount_0f7a4 1 = .ok (.iload_n 0, 1) := by decide +kernel
theorem d_JI_bitCount_2 : decode cJ6_bitCount_0f7a4 2 = .ok (.iconst 1, 1) := by decide +kernel
theorem d_JI_bitCount_3 : decode cJ6_bitCount_0f7a4 3 = .ok (.iushr, 1) := by decide +kernel
theorem d_JI_bitCount_4 : decode cJ6_bitCount_0f7a4 4 = .ok (.ldc_w 265, 3) := by decide +kernel
theorem d_JI_bitCount_7 : decode cJ6_bitCount_0f7a4 7 = .ok (.iand, 1) := by decide +kernel
theorem d_JI_bitCount_8 : decode cJ6_bitCount_0f7a4 8 = .ok (.isub, 1) := by decide +kernel
theorem d_JI_bitCount_9 : decode cJ6_bitCount_0f7a4 9 = .ok (.istore_n 0, 1) := by decide +kernel
theorem d_JI_bitCount_10 : decode cJ6_bitCount_0f7a4 10 = .ok (.iload_n 0, 1) := by decide +kernel
theorem d_JI_bitCount_11 : decode cJ6_bitCount_0f7a4 11 = .ok (.ldc_w 266, 3) := by decide +kernel
theorem d_JI_bitCount_14 : decode cJ6_bitCount_0f7a4 14 = .ok (.iand, 1) := by decide +kernel
theorem d_JI_bitCount_15 : decode cJ6_bitCount_0f7a4 15 = .ok (.iload_n 0, 1) := by decide +kernel
theorem d_JI_bitCount_16 : decode cJ6_bitCount_0f7a4 16 = .ok (.iconst 2, 1) := by decide +kernel
theorem d_JI_bitCount_17 : decode cJ6_bitCount_0f7a4 17 = .ok (.iushr, 1) := by decide +kernel
theorem d_JI_bitCount_18 : decode cJ6_bitCount_0f7a4 18 = .ok (.ldc_w 266, 3) := by decide +kernel
theorem d_JI_bitCount_21 : decode cJ6_bitCount_0f7a4 21 = .ok (.iand, 1) := by decide +kernel
theorem d_JI_bitCount_22 : decode cJ6_bitCount_0f7a4 22 = .ok (.iadd, 1) := by decide +kernel
theorem d_JI_bitCount_23 : decode cJ6_bitCount_0f7a4 23 = .ok (.istore_n 0, 1) := by decide +kernel
theorem d_JI_bitCount_24 : decode cJ6_bitCount_0f7a4 24 = .ok (.iload_n 0, 1) := by decide +kernel
theorem d_JI_bitCount_25 : decode cJ6_bitCount_0f7a4 25 = .ok (.iload_n 0, 1) := by decide +kernel
theorem d_JI_bitCount_26 : decode cJ6_bitCount_0f7a4 26 = .ok (.iconst 4, 1) := by decide +kernel
theorem d_JI_bitCount_27 : decode cJ6_bitCount_0f7a4 27 = .ok (.iushr, 1) := by decide +kernel
theorem d_JI_bitCount_28 : decode cJ6_bitCount_0f7a4 28 = .ok (.iadd, 1) := by decide +kernel
theorem d_JI_bitCount_29 : decode cJ6_bitCount_0f7a4 29 = .ok (.ldc_w 267, 3) := by decide +kernel
theorem d_JI_bitCount_32 : decode cJ6_bitCount_0f7a4 32 = .ok (.iand, 1) := by decide +kernel
theorem d_JI_bitCount_33 : decode cJ6_bitCount_0f7a4 33 = .ok (.istore_n 0, 1) := by decide +kernel
theorem d_JI_bitCount_34 : decode cJ6_bitCount_0f7a4 34 = .ok (.iload_n 0, 1) := by decide +kernel
theorem d_JI_bitCount_35 : decode cJ6_bitCount_0f7a4 35 = .ok (.iload_n 0, 1) := by decide +kernel
theorem d_JI_bitCount_36 : decode cJ6_bitCount_0f7a4 36 = .ok (.bipush 8, 2) := by decide +kernel
theorem d_JI_bitCount_38 : decode cJ6_bitCount_0f7a4 38 = .ok (.iushr, 1) := by decide +kernel
theorem d_JI_bitCount_39 : decode cJ6_bitCount_0f7a4 39 = .ok (.iadd, 1) := by decide +kernel
theorem d_JI_bitCount_40 : decode cJ6_bitCount_0f7a4 40 = .ok (.istore_n 0, 1) := by decide +kernel
theorem d_JI_bitCount_41 : decode cJ6_bitCount_0f7a4 41 = .ok (.iload_n 0, 1) := by decide +kernel
theorem d_JI_bitCount_42 : decode cJ6_bitCount_0f7a4 42 = .ok (.iload_n 0, 1) := by decide +kernel
theorem d_JI_bitCount_43 : decode cJ6_bitCount_0f7a4 43 = .ok (.bipush 16, 2) := by decide +kernel
theorem d_JI_bitCount_45 : decode cJ6_bitCount_0f7a4 45 = .ok (.iushr, 1) := by decide +kernel
theorem d_JI_bitCount_46 : decode cJ6_bitCount_0f7a4 46 = .ok (.iadd, 1) := by decide +kernel
theorem d_JI_bitCount_47 : decode cJ6_bitCount_0f7a4 47 = .ok (.istore_n 0, 1) := by decide +kernel
theorem d_JI_bitCount_48 : decode cJ6_bitCount_0f7a4 48 = .ok (.iload_n 0, 1) := by decide +kernel
theorem d_JI_bitCount_49 : decode cJ6_bitCount_0f7a4 49 = .ok (.bipush 63, 2) := by decide +kernel
theorem d_JI_bitCount_51 : decode cJ6_bitCount_0f7a4 51 = .ok (.iand, 1) := by decide +kernel
theorem d_JI_bitCount_52 : decode cJ6_bitCount_0f7a4 52 = .ok (.ireturn, 1) := by decide +kernel
noncomputable def f_JI_bitCount (x0 : Int32) : Option Int32 := mm_let (x0 - (((Int32.toUInt32 x0 >>> (Int32.toUInt32 1 &&& Int32.toUInt32 31)).toInt32) &&& 1431655765)) fun y1 => mm_let ((y1 &&& 858993459) + (((Int32.toUInt32 y1 >>> (Int32.toUInt32 2 &&& Int32.toUInt32 31)).toInt32) &&& 858993459)) fun y3 => mm_let ((y3 + ((Int32.toUInt32 y3 >>> (Int32.toUInt32 4 &&& Int32.toUInt32 31)).toInt32)) &&& 252645135) fun y5 => mm_let (y5 + ((Int32.toUInt32 y5 >>> (Int32.toUInt32 8 &&& Int32.toUInt32 31)).toInt32)) fun y7 => mm_let (y7 + ((Int32.toUInt32 y7 >>> (Int32.toUInt32 16 &&& Int32.toUInt32 31)).toInt32)) fun y9 => some (y9 &&& 63)
theorem T_JI_bitCount (V : mm_V) (l : Launch) (x0 : Int32) (h : mm_H) (r : Int32) (hf : f_JI_bitCount x0 = some r) : MT V l Y_JI_bitCount 1 [.int x0] (fun r1 h1 => r1 = some (.int r) ∧ h1 = h) h := by
  unfold f_JI_bitCount at hf
  refine MT.intro (pn_JI rfl) [(0, .int x0)] rfl (Nat.le_of_ble_eq_true rfl) ?_
  generalize hZ : mm_Z V _ = Z0
  refine MM.iload_n (i := 0) rfl rfl d_JI_bitCount_0 rfl ?_
  refine MM.iload_n (i := 0) rfl rfl d_JI_bitCount_1 rfl ?_
  refine MM.iconst ic_1 d_JI_bitCount_2 rfl ?_
  refine MM.iushr d_JI_bitCount_3 rfl ?_
  refine MM.ldc_w ww_895 d_JI_bitCount_4 rfl ?_
  refine MM.iand d_JI_bitCount_7 rfl ?_
  refine MM.isub d_JI_bitCount_8 rfl ?_
  obtain ⟨y1, e2, hf⟩ := mm_letE hf
  refine MM.istore_n (i := 0) (lv' := [(0, .int y1)]) e2 rfl (Nat.le_of_ble_eq_true rfl) rfl d_JI_bitCount_9 rfl ?_
  refine MM.iload_n (i := 0) rfl rfl d_JI_bitCount_10 rfl ?_
  refine MM.ldc_w ww_896 d_JI_bitCount_11 rfl ?_
  refine MM.iand d_JI_bitCount_14 rfl ?_
  refine MM.iload_n (i := 0) rfl rfl d_JI_bitCount_15 rfl ?_
  refine MM.iconst ic_2 d_JI_bitCount_16 rfl ?_
  refine MM.iushr d_JI_bitCount_17 rfl ?_
  refine MM.ldc_w ww_896 d_JI_bitCount_18 rfl ?_
  refine MM.iand d_JI_bitCount_21 rfl ?_
  refine MM.iadd d_JI_bitCount_22 rfl ?_
  obtain ⟨y3, e4, hf⟩ := mm_letE hf
  refine MM.istore_n (i := 0) (lv' := [(0, .int y3)]) e4 rfl (Nat.le_of_ble_eq_true rfl) rfl d_JI_bitCount_23 rfl ?_
  refine MM.iload_n (i := 0) rfl rfl d_JI_bitCount_24 rfl ?_
  refine MM.iload_n (i := 0) rfl rfl d_JI_bitCount_25 rfl ?_
  refine MM.iconst ic_4 d_JI_bitCount_26 rfl ?_
  refine MM.iushr d_JI_bitCount_27 rfl ?_
  refine MM.iadd d_JI_bitCount_28 rfl ?_
  refine MM.ldc_w ww_897 d_JI_bitCount_29 rfl ?_
  refine MM.iand d_JI_bitCount_32 rfl ?_
  obtain ⟨y5, e6, hf⟩ := mm_letE hf
  refine MM.istore_n (i := 0) (lv' := [(0, .int y5)]) e6 rfl (Nat.le_of_ble_eq_true rfl) rfl d_JI_bitCount_33 rfl ?_
  refine MM.iload_n (i := 0) rfl rfl d_JI_bitCount_34 rfl ?_
  refine MM.iload_n (i := 0) rfl rfl d_JI_bitCount_35 rfl ?_
  refine MM.bipush bp_8 d_JI_bitCount_36 rfl ?_
  refine MM.iushr d_JI_bitCount_38 rfl ?_
  refine MM.iadd d_JI_bitCount_39 rfl ?_
  obtain ⟨y7, e8, hf⟩ := mm_letE hf
  refine MM.istore_n (i := 0) (lv' := [(0, .int y7)]) e8 rfl (Nat.le_of_ble_eq_true rfl) rfl d_JI_bitCount_40 rfl ?_
  refine MM.iload_n (i := 0) rfl rfl d_JI_bitCount_41 rfl ?_
  refine MM.iload_n (i := 0) rfl rfl d_JI_bitCount_42 rfl ?_
  refine MM.bipush bp_16 d_JI_bitCount_43 rfl ?_
  refine MM.iushr d_JI_bitCount_45 rfl ?_
  refine MM.iadd d_JI_bitCount_46 rfl ?_
  obtain ⟨y9, e10, hf⟩ := mm_letE hf
  refine MM.istore_n (i := 0) (lv' := [(0, .int y9)]) e10 rfl (Nat.le_of_ble_eq_true rfl) rfl d_JI_bitCount_47 rfl ?_
  refine MM.iload_n (i := 0) rfl rfl d_JI_bitCount_48 rfl ?_
  refine MM.bipush bp_63 d_JI_bitCount_49 rfl ?_
  refine MM.iand d_JI_bitCount_51 rfl ?_
  obtain rfl := Option.some.inj hf
  subst hZ
  exact MM.iret rfl d_JI_bitCount_52 ⟨rfl, rfl⟩
theorem d_To_knowers_0 : decode cX8_knowers 0 = .ok (.iload_n 1, 1) := by decide +kernel
theorem d_To_knowers_1 : decode cX8_knowers 1 = .ok (.aload_n 0, 1) := by decide +kernel
theorem d_To_knowers_2 : decode cX8_knowers 2 = .ok (.getfield 29, 3) := by decide +kernel
theorem d_To_knowers_5 : decode cX8_knowers 5 = .ok (.iconst (-1), 1) := by decide +kernel
theorem d_To_knowers_6 : decode cX8_knowers 6 = .ok (.ixor, 1) := by decide +kernel
theorem d_To_knowers_7 : decode cX8_knowers 7 = .ok (.iand, 1) := by decide +kernel
theorem d_To_knowers_8 : decode cX8_knowers 8 = .ok (.invokestatic 91, 3) := by decide +kernel
theorem d_To_knowers_11 : decode cX8_knowers 11 = .ok (.ireturn, 1) := by decide +kernel
noncomputable def f_To_knowers (a0 : Nat) (x1 : Int32) (h : mm_H) : Option Int32 := if mm_tg a0 = 7 then ((f_JI_bitCount (x1 &&& ((h.1 a0 5) ^^^ (-1)))).bind fun v2 => some v2) else none
theorem T_To_knowers (V : mm_V) (l : Launch) (a0 : Nat) (x1 : Int32) (h : mm_H) (r : Int32) (hf : f_To_knowers a0 x1 h = some r) : MT V l Y_To_knowers 2 [.ref a0, .int x1] (fun r1 h1 => r1 = some (.int r) ∧ h1 = h) h := by
  unfold f_To_knowers at hf
  obtain ⟨t_a0, hf⟩ := mm_chkE hf
  refine MT.intro (pn_To rfl) [(0, .ref a0), (1, .int x1)] rfl (Nat.le_of_ble_eq_true rfl) ?_
  generalize hZ : mm_Z V _ = Z0
  refine MM.iload_n (i := 1) rfl rfl d_To_knowers_0 rfl ?_
  refine MM.aload_n (i := 0) rfl rfl d_To_knowers_1 rfl ?_
  refine MM.getI 7 t_a0 lays_7 gq_7_5 ww_383 d_To_knowers_2 rfl ?_
  refine MM.iconst ic_m1 d_To_knowers_5 rfl ?_
  refine MM.ixor d_To_knowers_6 rfl ?_
  refine MM.iand d_To_knowers_7 rfl ?_
  obtain ⟨v2, e1, hf⟩ := mm_bind hf
  refine MM.callS1 (T_JI_bitCount V l (x1 &&& ((h.1 a0 5) ^^^ (-1))) h _ e1) (fun _ _ q => q) cal_JI_bitCount rfl ww_893 ww_892 (by decide) (by simp [Value.category]) d_To_knowers_8 rfl ⟨rfl, rfl⟩ rfl ?_
  obtain rfl := Option.some.inj hf
  subst hZ
  exact MM.iret rfl d_To_knowers_11 ⟨rfl, rfl⟩
theorem d_La_operand_0 : decode cX3_operand 0 = .ok (.iload_n 0, 1) := by decide +kernel
theorem d_La_operand_1 : decode cX3_operand 1 = .ok (.tableswitch 40 (-4) (-1) #[37, 35, 33, 31], 31) := by decide +kernel
theorem d_La_operand_32 : decode cX3_operand 32 = .ok (.iload_n 1, 1) := by decide +kernel
theorem d_La_operand_33 : decode cX3_operand 33 = .ok (.ireturn, 1) := by decide +kernel
theorem d_La_operand_34 : decode cX3_operand 34 = .ok (.iload_n 2, 1) := by decide +kernel
theorem d_La_operand_35 : decode cX3_operand 35 = .ok (.ireturn, 1) := by decide +kernel
theorem d_La_operand_36 : decode cX3_operand 36 = .ok (.iload_n 3, 1) := by decide +kernel
theorem d_La_operand_37 : decode cX3_operand 37 = .ok (.ireturn, 1) := by decide +kernel
theorem d_La_operand_38 : decode cX3_operand 38 = .ok (.iload 4, 2) := by decide +kernel
theorem d_La_operand_40 : decode cX3_operand 40 = .ok (.ireturn, 1) := by decide +kernel
theorem d_La_operand_41 : decode cX3_operand 41 = .ok (.iload_n 0, 1) := by decide +kernel
theorem d_La_operand_42 : decode cX3_operand 42 = .ok (.ireturn, 1) := by decide +kernel
noncomputable def f_La_operand (x0 : Int32) (x1 : Int32) (x2 : Int32) (x3 : Int32) (x4 : Int32) : Option Int32 := if x0 = (-4) then (some x4) else if x0 = (-3) then (some x3) else if x0 = (-2) then (some x2) else if x0 = (-1) then (some x1) else (some x0)
theorem T_La_operand (V : mm_V) (l : Launch) (x0 : Int32) (x1 : Int32) (x2 : Int32) (x3 : Int32) (x4 : Int32) (h : mm_H) (r : Int32) (hf : f_La_operand x0 x1 x2 x3 x4 = some r) : MT V l Y_La_operand 1 [.int x0, .int x1, .int x2, .int x3, .int x4] (fun r1 h1 => r1 = some (.int r) ∧ h1 = h) h := by
  unfold f_La_operand at hf
  refine MT.intro (pn_La rfl) [(0, .int x0), (1, .int x1), (2, .int x2), (3, .int x3), (4, .int x4)] rfl (Nat.le_of_ble_eq_true rfl) ?_
  generalize hZ : mm_Z V _ = Z0
  refine MM.iload_n (i := 0) rfl rfl d_La_operand_0 rfl ?_
  obtain ⟨m1, m2⟩ := mm_ifE hf
  by_cases c3 : x0 = (-4)
  · replace hf := m1 c3
    refine MM.tableIn (tgt := 38) (-4) (by rw [c3]; decide +kernel) (by decide) d_La_operand_1 rfl rfl ?_
    refine MM.iload rfl d_La_operand_38 rfl ?_
    obtain rfl := Option.some.inj hf
    subst hZ
    exact MM.iret rfl d_La_operand_40 ⟨rfl, rfl⟩
  replace hf := m2 c3
  obtain ⟨m4, m5⟩ := mm_ifE hf
  by_cases c6 : x0 = (-3)
  · replace hf := m4 c6
    refine MM.tableIn (tgt := 36) (-3) (by rw [c6]; decide +kernel) (by decide) d_La_operand_1 rfl rfl ?_
    refine MM.iload_n (i := 3) rfl rfl d_La_operand_36 rfl ?_
    obtain rfl := Option.some.inj hf
    subst hZ
    exact MM.iret rfl d_La_operand_37 ⟨rfl, rfl⟩
  replace hf := m5 c6
  obtain ⟨m7, m8⟩ := mm_ifE hf
  by_cases c9 : x0 = (-2)
  · replace hf := m7 c9
    refine MM.tableIn (tgt := 34) (-2) (by rw [c9]; decide +kernel) (by decide) d_La_operand_1 rfl rfl ?_
    refine MM.iload_n (i := 2) rfl rfl d_La_operand_34 rfl ?_
    obtain rfl := Option.some.inj hf
    subst hZ
    exact MM.iret rfl d_La_operand_35 ⟨rfl, rfl⟩
  replace hf := m8 c9
  obtain ⟨m10, m11⟩ := mm_ifE hf
  by_cases c12 : x0 = (-1)
  · replace hf := m10 c12
    refine MM.tableIn (tgt := 32) (-1) (by rw [c12]; decide +kernel) (by decide) d_La_operand_1 rfl rfl ?_
    refine MM.iload_n (i := 1) rfl rfl d_La_operand_32 rfl ?_
    obtain rfl := Option.some.inj hf
    subst hZ
    exact MM.iret rfl d_La_operand_33 ⟨rfl, rfl⟩
  replace hf := m11 c12
  have zc3 := mm_swOut c3
  have zc6 := mm_swOut c6
  have zc9 := mm_swOut c9
  have zc12 := mm_swOut c12
  refine MM.tableOut (tgt := 41) (by replace zc3 : _ ≠ (-4 : Int) := zc3; replace zc6 : _ ≠ (-3 : Int) := zc6; replace zc9 : _ ≠ (-2 : Int) := zc9; replace zc12 : _ ≠ (-1 : Int) := zc12; omega) d_La_operand_1 rfl ?_
  refine MM.iload_n (i := 0) rfl rfl d_La_operand_41 rfl ?_
  obtain rfl := Option.some.inj hf
  subst hZ
  exact MM.iret rfl d_La_operand_42 ⟨rfl, rfl⟩
theorem d_La_joined_0 : decode cX3_joined 0 = .ok (.iload_n 0, 1) := by decide +kernel
theorem d_La_joined_1 : decode cX3_joined 1 = .ok (.tableswitch 87 (-11) (-6) #[73, 62, 51, 47, 43, 39], 39) := by decide +kernel
theorem d_La_joined_40 : decode cX3_joined 40 = .ok (.iload_n 1, 1) := by decide +kernel
theorem d_La_joined_41 : decode cX3_joined 41 = .ok (.iload_n 2, 1) := by decide +kernel
theorem d_La_joined_42 : decode cX3_joined 42 = .ok (.imul, 1) := by decide +kernel
theorem d_La_joined_43 : decode cX3_joined 43 = .ok (.ireturn, 1) := by decide +kernel
theorem d_La_joined_44 : decode cX3_joined 44 = .ok (.iload_n 1, 1) := by decide +kernel
theorem d_La_joined_45 : decode cX3_joined 45 = .ok (.iload_n 2, 1) := by decide +kernel
theorem d_La_joined_46 : decode cX3_joined 46 = .ok (.iadd, 1) := by decide +kernel
theorem d_La_joined_47 : decode cX3_joined 47 = .ok (.ireturn, 1) := by decide +kernel
theorem d_La_joined_48 : decode cX3_joined 48 = .ok (.iload_n 1, 1) := by decide +kernel
theorem d_La_joined_49 : decode cX3_joined 49 = .ok (.iload_n 2, 1) := by decide +kernel
theorem d_La_joined_50 : decode cX3_joined 50 = .ok (.isub, 1) := by decide +kernel
theorem d_La_joined_51 : decode cX3_joined 51 = .ok (.ireturn, 1) := by decide +kernel
theorem d_La_joined_52 : decode cX3_joined 52 = .ok (.iload_n 1, 1) := by decide +kernel
theorem d_La_joined_53 : decode cX3_joined 53 = .ok (.iload_n 2, 1) := by decide +kernel
theorem d_La_joined_54 : decode cX3_joined 54 = .ok (.if_icmp .ge 7, 3) := by decide +kernel
theorem d_La_joined_57 : decode cX3_joined 57 = .ok (.iconst 1, 1) := by decide +kernel
theorem d_La_joined_58 : decode cX3_joined 58 = .ok (.goto 4, 3) := by decide +kernel
theorem d_La_joined_61 : decode cX3_joined 61 = .ok (.iconst 0, 1) := by decide +kernel
theorem d_La_joined_62 : decode cX3_joined 62 = .ok (.ireturn, 1) := by decide +kernel
theorem d_La_joined_63 : decode cX3_joined 63 = .ok (.iload_n 1, 1) := by decide +kernel
theorem d_La_joined_64 : decode cX3_joined 64 = .ok (.iload_n 2, 1) := by decide +kernel
theorem d_La_joined_65 : decode cX3_joined 65 = .ok (.if_icmp .ne 7, 3) := by decide +kernel
theorem d_La_joined_68 : decode cX3_joined 68 = .ok (.iconst 1, 1) := by decide +kernel
theorem d_La_joined_69 : decode cX3_joined 69 = .ok (.goto 4, 3) := by decide +kernel
theorem d_La_joined_72 : decode cX3_joined 72 = .ok (.iconst 0, 1) := by decide +kernel
theorem d_La_joined_73 : decode cX3_joined 73 = .ok (.ireturn, 1) := by decide +kernel
theorem d_La_joined_74 : decode cX3_joined 74 = .ok (.iload_n 1, 1) := by decide +kernel
theorem d_La_joined_75 : decode cX3_joined 75 = .ok (.ifCond .eq 11, 3) := by decide +kernel
theorem d_La_joined_78 : decode cX3_joined 78 = .ok (.iload_n 2, 1) := by decide +kernel
theorem d_La_joined_79 : decode cX3_joined 79 = .ok (.ifCond .eq 7, 3) := by decide +kernel
theorem d_La_joined_82 : decode cX3_joined 82 = .ok (.iconst 1, 1) := by decide +kernel
theorem d_La_joined_83 : decode cX3_joined 83 = .ok (.goto 4, 3) := by decide +kernel
theorem d_La_joined_86 : decode cX3_joined 86 = .ok (.iconst 0, 1) := by decide +kernel
theorem d_La_joined_87 : decode cX3_joined 87 = .ok (.ireturn, 1) := by decide +kernel
theorem d_La_joined_88 : decode cX3_joined 88 = .ok (.iload_n 1, 1) := by decide +kernel
theorem d_La_joined_89 : decode cX3_joined 89 = .ok (.ifCond .ne 7, 3) := by decide +kernel
theorem d_La_joined_92 : decode cX3_joined 92 = .ok (.iload_n 2, 1) := by decide +kernel
theorem d_La_joined_93 : decode cX3_joined 93 = .ok (.ifCond .eq 7, 3) := by decide +kernel
theorem d_La_joined_96 : decode cX3_joined 96 = .ok (.iconst 1, 1) := by decide +kernel
theorem d_La_joined_97 : decode cX3_joined 97 = .ok (.goto 4, 3) := by decide +kernel
theorem d_La_joined_100 : decode cX3_joined 100 = .ok (.iconst 0, 1) := by decide +kernel
theorem d_La_joined_101 : decode cX3_joined 101 = .ok (.ireturn, 1) := by decide +kernel
noncomputable def f_La_joined (x0 : Int32) (x1 : Int32) (x2 : Int32) : Option Int32 := if x0 = (-11) then (if x1 = 0 then (some 0) else (if x2 = 0 then (some 0) else (some 1))) else if x0 = (-10) then (if x1 = x2 then (some 1) else (some 0)) else if x0 = (-9) then (if x2 ≤ x1 then (some 0) else (some 1)) else if x0 = (-8) then (some (x1 - x2)) else if x0 = (-7) then (some (x1 + x2)) else if x0 = (-6) then (some (x1 * x2)) else (if x1 = 0 then (if x2 = 0 then (some 0) else (some 1)) else (some 1))
theorem T_La_joined (V : mm_V) (l : Launch) (x0 : Int32) (x1 : Int32) (x2 : Int32) (h : mm_H) (r : Int32) (hf : f_La_joined x0 x1 x2 = some r) : MT V l Y_La_joined 1 [.int x0, .int x1, .int x2] (fun r1 h1 => r1 = some (.int r) ∧ h1 = h) h := by
  unfold f_La_joined at hf
  refine MT.intro (pn_La rfl) [(0, .int x0), (1, .int x1), (2, .int x2)] rfl (Nat.le_of_ble_eq_true rfl) ?_
  generalize hZ : mm_Z V _ = Z0
  refine MM.iload_n (i := 0) rfl rfl d_La_joined_0 rfl ?_
  obtain ⟨m7, m8⟩ := mm_ifE hf
  by_cases c9 : x0 = (-11)
  · replace hf := m7 c9
    refine MM.tableIn (tgt := 74) (-11) (by rw [c9]; decide +kernel) (by decide) d_La_joined_1 rfl rfl ?_
    refine MM.iload_n (i := 1) rfl rfl d_La_joined_74 rfl ?_
    obtain ⟨m5, m6⟩ := mm_ifE hf
    refine MM.if_eq (tgt := 86) d_La_joined_75 rfl rfl (fun c4 => ?_) (fun c4 => ?_)
    · replace hf := m5 c4
      refine MM.iconst ic_0 d_La_joined_86 rfl ?_
      obtain rfl := Option.some.inj hf
      subst hZ
      exact MM.iret rfl d_La_joined_87 ⟨rfl, rfl⟩
    · replace hf := m6 c4
      refine MM.iload_n (i := 2) rfl rfl d_La_joined_78 rfl ?_
      obtain ⟨m2, m3⟩ := mm_ifE hf
      refine MM.if_eq (tgt := 86) d_La_joined_79 rfl rfl (fun c1 => ?_) (fun c1 => ?_)
      · replace hf := m2 c1
        refine MM.iconst ic_0 d_La_joined_86 rfl ?_
        obtain rfl := Option.some.inj hf
        subst hZ
        exact MM.iret rfl d_La_joined_87 ⟨rfl, rfl⟩
      · replace hf := m3 c1
        refine MM.iconst ic_1 d_La_joined_82 rfl ?_
        refine MM.goto (tgt := 87) d_La_joined_83 rfl ?_
        obtain rfl := Option.some.inj hf
        subst hZ
        exact MM.iret rfl d_La_joined_87 ⟨rfl, rfl⟩
  replace hf := m8 c9
  obtain ⟨m13, m14⟩ := mm_ifE hf
  by_cases c15 : x0 = (-10)
  · replace hf := m13 c15
    refine MM.tableIn (tgt := 63) (-10) (by rw [c15]; decide +kernel) (by decide) d_La_joined_1 rfl rfl ?_
    refine MM.iload_n (i := 1) rfl rfl d_La_joined_63 rfl ?_
    refine MM.iload_n (i := 2) rfl rfl d_La_joined_64 rfl ?_
    obtain ⟨m11, m12⟩ := mm_ifE hf
    refine MM.icmp_ne (tgt := 72) d_La_joined_65 rfl rfl (fun c10 => ?_) (fun c10 => ?_)
    · replace hf := m12 c10
      refine MM.iconst ic_0 d_La_joined_72 rfl ?_
      obtain rfl := Option.some.inj hf
      subst hZ
      exact MM.iret rfl d_La_joined_73 ⟨rfl, rfl⟩
    · replace hf := m11 c10
      refine MM.iconst ic_1 d_La_joined_68 rfl ?_
      refine MM.goto (tgt := 73) d_La_joined_69 rfl ?_
      obtain rfl := Option.some.inj hf
      subst hZ
      exact MM.iret rfl d_La_joined_73 ⟨rfl, rfl⟩
  replace hf := m14 c15
  obtain ⟨m19, m20⟩ := mm_ifE hf
  by_cases c21 : x0 = (-9)
  · replace hf := m19 c21
    refine MM.tableIn (tgt := 52) (-9) (by rw [c21]; decide +kernel) (by decide) d_La_joined_1 rfl rfl ?_
    refine MM.iload_n (i := 1) rfl rfl d_La_joined_52 rfl ?_
    refine MM.iload_n (i := 2) rfl rfl d_La_joined_53 rfl ?_
    obtain ⟨m17, m18⟩ := mm_ifE hf
    refine MM.icmp_ge (tgt := 61) d_La_joined_54 rfl rfl (fun c16 => ?_) (fun c16 => ?_)
    · replace hf := m17 c16
      refine MM.iconst ic_0 d_La_joined_61 rfl ?_
      obtain rfl := Option.some.inj hf
      subst hZ
      exact MM.iret rfl d_La_joined_62 ⟨rfl, rfl⟩
    · replace hf := m18 c16
      refine MM.iconst ic_1 d_La_joined_57 rfl ?_
      refine MM.goto (tgt := 62) d_La_joined_58 rfl ?_
      obtain rfl := Option.some.inj hf
      subst hZ
      exact MM.iret rfl d_La_joined_62 ⟨rfl, rfl⟩
  replace hf := m20 c21
  obtain ⟨m22, m23⟩ := mm_ifE hf
  by_cases c24 : x0 = (-8)
  · replace hf := m22 c24
    refine MM.tableIn (tgt := 48) (-8) (by rw [c24]; decide +kernel) (by decide) d_La_joined_1 rfl rfl ?_
    refine MM.iload_n (i := 1) rfl rfl d_La_joined_48 rfl ?_
    refine MM.iload_n (i := 2) rfl rfl d_La_joined_49 rfl ?_
    refine MM.isub d_La_joined_50 rfl ?_
    obtain rfl := Option.some.inj hf
    subst hZ
    exact MM.iret rfl d_La_joined_51 ⟨rfl, rfl⟩
  replace hf := m23 c24
  obtain ⟨m25, m26⟩ := mm_ifE hf
  by_cases c27 : x0 = (-7)
  · replace hf := m25 c27
    refine MM.tableIn (tgt := 44) (-7) (by rw [c27]; decide +kernel) (by decide) d_La_joined_1 rfl rfl ?_
    refine MM.iload_n (i := 1) rfl rfl d_La_joined_44 rfl ?_
    refine MM.iload_n (i := 2) rfl rfl d_La_joined_45 rfl ?_
    refine MM.iadd d_La_joined_46 rfl ?_
    obtain rfl := Option.some.inj hf
    subst hZ
    exact MM.iret rfl d_La_joined_47 ⟨rfl, rfl⟩
  replace hf := m26 c27
  obtain ⟨m28, m29⟩ := mm_ifE hf
  by_cases c30 : x0 = (-6)
  · replace hf := m28 c30
    refine MM.tableIn (tgt := 40) (-6) (by rw [c30]; decide +kernel) (by decide) d_La_joined_1 rfl rfl ?_
    refine MM.iload_n (i := 1) rfl rfl d_La_joined_40 rfl ?_
    refine MM.iload_n (i := 2) rfl rfl d_La_joined_41 rfl ?_
    refine MM.imul d_La_joined_42 rfl ?_
    obtain rfl := Option.some.inj hf
    subst hZ
    exact MM.iret rfl d_La_joined_43 ⟨rfl, rfl⟩
  replace hf := m29 c30
  have zc9 := mm_swOut c9
  have zc15 := mm_swOut c15
  have zc21 := mm_swOut c21
  have zc24 := mm_swOut c24
  have zc27 := mm_swOut c27
  have zc30 := mm_swOut c30
  refine MM.tableOut (tgt := 88) (by replace zc9 : _ ≠ (-11 : Int) := zc9; replace zc15 : _ ≠ (-10 : Int) := zc15; replace zc21 : _ ≠ (-9 : Int) := zc21; replace zc24 : _ ≠ (-8 : Int) := zc24; replace zc27 : _ ≠ (-7 : Int) := zc27; replace zc30 : _ ≠ (-6 : Int) := zc30; omega) d_La_joined_1 rfl ?_
  refine MM.iload_n (i := 1) rfl rfl d_La_joined_88 rfl ?_
  obtain ⟨m35, m36⟩ := mm_ifE hf
  refine MM.if_ne (tgt := 96) d_La_joined_89 rfl rfl (fun c34 => ?_) (fun c34 => ?_)
  · replace hf := m36 c34
    refine MM.iconst ic_1 d_La_joined_96 rfl ?_
    refine MM.goto (tgt := 101) d_La_joined_97 rfl ?_
    obtain rfl := Option.some.inj hf
    subst hZ
    exact MM.iret rfl d_La_joined_101 ⟨rfl, rfl⟩
  · replace hf := m35 c34
    refine MM.iload_n (i := 2) rfl rfl d_La_joined_92 rfl ?_
    obtain ⟨m32, m33⟩ := mm_ifE hf
    refine MM.if_eq (tgt := 100) d_La_joined_93 rfl rfl (fun c31 => ?_) (fun c31 => ?_)
    · replace hf := m32 c31
      refine MM.iconst ic_0 d_La_joined_100 rfl ?_
      obtain rfl := Option.some.inj hf
      subst hZ
      exact MM.iret rfl d_La_joined_101 ⟨rfl, rfl⟩
    · replace hf := m33 c31
      refine MM.iconst ic_1 d_La_joined_96 rfl ?_
      refine MM.goto (tgt := 101) d_La_joined_97 rfl ?_
      obtain rfl := Option.some.inj hf
      subst hZ
      exact MM.iret rfl d_La_joined_101 ⟨rfl, rfl⟩
theorem d_La_value_0 : decode cX3_value 0 = .ok (.iconst 0, 1) := by decide +kernel
theorem d_La_value_1 : decode cX3_value 1 = .ok (.istore 5, 2) := by decide +kernel
theorem d_La_value_3 : decode cX3_value 3 = .ok (.iconst 0, 1) := by decide +kernel
theorem d_La_value_4 : decode cX3_value 4 = .ok (.istore 6, 2) := by decide +kernel
theorem d_La_value_6 : decode cX3_value 6 = .ok (.iload 6, 2) := by decide +kernel
theorem d_La_value_8 : decode cX3_value 8 = .ok (.aload_n 0, 1) := by decide +kernel
theorem d_La_value_9 : decode cX3_value 9 = .ok (.getfield 18, 3) := by decide +kernel
theorem d_La_value_12 : decode cX3_value 12 = .ok (.if_icmp .ge 139, 3) := by decide +kernel
theorem d_La_value_15 : decode cX3_value 15 = .ok (.aload_n 0, 1) := by decide +kernel
theorem d_La_value_16 : decode cX3_value 16 = .ok (.getfield 9, 3) := by decide +kernel
theorem d_La_value_19 : decode cX3_value 19 = .ok (.iload 6, 2) := by decide +kernel
theorem d_La_value_21 : decode cX3_value 21 = .ok (.iaload, 1) := by decide +kernel
theorem d_La_value_22 : decode cX3_value 22 = .ok (.istore 7, 2) := by decide +kernel
theorem d_La_value_24 : decode cX3_value 24 = .ok (.iload 7, 2) := by decide +kernel
theorem d_La_value_26 : decode cX3_value 26 = .ok (.bipush (-4), 2) := by decide +kernel
theorem d_La_value_28 : decode cX3_value 28 = .ok (.if_icmp .lt 36, 3) := by decide +kernel
theorem d_La_value_31 : decode cX3_value 31 = .ok (.iload 5, 2) := by decide +kernel
theorem d_La_value_33 : decode cX3_value 33 = .ok (.aload_n 0, 1) := by decide +kernel
theorem d_La_value_34 : decode cX3_value 34 = .ok (.getfield 15, 3) := by decide +kernel
theorem d_La_value_37 : decode cX3_value 37 = .ok (.arraylength, 1) := by decide +kernel
theorem d_La_value_38 : decode cX3_value 38 = .ok (.if_icmp .ge 107, 3) := by decide +kernel
theorem d_La_value_41 : decode cX3_value 41 = .ok (.aload_n 0, 1) := by decide +kernel
theorem d_La_value_42 : decode cX3_value 42 = .ok (.getfield 15, 3) := by decide +kernel
theorem d_La_value_45 : decode cX3_value 45 = .ok (.iload 5, 2) := by decide +kernel
theorem d_La_value_47 : decode cX3_value 47 = .ok (.iload 7, 2) := by decide +kernel
theorem d_La_value_49 : decode cX3_value 49 = .ok (.iload_n 1, 1) := by decide +kernel
theorem d_La_value_50 : decode cX3_value 50 = .ok (.iload_n 2, 1) := by decide +kernel
theorem d_La_value_51 : decode cX3_value 51 = .ok (.iload_n 3, 1) := by decide +kernel
theorem d_La_value_52 : decode cX3_value 52 = .ok (.iload 4, 2) := by decide +kernel
theorem d_La_value_54 : decode cX3_value 54 = .ok (.invokestatic 80, 3) := by decide +kernel
theorem d_La_value_57 : decode cX3_value 57 = .ok (.iastore, 1) := by decide +kernel
theorem d_La_value_58 : decode cX3_value 58 = .ok (.iinc 5 1, 3) := by decide +kernel
theorem d_La_value_61 : decode cX3_value 61 = .ok (.goto 84, 3) := by decide +kernel
theorem d_La_value_64 : decode cX3_value 64 = .ok (.iload 7, 2) := by decide +kernel
theorem d_La_value_66 : decode cX3_value 66 = .ok (.bipush (-5), 2) := by decide +kernel
theorem d_La_value_68 : decode cX3_value 68 = .ok (.if_icmp .ne 38, 3) := by decide +kernel
theorem d_La_value_71 : decode cX3_value 71 = .ok (.iload 5, 2) := by decide +kernel
theorem d_La_value_73 : decode cX3_value 73 = .ok (.iconst 1, 1) := by decide +kernel
theorem d_La_value_74 : decode cX3_value 74 = .ok (.if_icmp .lt 32, 3) := by decide +kernel
theorem d_La_value_77 : decode cX3_value 77 = .ok (.aload_n 0, 1) := by decide +kernel
theorem d_La_value_78 : decode cX3_value 78 = .ok (.getfield 15, 3) := by decide +kernel
theorem d_La_value_81 : decode cX3_value 81 = .ok (.iload 5, 2) := by decide +kernel
theorem d_La_value_83 : decode cX3_value 83 = .ok (.iconst 1, 1) := by decide +kernel
theorem d_La_value_84 : decode cX3_value 84 = .ok (.isub, 1) := by decide +kernel
theorem d_La_value_85 : decode cX3_value 85 = .ok (.aload_n 0, 1) := by decide +kernel
theorem d_La_value_86 : decode cX3_value 86 = .ok (.getfield 15, 3) := by decide +kernel
theorem d_La_value_89 : decode cX3_value 89 = .ok (.iload 5, 2) := by decide +kernel
theorem d_La_value_91 : decode cX3_value 91 = .ok (.iconst 1, 1) := by decide +kernel
theorem d_La_value_92 : decode cX3_value 92 = .ok (.isub, 1) := by decide +kernel
theorem d_La_value_93 : decode cX3_value 93 = .ok (.iaload, 1) := by decide +kernel
theorem d_La_value_94 : decode cX3_value 94 = .ok (.ifCond .ne 7, 3) := by decide +kernel
theorem d_La_value_97 : decode cX3_value 97 = .ok (.iconst 1, 1) := by decide +kernel
theorem d_La_value_98 : decode cX3_value 98 = .ok (.goto 4, 3) := by decide +kernel
theorem d_La_value_101 : decode cX3_value 101 = .ok (.iconst 0, 1) := by decide +kernel
theorem d_La_value_102 : decode cX3_value 102 = .ok (.iastore, 1) := by decide +kernel
theorem d_La_value_103 : decode cX3_value 103 = .ok (.goto 42, 3) := by decide +kernel
theorem d_La_value_106 : decode cX3_value 106 = .ok (.iload 5, 2) := by decide +kernel
theorem d_La_value_108 : decode cX3_value 108 = .ok (.iconst 2, 1) := by decide +kernel
theorem d_La_value_109 : decode cX3_value 109 = .ok (.if_icmp .lt 36, 3) := by decide +kernel
theorem d_La_value_112 : decode cX3_value 112 = .ok (.iinc 5 (-1), 3) := by decide +kernel
theorem d_La_value_115 : decode cX3_value 115 = .ok (.aload_n 0, 1) := by decide +kernel
theorem d_La_value_116 : decode cX3_value 116 = .ok (.getfield 15, 3) := by decide +kernel
theorem d_La_value_119 : decode cX3_value 119 = .ok (.iload 5, 2) := by decide +kernel
theorem d_La_value_121 : decode cX3_value 121 = .ok (.iconst 1, 1) := by decide +kernel
theorem d_La_value_122 : decode cX3_value 122 = .ok (.isub, 1) := by decide +kernel
theorem d_La_value_123 : decode cX3_value 123 = .ok (.iload 7, 2) := by decide +kernel
theorem d_La_value_125 : decode cX3_value 125 = .ok (.aload_n 0, 1) := by decide +kernel
theorem d_La_value_126 : decode cX3_value 126 = .ok (.getfield 15, 3) := by decide +kernel
theorem d_La_value_129 : decode cX3_value 129 = .ok (.iload 5, 2) := by decide +kernel
theorem d_La_value_131 : decode cX3_value 131 = .ok (.iconst 1, 1) := by decide +kernel
theorem d_La_value_132 : decode cX3_value 132 = .ok (.isub, 1) := by decide +kernel
theorem d_La_value_133 : decode cX3_value 133 = .ok (.iaload, 1) := by decide +kernel
theorem d_La_value_134 : decode cX3_value 134 = .ok (.aload_n 0, 1) := by decide +kernel
theorem d_La_value_135 : decode cX3_value 135 = .ok (.getfield 15, 3) := by decide +kernel
theorem d_La_value_138 : decode cX3_value 138 = .ok (.iload 5, 2) := by decide +kernel
theorem d_La_value_140 : decode cX3_value 140 = .ok (.iaload, 1) := by decide +kernel
theorem d_La_value_141 : decode cX3_value 141 = .ok (.invokestatic 84, 3) := by decide +kernel
theorem d_La_value_144 : decode cX3_value 144 = .ok (.iastore, 1) := by decide +kernel
theorem d_La_value_145 : decode cX3_value 145 = .ok (.iinc 6 1, 3) := by decide +kernel
theorem d_La_value_148 : decode cX3_value 148 = .ok (.goto (-142), 3) := by decide +kernel
theorem d_La_value_151 : decode cX3_value 151 = .ok (.iload 5, 2) := by decide +kernel
theorem d_La_value_153 : decode cX3_value 153 = .ok (.iconst 1, 1) := by decide +kernel
theorem d_La_value_154 : decode cX3_value 154 = .ok (.if_icmp .ne 12, 3) := by decide +kernel
theorem d_La_value_157 : decode cX3_value 157 = .ok (.aload_n 0, 1) := by decide +kernel
theorem d_La_value_158 : decode cX3_value 158 = .ok (.getfield 15, 3) := by decide +kernel
theorem d_La_value_161 : decode cX3_value 161 = .ok (.iconst 0, 1) := by decide +kernel
theorem d_La_value_162 : decode cX3_value 162 = .ok (.iaload, 1) := by decide +kernel
theorem d_La_value_163 : decode cX3_value 163 = .ok (.goto 4, 3) := by decide +kernel
theorem d_La_value_166 : decode cX3_value 166 = .ok (.iconst 0, 1) := by decide +kernel
theorem d_La_value_167 : decode cX3_value 167 = .ok (.ireturn, 1) := by decide +kernel
noncomputable def f_La_value (a0 : Nat) (x1 : Int32) (x2 : Int32) (x3 : Int32) (x4 : Int32) (h : mm_H) : Option (Int32 × mm_H) := if mm_tg a0 = 2 then ((mm_while (σ := (Int32 × Int32 × mm_H)) (ρ := (Int32 × mm_H)) (fun s1 => if (s1.2.2.1 a0 2) ≤ s1.2.1 then (some (Sum.inr (s1.1, s1.2.2))) else ((mm_ix s1.2.1 1000).bind fun k7 => mm_let (s1.2.2.1 (a0 + 1) k7) fun y9 => (if y9 < (-4) then (mm_jp (fun (j13 : Unit) => (if s1.1 < 2 then (some (s1.1, s1.2.2)) else (mm_let (s1.1 + (-1)) fun y16 => (mm_ix (y16 - 1) 24).bind fun k18 => (mm_ix y16 24).bind fun k20 => (f_La_joined y9 (s1.2.2.1 (a0 + 2) k18) (s1.2.2.1 (a0 + 2) k20)).bind fun v23 => (mm_ix (y16 - 1) 24).bind fun k24 => mm_let (mm_pI s1.2.2 (a0 + 2) k24 v23) fun h26 => some (y16, h26)))) fun k15 => if y9 = (-5) then (if s1.1 < 1 then (k15 ()) else ((mm_ix (s1.1 - 1) 24).bind fun k31 => (if (s1.2.2.1 (a0 + 2) k31) = 0 then (some 1) else (some 0) : Option Int32).bind fun j33 => (mm_ix (s1.1 - 1) 24).bind fun k38 => mm_let (mm_pI s1.2.2 (a0 + 2) k38 j33) fun h40 => some (s1.1, h40))) else (k15 ())) else (if 24 ≤ s1.1 then (some (s1.1, s1.2.2)) else ((f_La_operand y9 x1 x2 x3 x4).bind fun v51 => (mm_ix s1.1 24).bind fun k52 => mm_let (mm_pI s1.2.2 (a0 + 2) k52 v51) fun h54 => mm_let (s1.1 + 1) fun y56 => some (y56, h54))) : Option (Int32 × mm_H)).bind fun j11 => mm_let (s1.2.1 + 1) fun y64 => some (Sum.inl (j11.1, y64, j11.2)))) (0, 0, h)).bind fun v4 => if v4.1 = 1 then (some ((v4.2.1 (a0 + 2) 0), v4.2)) else (some (0, v4.2))) else none
theorem T_La_value (V : mm_V) (l : Launch) (a0 : Nat) (x1 : Int32) (x2 : Int32) (x3 : Int32) (x4 : Int32) (h : mm_H) (r : (Int32 × mm_H)) (hf : f_La_value a0 x1 x2 x3 x4 h = some r) : MT V l Y_La_value 2 [.ref a0, .int x1, .int x2, .int x3, .int x4] (fun r1 h1 => r1 = some (.int r.1) ∧ h1 = r.2) h := by
  unfold f_La_value at hf
  obtain ⟨t_a0, hf⟩ := mm_chkE hf
  refine MT.intro (pn_La rfl) [(0, .ref a0), (1, .int x1), (2, .int x2), (3, .int x3), (4, .int x4)] rfl (Nat.le_of_ble_eq_true rfl) ?_
  generalize hZ : mm_Z V _ = Z0
  refine MM.iconst ic_0 d_La_value_0 rfl ?_
  refine MM.istore (lv' := [(5, .int 0), (0, .ref a0), (1, .int x1), (2, .int x2), (3, .int x3), (4, .int x4)]) rfl (Nat.le_of_ble_eq_true rfl) rfl d_La_value_1 rfl ?_
  refine MM.iconst ic_0 d_La_value_3 rfl ?_
  refine MM.istore (lv' := [(6, .int 0), (5, .int 0), (0, .ref a0), (1, .int x1), (2, .int x2), (3, .int x3), (4, .int x4)]) rfl (Nat.le_of_ble_eq_true rfl) rfl d_La_value_4 rfl ?_
  obtain ⟨v4, e6, hf⟩ := mm_bind hf
  have K5 : MM V l Y_La_value 2 0 0 Z0 151 [(0, .ref a0), (5, .int v4.1)] [] v4.2 := by
    refine MM.iload rfl d_La_value_151 rfl ?_
    refine MM.iconst ic_1 d_La_value_153 rfl ?_
    obtain ⟨m71, m72⟩ := mm_ifE hf
    refine MM.icmp_ne (tgt := 166) d_La_value_154 rfl rfl (fun c70 => ?_) (fun c70 => ?_)
    · replace hf := m72 c70
      refine MM.iconst ic_0 d_La_value_166 rfl ?_
      obtain rfl := Option.some.inj hf
      subst hZ
      exact MM.iret rfl d_La_value_167 ⟨rfl, rfl⟩
    · replace hf := m71 c70
      refine MM.aload_n (i := 0) rfl rfl d_La_value_157 rfl ?_
      refine MM.gR 2 2 t_a0 rq_2_1 rfl lays_2 ww_351 d_La_value_158 rfl ?_
      refine MM.iconst ic_0 d_La_value_161 rfl ?_
      refine MM.gI ix_0_24 (al_2_1f t_a0) d_La_value_162 rfl ?_
      refine MM.goto (tgt := 167) d_La_value_163 rfl ?_
      obtain rfl := Option.some.inj hf
      subst hZ
      exact MM.iret rfl d_La_value_167 ⟨rfl, rfl⟩
  clear hf
  refine MM.sub [2, 3, 4, 5, 6, 1, 0] (by rfl) (mm_while_ind (fun s1 => MM V l Y_La_value 2 0 0 Z0 6 [(0, .ref a0), (1, .int x1), (2, .int x2), (3, .int x3), (4, .int x4), (5, .int s1.1), (6, .int s1.2.1)] [] s1.2.2) e6 (fun s1 q2 hf hx3 => ?_))
  refine MM.iload rfl d_La_value_6 rfl ?_
  refine MM.aload_n (i := 0) rfl rfl d_La_value_8 rfl ?_
  refine MM.getI 2 t_a0 lays_2 gq_2_2 ww_352 d_La_value_9 rfl ?_
  obtain ⟨m68, m69⟩ := mm_ifE hf
  refine MM.icmp_ge (tgt := 151) d_La_value_12 rfl rfl (fun c67 => ?_) (fun c67 => ?_)
  · replace hf := m68 c67
    obtain rfl := Option.some.inj hf
    obtain rfl := Option.some.inj (mm_wxR hx3)
    exact MM.sub [0, 5] (by rfl) K5
  · replace hf := m69 c67
    refine MM.aload_n (i := 0) rfl rfl d_La_value_15 rfl ?_
    refine MM.gR 2 1 t_a0 rq_2_0 rfl lays_2 ww_350 d_La_value_16 rfl ?_
    refine MM.iload rfl d_La_value_19 rfl ?_
    obtain ⟨k7, e8, hf⟩ := mm_bind hf
    refine MM.gI e8 (al_2_0f t_a0) d_La_value_21 rfl ?_
    obtain ⟨y9, e10, hf⟩ := mm_letE hf
    refine MM.istore (lv' := [(7, .int y9), (0, .ref a0), (1, .int x1), (2, .int x2), (3, .int x3), (4, .int x4), (5, .int s1.1), (6, .int s1.2.1)]) e10 (Nat.le_of_ble_eq_true rfl) rfl d_La_value_22 rfl ?_
    refine MM.iload rfl d_La_value_24 rfl ?_
    refine MM.bipush bp_m4 d_La_value_26 rfl ?_
    obtain ⟨j11, e66, hf⟩ := mm_bind hf
    have K12 : MM V l Y_La_value 2 0 0 Z0 145 [(0, .ref a0), (1, .int x1), (2, .int x2), (3, .int x3), (4, .int x4), (5, .int j11.1), (6, .int s1.2.1)] [] j11.2 := by
      obtain ⟨y64, e65, hf⟩ := mm_letE hf
      refine MM.iinc (k0 := 6) (lv' := [(6, .int y64), (0, .ref a0), (1, .int x1), (2, .int x2), (3, .int x3), (4, .int x4), (5, .int j11.1)]) (by rw [ic_1]; exact e65) rfl (Nat.le_of_ble_eq_true rfl) rfl d_La_value_145 rfl ?_
      refine MM.goto (tgt := 6) d_La_value_148 rfl ?_
      obtain rfl := Option.some.inj hf
      have h9 := mm_wxL hx3
      exact MM.sub [1, 2, 3, 4, 5, 6, 0] (by rfl) h9
    clear hf
    have hf := e66
    clear e66
    obtain ⟨m62, m63⟩ := mm_ifE hf
    refine MM.icmp_lt (tgt := 64) d_La_value_28 rfl rfl (fun c61 => ?_) (fun c61 => ?_)
    · replace hf := m62 c61
      refine MM.iload rfl d_La_value_64 rfl ?_
      refine MM.bipush bp_m5 d_La_value_66 rfl ?_
      obtain ⟨k15, e49, hf⟩ := mm_jpE hf
      have K14 : ∀ j13, k15 j13 = some j11 → MM V l Y_La_value 2 0 0 Z0 106 [(0, .ref a0), (1, .int x1), (2, .int x2), (3, .int x3), (4, .int x4), (5, .int s1.1), (6, .int s1.2.1), (7, .int y9)] [] s1.2.2 := by
        intro j13 hf
        rw [e49] at hf
        refine MM.iload rfl d_La_value_106 rfl ?_
        refine MM.iconst ic_2 d_La_value_108 rfl ?_
        obtain ⟨m29, m30⟩ := mm_ifE hf
        refine MM.icmp_lt (tgt := 145) d_La_value_109 rfl rfl (fun c28 => ?_) (fun c28 => ?_)
        · replace hf := m29 c28
          obtain rfl := Option.some.inj hf
          exact MM.sub [0, 1, 2, 3, 4, 5, 6] (by rfl) K12
        · replace hf := m30 c28
          obtain ⟨y16, e17, hf⟩ := mm_letE hf
          refine MM.iinc (k0 := 5) (lv' := [(5, .int y16), (0, .ref a0), (1, .int x1), (2, .int x2), (3, .int x3), (4, .int x4), (6, .int s1.2.1), (7, .int y9)]) (by rw [ic_m1]; exact e17) rfl (Nat.le_of_ble_eq_true rfl) rfl d_La_value_112 rfl ?_
          refine MM.aload_n (i := 0) rfl rfl d_La_value_115 rfl ?_
          refine MM.gR 2 2 t_a0 rq_2_1 rfl lays_2 ww_351 d_La_value_116 rfl ?_
          refine MM.iload rfl d_La_value_119 rfl ?_
          refine MM.iconst ic_1 d_La_value_121 rfl ?_
          refine MM.isub d_La_value_122 rfl ?_
          refine MM.iload rfl d_La_value_123 rfl ?_
          refine MM.aload_n (i := 0) rfl rfl d_La_value_125 rfl ?_
          refine MM.gR 2 2 t_a0 rq_2_1 rfl lays_2 ww_351 d_La_value_126 rfl ?_
          refine MM.iload rfl d_La_value_129 rfl ?_
          refine MM.iconst ic_1 d_La_value_131 rfl ?_
          refine MM.isub d_La_value_132 rfl ?_
          obtain ⟨k18, e19, hf⟩ := mm_bind hf
          refine MM.gI e19 (al_2_1f t_a0) d_La_value_133 rfl ?_
          refine MM.aload_n (i := 0) rfl rfl d_La_value_134 rfl ?_
          refine MM.gR 2 2 t_a0 rq_2_1 rfl lays_2 ww_351 d_La_value_135 rfl ?_
          refine MM.iload rfl d_La_value_138 rfl ?_
          obtain ⟨k20, e21, hf⟩ := mm_bind hf
          refine MM.gI e21 (al_2_1f t_a0) d_La_value_140 rfl ?_
          obtain ⟨v23, e22, hf⟩ := mm_bind hf
          refine MM.callS1 (T_La_joined V l y9 (s1.2.2.1 (a0 + 2) k18) (s1.2.2.1 (a0 + 2) k20) s1.2.2 _ e22) (fun _ _ q => q) cal_La_joined rfl ww_921 ww_920 (by decide) (by simp [Value.category]) d_La_value_141 rfl ⟨rfl, rfl⟩ rfl ?_
          obtain ⟨k24, e25, hf⟩ := mm_bind hf
          obtain ⟨h26, e27, hf⟩ := mm_letE hf
          refine MM.sI e25 e27 (al_2_1f t_a0) d_La_value_144 rfl ?_
          obtain rfl := Option.some.inj hf
          exact MM.sub [1, 2, 3, 4, 5, 0, 6] (by rfl) K12
      clear e49
      obtain ⟨m47, m48⟩ := mm_ifE hf
      refine MM.icmp_ne (tgt := 106) d_La_value_68 rfl rfl (fun c46 => ?_) (fun c46 => ?_)
      · replace hf := m48 c46
        exact MM.sub [1, 2, 3, 4, 5, 6, 7, 0] (by rfl) (K14 _ hf)
      · replace hf := m47 c46
        refine MM.iload rfl d_La_value_71 rfl ?_
        refine MM.iconst ic_1 d_La_value_73 rfl ?_
        obtain ⟨m44, m45⟩ := mm_ifE hf
        refine MM.icmp_lt (tgt := 106) d_La_value_74 rfl rfl (fun c43 => ?_) (fun c43 => ?_)
        · replace hf := m44 c43
          exact MM.sub [1, 2, 3, 4, 5, 6, 7, 0] (by rfl) (K14 _ hf)
        · replace hf := m45 c43
          refine MM.aload_n (i := 0) rfl rfl d_La_value_77 rfl ?_
          refine MM.gR 2 2 t_a0 rq_2_1 rfl lays_2 ww_351 d_La_value_78 rfl ?_
          refine MM.iload rfl d_La_value_81 rfl ?_
          refine MM.iconst ic_1 d_La_value_83 rfl ?_
          refine MM.isub d_La_value_84 rfl ?_
          refine MM.aload_n (i := 0) rfl rfl d_La_value_85 rfl ?_
          refine MM.gR 2 2 t_a0 rq_2_1 rfl lays_2 ww_351 d_La_value_86 rfl ?_
          refine MM.iload rfl d_La_value_89 rfl ?_
          refine MM.iconst ic_1 d_La_value_91 rfl ?_
          refine MM.isub d_La_value_92 rfl ?_
          obtain ⟨k31, e32, hf⟩ := mm_bind hf
          refine MM.gI e32 (al_2_1f t_a0) d_La_value_93 rfl ?_
          obtain ⟨j33, e42, hf⟩ := mm_bind hf
          have K34 : MM V l Y_La_value 2 0 0 Z0 102 [(0, .ref a0), (1, .int x1), (2, .int x2), (3, .int x3), (4, .int x4), (5, .int s1.1), (6, .int s1.2.1)] [.int j33, .int (s1.1 - 1), .ref (a0 + 2)] s1.2.2 := by
            obtain ⟨k38, e39, hf⟩ := mm_bind hf
            obtain ⟨h40, e41, hf⟩ := mm_letE hf
            refine MM.sI e39 e41 (al_2_1f t_a0) d_La_value_102 rfl ?_
            refine MM.goto (tgt := 145) d_La_value_103 rfl ?_
            obtain rfl := Option.some.inj hf
            exact MM.sub [0, 1, 2, 3, 4, 5, 6] (by rfl) K12
          clear hf
          have hf := e42
          clear e42
          obtain ⟨m36, m37⟩ := mm_ifE hf
          refine MM.if_ne (tgt := 101) d_La_value_94 rfl rfl (fun c35 => ?_) (fun c35 => ?_)
          · replace hf := m37 c35
            refine MM.iconst ic_0 d_La_value_101 rfl ?_
            obtain rfl := Option.some.inj hf
            exact MM.sub [1, 2, 3, 4, 5, 6, 7] (by rfl) K34
          · replace hf := m36 c35
            refine MM.iconst ic_1 d_La_value_97 rfl ?_
            refine MM.goto (tgt := 102) d_La_value_98 rfl ?_
            obtain rfl := Option.some.inj hf
            exact MM.sub [1, 2, 3, 4, 5, 6, 7] (by rfl) K34
    · replace hf := m63 c61
      refine MM.iload rfl d_La_value_31 rfl ?_
      refine MM.aload_n (i := 0) rfl rfl d_La_value_33 rfl ?_
      refine MM.gR 2 2 t_a0 rq_2_1 rfl lays_2 ww_351 d_La_value_34 rfl ?_
      refine MM.alenN (al_2_1f t_a0) (by decide) on_24 d_La_value_37 rfl ?_
      obtain ⟨m59, m60⟩ := mm_ifE hf
      refine MM.icmp_ge (tgt := 145) d_La_value_38 rfl rfl (fun c58 => ?_) (fun c58 => ?_)
      · replace hf := m59 c58
        obtain rfl := Option.some.inj hf
        exact MM.sub [1, 2, 3, 4, 5, 6, 7] (by rfl) K12
      · replace hf := m60 c58
        refine MM.aload_n (i := 0) rfl rfl d_La_value_41 rfl ?_
        refine MM.gR 2 2 t_a0 rq_2_1 rfl lays_2 ww_351 d_La_value_42 rfl ?_
        refine MM.iload rfl d_La_value_45 rfl ?_
        refine MM.iload rfl d_La_value_47 rfl ?_
        refine MM.iload_n (i := 1) rfl rfl d_La_value_49 rfl ?_
        refine MM.iload_n (i := 2) rfl rfl d_La_value_50 rfl ?_
        refine MM.iload_n (i := 3) rfl rfl d_La_value_51 rfl ?_
        refine MM.iload rfl d_La_value_52 rfl ?_
        obtain ⟨v51, e50, hf⟩ := mm_bind hf
        refine MM.callS1 (T_La_operand V l y9 x1 x2 x3 x4 s1.2.2 _ e50) (fun _ _ q => q) cal_La_operand rfl ww_918 ww_917 (by decide) (by simp [Value.category]) d_La_value_54 rfl ⟨rfl, rfl⟩ rfl ?_
        obtain ⟨k52, e53, hf⟩ := mm_bind hf
        obtain ⟨h54, e55, hf⟩ := mm_letE hf
        refine MM.sI e53 e55 (al_2_1f t_a0) d_La_value_57 rfl ?_
        obtain ⟨y56, e57, hf⟩ := mm_letE hf
        refine MM.iinc (k0 := 6) (lv' := [(5, .int y56), (7, .int y9), (0, .ref a0), (1, .int x1), (2, .int x2), (3, .int x3), (4, .int x4), (6, .int s1.2.1)]) (by rw [ic_1]; exact e57) rfl (Nat.le_of_ble_eq_true rfl) rfl d_La_value_58 rfl ?_
        refine MM.goto (tgt := 145) d_La_value_61 rfl ?_
        obtain rfl := Option.some.inj hf
        exact MM.sub [2, 3, 4, 5, 6, 0, 7] (by rfl) K12
theorem d_St_lawWorth_0 : decode cX5_lawWorth 0 = .ok (.aload_n 1, 1) := by decide +kernel
theorem d_St_lawWorth_1 : decode cX5_lawWorth 1 = .ok (.getfield 72, 3) := by decide +kernel
theorem d_St_lawWorth_4 : decode cX5_lawWorth 4 = .ok (.iload_n 2, 1) := by decide +kernel
theorem d_St_lawWorth_5 : decode cX5_lawWorth 5 = .ok (.iaload, 1) := by decide +kernel
theorem d_St_lawWorth_6 : decode cX5_lawWorth 6 = .ok (.istore 4, 2) := by decide +kernel
theorem d_St_lawWorth_8 : decode cX5_lawWorth 8 = .ok (.aload_n 1, 1) := by decide +kernel
theorem d_St_lawWorth_9 : decode cX5_lawWorth 9 = .ok (.getfield 75, 3) := by decide +kernel
theorem d_St_lawWorth_12 : decode cX5_lawWorth 12 = .ok (.getfield 79, 3) := by decide +kernel
theorem d_St_lawWorth_15 : decode cX5_lawWorth 15 = .ok (.ifCond .ne 21, 3) := by decide +kernel
theorem d_St_lawWorth_18 : decode cX5_lawWorth 18 = .ok (.iload_n 3, 1) := by decide +kernel
theorem d_St_lawWorth_19 : decode cX5_lawWorth 19 = .ok (.iconst 5, 1) := by decide +kernel
theorem d_St_lawWorth_20 : decode cX5_lawWorth 20 = .ok (.if_icmp .lt 7, 3) := by decide +kernel
theorem d_St_lawWorth_23 : decode cX5_lawWorth 23 = .ok (.iconst 0, 1) := by decide +kernel
theorem d_St_lawWorth_24 : decode cX5_lawWorth 24 = .ok (.goto 11, 3) := by decide +kernel
theorem d_St_lawWorth_27 : decode cX5_lawWorth 27 = .ok (.iload 4, 2) := by decide +kernel
theorem d_St_lawWorth_29 : decode cX5_lawWorth 29 = .ok (.iload_n 3, 1) := by decide +kernel
theorem d_St_lawWorth_30 : decode cX5_lawWorth 30 = .ok (.iconst 1, 1) := by decide +kernel
theorem d_St_lawWorth_31 : decode cX5_lawWorth 31 = .ok (.invokestatic 84, 3) := by decide +kernel
theorem d_St_lawWorth_34 : decode cX5_lawWorth 34 = .ok (.idiv, 1) := by decide +kernel
theorem d_St_lawWorth_35 : decode cX5_lawWorth 35 = .ok (.ireturn, 1) := by decide +kernel
theorem d_St_lawWorth_36 : decode cX5_lawWorth 36 = .ok (.aload_n 1, 1) := by decide +kernel
theorem d_St_lawWorth_37 : decode cX5_lawWorth 37 = .ok (.getfield 75, 3) := by decide +kernel
theorem d_St_lawWorth_40 : decode cX5_lawWorth 40 = .ok (.iload 4, 2) := by decide +kernel
theorem d_St_lawWorth_42 : decode cX5_lawWorth 42 = .ok (.iload_n 3, 1) := by decide +kernel
theorem d_St_lawWorth_43 : decode cX5_lawWorth 43 = .ok (.aload_n 0, 1) := by decide +kernel
theorem d_St_lawWorth_44 : decode cX5_lawWorth 44 = .ok (.getfield 41, 3) := by decide +kernel
theorem d_St_lawWorth_47 : decode cX5_lawWorth 47 = .ok (.aload_n 0, 1) := by decide +kernel
theorem d_St_lawWorth_48 : decode cX5_lawWorth 48 = .ok (.getfield 19, 3) := by decide +kernel
theorem d_St_lawWorth_51 : decode cX5_lawWorth 51 = .ok (.aload_n 1, 1) := by decide +kernel
theorem d_St_lawWorth_52 : decode cX5_lawWorth 52 = .ok (.getfield 89, 3) := by decide +kernel
theorem d_St_lawWorth_55 : decode cX5_lawWorth 55 = .ok (.iload_n 2, 1) := by decide +kernel
theorem d_St_lawWorth_56 : decode cX5_lawWorth 56 = .ok (.iaload, 1) := by decide +kernel
theorem d_St_lawWorth_57 : decode cX5_lawWorth 57 = .ok (.iaload, 1) := by decide +kernel
theorem d_St_lawWorth_58 : decode cX5_lawWorth 58 = .ok (.invokevirtual 92, 3) := by decide +kernel
theorem d_St_lawWorth_61 : decode cX5_lawWorth 61 = .ok (.istore 5, 2) := by decide +kernel
theorem d_St_lawWorth_63 : decode cX5_lawWorth 63 = .ok (.iconst 0, 1) := by decide +kernel
theorem d_St_lawWorth_64 : decode cX5_lawWorth 64 = .ok (.iload 5, 2) := by decide +kernel
theorem d_St_lawWorth_66 : decode cX5_lawWorth 66 = .ok (.sipush 999, 3) := by decide +kernel
theorem d_St_lawWorth_69 : decode cX5_lawWorth 69 = .ok (.invokestatic 96, 3) := by decide +kernel
theorem d_St_lawWorth_72 : decode cX5_lawWorth 72 = .ok (.invokestatic 84, 3) := by decide +kernel
theorem d_St_lawWorth_75 : decode cX5_lawWorth 75 = .ok (.ireturn, 1) := by decide +kernel
noncomputable def f_St_lawWorth (a0 : Nat) (a1 : Nat) (x2 : Int32) (x3 : Int32) (h : mm_H) : Option (Int32 × mm_H) := if mm_tg a0 = 4 ∧ mm_tg a1 = 7 then ((mm_ix x2 10).bind fun k1 => mm_let (h.1 (a1 + 7) k1) fun y3 => if (h.1 (a1 + 14) 2) = 0 then (if x3 < 5 then ((f_JM_max x3 1).bind fun v16 => (mm_nzI v16).bind fun _ => some ((y3 / v16), h)) else (some (0, h))) else ((mm_ix x2 10).bind fun k5 => (mm_ix (h.1 (a1 + 6) k5) 6).bind fun k7 => (f_La_value (a1 + 14) y3 x3 (h.1 a0 9) (h.1 (a0 + 3) k7) h).bind fun v10 => (f_JM_min v10.1 999).bind fun v12 => (f_JM_max 0 v12).bind fun v14 => some (v14, v10.2))) else none
theorem T_St_lawWorth (V : mm_V) (l : Launch) (a0 : Nat) (a1 : Nat) (x2 : Int32) (x3 : Int32) (h : mm_H) (r : (Int32 × mm_H)) (hf : f_St_lawWorth a0 a1 x2 x3 h = some r) : MT V l Y_St_lawWorth 3 [.ref a0, .ref a1, .int x2, .int x3] (fun r1 h1 => r1 = some (.int r.1) ∧ h1 = r.2) h := by
  unfold f_St_lawWorth at hf
  obtain ⟨⟨t_a0, t_a1⟩, hf⟩ := mm_chkE hf
  refine MT.intro (pn_St rfl) [(0, .ref a0), (1, .ref a1), (2, .int x2), (3, .int x3)] rfl (Nat.le_of_ble_eq_true rfl) ?_
  generalize hZ : mm_Z V _ = Z0
  refine MM.aload_n (i := 1) rfl rfl d_St_lawWorth_0 rfl ?_
  refine MM.gR 7 7 t_a1 rq_7_10 rfl lays_7 ww_401 d_St_lawWorth_1 rfl ?_
  refine MM.iload_n (i := 2) rfl rfl d_St_lawWorth_4 rfl ?_
  obtain ⟨k1, e2, hf⟩ := mm_bind hf
  refine MM.gI e2 (al_7_10f t_a1) d_St_lawWorth_5 rfl ?_
  obtain ⟨y3, e4, hf⟩ := mm_letE hf
  refine MM.istore (lv' := [(4, .int y3), (0, .ref a0), (1, .ref a1), (2, .int x2), (3, .int x3)]) e4 (Nat.le_of_ble_eq_true rfl) rfl d_St_lawWorth_6 rfl ?_
  refine MM.aload_n (i := 1) rfl rfl d_St_lawWorth_8 rfl ?_
  refine MM.gR 7 14 t_a1 rq_7_19 rfl lays_7 ww_429 d_St_lawWorth_9 rfl ?_
  refine MM.getI 2 (tg_7_19f t_a1) lays_2 gq_2_2 ww_354 d_St_lawWorth_12 rfl ?_
  obtain ⟨m23, m24⟩ := mm_ifE hf
  refine MM.if_ne (tgt := 36) d_St_lawWorth_15 rfl rfl (fun c22 => ?_) (fun c22 => ?_)
  · replace hf := m24 c22
    refine MM.aload_n (i := 1) rfl rfl d_St_lawWorth_36 rfl ?_
    refine MM.gR 7 14 t_a1 rq_7_19 rfl lays_7 ww_429 d_St_lawWorth_37 rfl ?_
    refine MM.iload rfl d_St_lawWorth_40 rfl ?_
    refine MM.iload_n (i := 3) rfl rfl d_St_lawWorth_42 rfl ?_
    refine MM.aload_n (i := 0) rfl rfl d_St_lawWorth_43 rfl ?_
    refine MM.getI 4 t_a0 lays_4 gq_4_9 ww_220 d_St_lawWorth_44 rfl ?_
    refine MM.aload_n (i := 0) rfl rfl d_St_lawWorth_47 rfl ?_
    refine MM.gR 4 3 t_a0 rq_4_2 rfl lays_4 ww_204 d_St_lawWorth_48 rfl ?_
    refine MM.aload_n (i := 1) rfl rfl d_St_lawWorth_51 rfl ?_
    refine MM.gR 7 6 t_a1 rq_7_9 rfl lays_7 ww_397 d_St_lawWorth_52 rfl ?_
    refine MM.iload_n (i := 2) rfl rfl d_St_lawWorth_55 rfl ?_
    obtain ⟨k5, e6, hf⟩ := mm_bind hf
    refine MM.gI e6 (al_7_9f t_a1) d_St_lawWorth_56 rfl ?_
    obtain ⟨k7, e8, hf⟩ := mm_bind hf
    refine MM.gI e8 (al_4_2f t_a0) d_St_lawWorth_57 rfl ?_
    obtain ⟨v10, e9, hf⟩ := mm_bind hf
    refine MM.callV1 (T_La_value V l (a1 + 14) y3 x3 (h.1 a0 9) (h.1 (a0 + 3) k7) h _ e9) (fun _ _ q => q) cal_La_value rfl (tg_7_19f t_a1) ct_2 ww_915 ww_914 ww_913 (by decide) (by simp [Value.category]) d_St_lawWorth_58 rfl ⟨rfl, rfl⟩ rfl ?_
    refine MM.istore (lv' := [(5, .int v10.1), (4, .int y3), (0, .ref a0), (1, .ref a1), (2, .int x2), (3, .int x3)]) rfl (Nat.le_of_ble_eq_true rfl) rfl d_St_lawWorth_61 rfl ?_
    refine MM.iconst ic_0 d_St_lawWorth_63 rfl ?_
    refine MM.iload rfl d_St_lawWorth_64 rfl ?_
    refine MM.sipush sp_999 d_St_lawWorth_66 rfl ?_
    obtain ⟨v12, e11, hf⟩ := mm_bind hf
    refine MM.callS1 (T_JM_min V l v10.1 999 v10.2 _ e11) (fun _ _ q => q) cal_JM_min rfl ww_607 ww_923 (by decide) (by simp [Value.category]) d_St_lawWorth_69 rfl ⟨rfl, rfl⟩ rfl ?_
    obtain ⟨v14, e13, hf⟩ := mm_bind hf
    refine MM.callS1 (T_JM_max V l 0 v12 v10.2 _ e13) (fun _ _ q => q) cal_JM_max rfl ww_604 ww_912 (by decide) (by simp [Value.category]) d_St_lawWorth_72 rfl ⟨rfl, rfl⟩ rfl ?_
    obtain rfl := Option.some.inj hf
    subst hZ
    exact MM.iret rfl d_St_lawWorth_75 ⟨rfl, rfl⟩
  · replace hf := m23 c22
    refine MM.iload_n (i := 3) rfl rfl d_St_lawWorth_18 rfl ?_
    refine MM.iconst ic_5 d_St_lawWorth_19 rfl ?_
    obtain ⟨m20, m21⟩ := mm_ifE hf
    refine MM.icmp_lt (tgt := 27) d_St_lawWorth_20 rfl rfl (fun c19 => ?_) (fun c19 => ?_)
    · replace hf := m20 c19
      refine MM.iload rfl d_St_lawWorth_27 rfl ?_
      refine MM.iload_n (i := 3) rfl rfl d_St_lawWorth_29 rfl ?_
      refine MM.iconst ic_1 d_St_lawWorth_30 rfl ?_
      obtain ⟨v16, e15, hf⟩ := mm_bind hf
      refine MM.callS1 (T_JM_max V l x3 1 h _ e15) (fun _ _ q => q) cal_JM_max rfl ww_604 ww_912 (by decide) (by simp [Value.category]) d_St_lawWorth_31 rfl ⟨rfl, rfl⟩ rfl ?_
      obtain ⟨u17, e18, hf⟩ := mm_bind hf
      refine MM.idiv (mm_nzIE e18) d_St_lawWorth_34 rfl ?_
      obtain rfl := Option.some.inj hf
      subst hZ
      exact MM.iret rfl d_St_lawWorth_35 ⟨rfl, rfl⟩
    · replace hf := m21 c19
      refine MM.iconst ic_0 d_St_lawWorth_23 rfl ?_
      refine MM.goto (tgt := 35) d_St_lawWorth_24 rfl ?_
      obtain rfl := Option.some.inj hf
      subst hZ
      exact MM.iret rfl d_St_lawWorth_35 ⟨rfl, rfl⟩
theorem d_St_weigh_0 : decode cX5_weigh 0 = .ok (.iconst 0, 1) := by decide +kernel
theorem d_St_weigh_1 : decode cX5_weigh 1 = .ok (.istore_n 3, 1) := by decide +kernel
theorem d_St_weigh_2 : decode cX5_weigh 2 = .ok (.iload_n 3, 1) := by decide +kernel
theorem d_St_weigh_3 : decode cX5_weigh 3 = .ok (.aload_n 1, 1) := by decide +kernel
theorem d_St_weigh_4 : decode cX5_weigh 4 = .ok (.getfield 65, 3) := by decide +kernel
theorem d_St_weigh_7 : decode cX5_weigh 7 = .ok (.if_icmp .ge 65, 3) := by decide +kernel
theorem d_St_weigh_10 : decode cX5_weigh 10 = .ok (.aload_n 2, 1) := by decide +kernel
theorem d_St_weigh_11 : decode cX5_weigh 11 = .ok (.iload_n 3, 1) := by decide +kernel
theorem d_St_weigh_12 : decode cX5_weigh 12 = .ok (.iconst 0, 1) := by decide +kernel
theorem d_St_weigh_13 : decode cX5_weigh 13 = .ok (.iastore, 1) := by decide +kernel
theorem d_St_weigh_14 : decode cX5_weigh 14 = .ok (.aload_n 0, 1) := by decide +kernel
theorem d_St_weigh_15 : decode cX5_weigh 15 = .ok (.getfield 28, 3) := by decide +kernel
theorem d_St_weigh_18 : decode cX5_weigh 18 = .ok (.iload_n 3, 1) := by decide +kernel
theorem d_St_weigh_19 : decode cX5_weigh 19 = .ok (.invokestatic 68, 3) := by decide +kernel
theorem d_St_weigh_22 : decode cX5_weigh 22 = .ok (.ifCond .ne 44, 3) := by decide +kernel
theorem d_St_weigh_25 : decode cX5_weigh 25 = .ok (.aload_n 1, 1) := by decide +kernel
theorem d_St_weigh_26 : decode cX5_weigh 26 = .ok (.getfield 99, 3) := by decide +kernel
theorem d_St_weigh_29 : decode cX5_weigh 29 = .ok (.iload_n 3, 1) := by decide +kernel
theorem d_St_weigh_30 : decode cX5_weigh 30 = .ok (.iaload, 1) := by decide +kernel
theorem d_St_weigh_31 : decode cX5_weigh 31 = .ok (.istore 4, 2) := by decide +kernel
theorem d_St_weigh_33 : decode cX5_weigh 33 = .ok (.aload_n 2, 1) := by decide +kernel
theorem d_St_weigh_34 : decode cX5_weigh 34 = .ok (.iload_n 3, 1) := by decide +kernel
theorem d_St_weigh_35 : decode cX5_weigh 35 = .ok (.aload_n 0, 1) := by decide +kernel
theorem d_St_weigh_36 : decode cX5_weigh 36 = .ok (.aload_n 1, 1) := by decide +kernel
theorem d_St_weigh_37 : decode cX5_weigh 37 = .ok (.iload_n 3, 1) := by decide +kernel
theorem d_St_weigh_38 : decode cX5_weigh 38 = .ok (.aload_n 1, 1) := by decide +kernel
theorem d_St_weigh_39 : decode cX5_weigh 39 = .ok (.aload_n 0, 1) := by decide +kernel
theorem d_St_weigh_40 : decode cX5_weigh 40 = .ok (.getfield 9, 3) := by decide +kernel
theorem d_St_weigh_43 : decode cX5_weigh 43 = .ok (.iload_n 3, 1) := by decide +kernel
theorem d_St_weigh_44 : decode cX5_weigh 44 = .ok (.iaload, 1) := by decide +kernel
theorem d_St_weigh_45 : decode cX5_weigh 45 = .ok (.invokevirtual 102, 3) := by decide +kernel
theorem d_St_weigh_48 : decode cX5_weigh 48 = .ok (.invokevirtual 106, 3) := by decide +kernel
theorem d_St_weigh_51 : decode cX5_weigh 51 = .ok (.iload 4, 2) := by decide +kernel
theorem d_St_weigh_53 : decode cX5_weigh 53 = .ok (.ifCond .ge 7, 3) := by decide +kernel
theorem d_St_weigh_56 : decode cX5_weigh 56 = .ok (.iconst 0, 1) := by decide +kernel
theorem d_St_weigh_57 : decode cX5_weigh 57 = .ok (.goto 7, 3) := by decide +kernel
theorem d_St_weigh_60 : decode cX5_weigh 60 = .ok (.aload_n 2, 1) := by decide +kernel
theorem d_St_weigh_61 : decode cX5_weigh 61 = .ok (.iload 4, 2) := by decide +kernel
theorem d_St_weigh_63 : decode cX5_weigh 63 = .ok (.iaload, 1) := by decide +kernel
theorem d_St_weigh_64 : decode cX5_weigh 64 = .ok (.iadd, 1) := by decide +kernel
theorem d_St_weigh_65 : decode cX5_weigh 65 = .ok (.iastore, 1) := by decide +kernel
theorem d_St_weigh_66 : decode cX5_weigh 66 = .ok (.iinc 3 1, 3) := by decide +kernel
theorem d_St_weigh_69 : decode cX5_weigh 69 = .ok (.goto (-67), 3) := by decide +kernel
theorem d_St_weigh_72 : decode cX5_weigh 72 = .ok (.return_, 1) := by decide +kernel
noncomputable def f_St_weigh (a0 : Nat) (a1 : Nat) (a2 : Nat) (h : mm_H) : Option mm_H := if mm_tg a0 = 4 ∧ mm_tg a1 = 7 ∧ mm_tg a2 = 20 then ((mm_while (σ := (Int32 × mm_H)) (ρ := mm_H) (fun s1 => if (s1.2.1 a1 6) ≤ s1.1 then (some (Sum.inr s1.2)) else ((mm_ix s1.1 (mm_ln a2)).bind fun k7 => mm_let (mm_pI s1.2 a2 k7 0) fun h9 => (f_X_bit (h9.1 a0 5) s1.1).bind fun v12 => (if v12 = 0 then ((mm_ix s1.1 10).bind fun k15 => mm_let (h9.1 (a1 + 8) k15) fun y17 => (mm_ix s1.1 10).bind fun k19 => (f_To_knowers a1 (h9.1 (a0 + 1) k19) h9).bind fun v22 => (f_St_lawWorth a0 a1 s1.1 v22 h9).bind fun v24 => (if 0 ≤ y17 then ((mm_ix y17 (mm_ln a2)).bind fun k27 => some (v24.2.1 a2 k27)) else (some 0) : Option Int32).bind fun j25 => (mm_ix s1.1 (mm_ln a2)).bind fun k32 => mm_let (mm_pI v24.2 a2 k32 (v24.1 + j25)) fun h34 => some h34) else (some h9) : Option mm_H).bind fun j13 => mm_let (s1.1 + 1) fun y40 => some (Sum.inl (y40, j13)))) (0, h)).bind fun v4 => some v4) else none
theorem T_St_weigh (V : mm_V) (l : Launch) (a0 : Nat) (a1 : Nat) (a2 : Nat) (h : mm_H) (r : mm_H) (hf : f_St_weigh a0 a1 a2 h = some r) : MT V l Y_St_weigh 4 [.ref a0, .ref a1, .ref a2] (fun r1 h1 => r1 = none ∧ h1 = r) h := by
  unfold f_St_weigh at hf
  obtain ⟨⟨t_a0, t_a1, t_a2⟩, hf⟩ := mm_chkE hf
  refine MT.intro (pn_St rfl) [(0, .ref a0), (1, .ref a1), (2, .ref a2)] rfl (Nat.le_of_ble_eq_true rfl) ?_
  generalize hZ : mm_Z V _ = Z0
  refine MM.iconst ic_0 d_St_weigh_0 rfl ?_
  refine MM.istore_n (i := 3) (lv' := [(3, .int 0), (0, .ref a0), (1, .ref a1), (2, .ref a2)]) rfl rfl (Nat.le_of_ble_eq_true rfl) rfl d_St_weigh_1 rfl ?_
  obtain ⟨v4, e6, hf⟩ := mm_bind hf
  have K5 : MM V l Y_St_weigh 4 0 0 Z0 72 [] [] v4 := by
    obtain rfl := Option.some.inj hf
    subst hZ
    exact MM.vret rfl d_St_weigh_72 ⟨rfl, rfl⟩
  clear hf
  refine MM.sub [1, 2, 3, 0] (by rfl) (mm_while_ind (fun s1 => MM V l Y_St_weigh 4 0 0 Z0 2 [(0, .ref a0), (1, .ref a1), (2, .ref a2), (3, .int s1.1)] [] s1.2) e6 (fun s1 q2 hf hx3 => ?_))
  refine MM.iload_n (i := 3) rfl rfl d_St_weigh_2 rfl ?_
  refine MM.aload_n (i := 1) rfl rfl d_St_weigh_3 rfl ?_
  refine MM.getI 7 t_a1 lays_7 gq_7_6 ww_387 d_St_weigh_4 rfl ?_
  obtain ⟨m44, m45⟩ := mm_ifE hf
  refine MM.icmp_ge (tgt := 72) d_St_weigh_7 rfl rfl (fun c43 => ?_) (fun c43 => ?_)
  · replace hf := m44 c43
    obtain rfl := Option.some.inj hf
    obtain rfl := Option.some.inj (mm_wxR hx3)
    exact MM.sub [] (by rfl) K5
  · replace hf := m45 c43
    refine MM.aload_n (i := 2) rfl rfl d_St_weigh_10 rfl ?_
    refine MM.iload_n (i := 3) rfl rfl d_St_weigh_11 rfl ?_
    refine MM.iconst ic_0 d_St_weigh_12 rfl ?_
    obtain ⟨k7, e8, hf⟩ := mm_bind hf
    obtain ⟨h9, e10, hf⟩ := mm_letE hf
    refine MM.sI e8 e10 ⟨t_a2, rfl⟩ d_St_weigh_13 rfl ?_
    refine MM.aload_n (i := 0) rfl rfl d_St_weigh_14 rfl ?_
    refine MM.getI 4 t_a0 lays_4 gq_4_5 ww_211 d_St_weigh_15 rfl ?_
    refine MM.iload_n (i := 3) rfl rfl d_St_weigh_18 rfl ?_
    obtain ⟨v12, e11, hf⟩ := mm_bind hf
    refine MM.callSN1 (T_X_bit V l (h9.1 a0 5) s1.1 h9 _ e11) (fun _ _ q => q) cal_X_bit rfl ww_763 ww_906n (by decide) (by simp [Value.category]) d_St_weigh_19 rfl ⟨rfl, rfl⟩ rfl ?_
    obtain ⟨j13, e42, hf⟩ := mm_bind hf
    have K14 : MM V l Y_St_weigh 4 0 0 Z0 66 [(0, .ref a0), (1, .ref a1), (2, .ref a2), (3, .int s1.1)] [] j13 := by
      obtain ⟨y40, e41, hf⟩ := mm_letE hf
      refine MM.iinc (k0 := 3) (lv' := [(3, .int y40), (0, .ref a0), (1, .ref a1), (2, .ref a2)]) (by rw [ic_1]; exact e41) rfl (Nat.le_of_ble_eq_true rfl) rfl d_St_weigh_66 rfl ?_
      refine MM.goto (tgt := 2) d_St_weigh_69 rfl ?_
      obtain rfl := Option.some.inj hf
      have h9 := mm_wxL hx3
      exact MM.sub [1, 2, 3, 0] (by rfl) h9
    clear hf
    have hf := e42
    clear e42
    obtain ⟨m38, m39⟩ := mm_ifE hf
    refine MM.if_ne (tgt := 66) d_St_weigh_22 rfl rfl (fun c37 => ?_) (fun c37 => ?_)
    · replace hf := m39 c37
      obtain rfl := Option.some.inj hf
      exact MM.sub [0, 1, 2, 3] (by rfl) K14
    · replace hf := m38 c37
      refine MM.aload_n (i := 1) rfl rfl d_St_weigh_25 rfl ?_
      refine MM.gR 7 8 t_a1 rq_7_11 rfl lays_7 ww_406 d_St_weigh_26 rfl ?_
      refine MM.iload_n (i := 3) rfl rfl d_St_weigh_29 rfl ?_
      obtain ⟨k15, e16, hf⟩ := mm_bind hf
      refine MM.gI e16 (al_7_11f t_a1) d_St_weigh_30 rfl ?_
      obtain ⟨y17, e18, hf⟩ := mm_letE hf
      refine MM.istore (lv' := [(4, .int y17), (0, .ref a0), (1, .ref a1), (2, .ref a2), (3, .int s1.1)]) e18 (Nat.le_of_ble_eq_true rfl) rfl d_St_weigh_31 rfl ?_
      refine MM.aload_n (i := 2) rfl rfl d_St_weigh_33 rfl ?_
      refine MM.iload_n (i := 3) rfl rfl d_St_weigh_34 rfl ?_
      refine MM.aload_n (i := 0) rfl rfl d_St_weigh_35 rfl ?_
      refine MM.aload_n (i := 1) rfl rfl d_St_weigh_36 rfl ?_
      refine MM.iload_n (i := 3) rfl rfl d_St_weigh_37 rfl ?_
      refine MM.aload_n (i := 1) rfl rfl d_St_weigh_38 rfl ?_
      refine MM.aload_n (i := 0) rfl rfl d_St_weigh_39 rfl ?_
      refine MM.gR 4 1 t_a0 rq_4_0 rfl lays_4 ww_201 d_St_weigh_40 rfl ?_
      refine MM.iload_n (i := 3) rfl rfl d_St_weigh_43 rfl ?_
      obtain ⟨k19, e20, hf⟩ := mm_bind hf
      refine MM.gI e20 (al_4_0f t_a0) d_St_weigh_44 rfl ?_
      obtain ⟨v22, e21, hf⟩ := mm_bind hf
      refine MM.callV1 (T_To_knowers V l a1 (h9.1 (a0 + 1) k19) h9 _ e21) (fun _ _ q => q) cal_To_knowers rfl t_a1 ct_7 ww_890 ww_889 ww_907 (by decide) (by simp [Value.category]) d_St_weigh_45 rfl ⟨rfl, rfl⟩ rfl ?_
      obtain ⟨v24, e23, hf⟩ := mm_bind hf
      refine MM.callV1 (T_St_lawWorth V l a0 a1 s1.1 v22 h9 _ e23) (fun _ _ q => q) cal_St_lawWorth rfl t_a0 ct_4 ww_910 ww_909 ww_908 (by decide) (by simp [Value.category]) d_St_weigh_48 rfl ⟨rfl, rfl⟩ rfl ?_
      refine MM.iload rfl d_St_weigh_51 rfl ?_
      obtain ⟨j25, e36, hf⟩ := mm_bind hf
      have K26 : MM V l Y_St_weigh 4 0 0 Z0 64 [(0, .ref a0), (1, .ref a1), (2, .ref a2), (3, .int s1.1)] [.int j25, .int v24.1, .int s1.1, .ref a2] v24.2 := by
        refine MM.iadd d_St_weigh_64 rfl ?_
        obtain ⟨k32, e33, hf⟩ := mm_bind hf
        obtain ⟨h34, e35, hf⟩ := mm_letE hf
        refine MM.sI e33 e35 ⟨t_a2, rfl⟩ d_St_weigh_65 rfl ?_
        obtain rfl := Option.some.inj hf
        exact MM.sub [0, 1, 2, 3] (by rfl) K14
      clear hf
      have hf := e36
      clear e36
      obtain ⟨m30, m31⟩ := mm_ifE hf
      refine MM.if_ge (tgt := 60) d_St_weigh_53 rfl rfl (fun c29 => ?_) (fun c29 => ?_)
      · replace hf := m30 c29
        refine MM.aload_n (i := 2) rfl rfl d_St_weigh_60 rfl ?_
        refine MM.iload rfl d_St_weigh_61 rfl ?_
        obtain ⟨k27, e28, hf⟩ := mm_bind hf
        refine MM.gI e28 ⟨t_a2, rfl⟩ d_St_weigh_63 rfl ?_
        obtain rfl := Option.some.inj hf
        exact MM.sub [1, 2, 3, 4] (by rfl) K26
      · replace hf := m31 c29
        refine MM.iconst ic_0 d_St_weigh_56 rfl ?_
        refine MM.goto (tgt := 64) d_St_weigh_57 rfl ?_
        obtain rfl := Option.some.inj hf
        exact MM.sub [1, 2, 3, 4] (by rfl) K26
theorem d_X_weighed_0 : decode cX11_weighed 0 = .ok (.aload_n 1, 1) := by decide +kernel
theorem d_X_weighed_1 : decode cX11_weighed 1 = .ok (.aload_n 0, 1) := by decide +kernel
theorem d_X_weighed_2 : decode cX11_weighed 2 = .ok (.getfield 81, 3) := by decide +kernel
theorem d_X_weighed_5 : decode cX11_weighed 5 = .ok (.aload_n 0, 1) := by decide +kernel
theorem d_X_weighed_6 : decode cX11_weighed 6 = .ok (.getfield 68, 3) := by decide +kernel
theorem d_X_weighed_9 : decode cX11_weighed 9 = .ok (.invokevirtual 344, 3) := by decide +kernel
theorem d_X_weighed_12 : decode cX11_weighed 12 = .ok (.aload_n 0, 1) := by decide +kernel
theorem d_X_weighed_13 : decode cX11_weighed 13 = .ok (.getfield 68, 3) := by decide +kernel
theorem d_X_weighed_16 : decode cX11_weighed 16 = .ok (.areturn, 1) := by decide +kernel
noncomputable def f_X_weighed (a1 : Nat) (h : mm_H) : Option mm_H := if mm_tg a1 = 4 then ((mm_gT h 14).bind fun t1 => (f_St_weigh a1 t1 76 h).bind fun v4 => some v4) else none
theorem T_X_weighed (V : mm_V) (l : Launch) (a1 : Nat) (h : mm_H) (r : mm_H) (hf : f_X_weighed a1 h = some r) : MT V l Y_X_weighed 5 [.ref 32, .ref a1] (fun r1 h1 => r1 = some (.ref 76) ∧ h1 = r) h := by
  unfold f_X_weighed at hf
  obtain ⟨t_a1, hf⟩ := mm_chkE hf
  refine MT.intro (pn_X rfl) [(0, .ref 32), (1, .ref a1)] rfl (Nat.le_of_ble_eq_true rfl) ?_
  generalize hZ : mm_Z V _ = Z0
  refine MM.aload_n (i := 1) rfl rfl d_X_weighed_0 rfl ?_
  refine MM.aload_n (i := 0) rfl rfl d_X_weighed_1 rfl ?_
  obtain ⟨t1, e2, hf⟩ := mm_bind hf
  obtain ⟨e2, t_t1⟩ := mm_gTE e2
  refine MM.gT e2 tg_32 tq_14 lays_8 ww_486 d_X_weighed_2 rfl ?_
  refine MM.aload_n (i := 0) rfl rfl d_X_weighed_5 rfl ?_
  refine MM.gR 8 44 tg_32 rq_8_11 rfl lays_8 ww_483 d_X_weighed_6 rfl ?_
  obtain ⟨v4, e3, hf⟩ := mm_bind hf
  refine MM.callV0 (T_St_weigh V l a1 t1 76 h _ e3) (fun _ _ q => q) cal_St_weigh rfl t_a1 ct_4 ww_904 ww_903 ww_902 (by decide) (by simp [Value.category]) d_X_weighed_9 rfl ⟨rfl, rfl⟩ rfl ?_
  refine MM.aload_n (i := 0) rfl rfl d_X_weighed_12 rfl ?_
  refine MM.gR 8 44 tg_32 rq_8_11 rfl lays_8 ww_483 d_X_weighed_13 rfl ?_
  obtain rfl := Option.some.inj hf
  subst hZ
  exact MM.aret (Or.inr ⟨_, rfl⟩) rfl d_X_weighed_16 ⟨rfl, rfl⟩
theorem d_X_together_0 : decode cX11_together 0 = .ok (.iconst 0, 1) := by decide +kernel
theorem d_X_together_1 : decode cX11_together 1 = .ok (.istore_n 2, 1) := by decide +kernel
theorem d_X_together_2 : decode cX11_together 2 = .ok (.iconst 0, 1) := by decide +kernel
theorem d_X_together_3 : decode cX11_together 3 = .ok (.istore_n 3, 1) := by decide +kernel
theorem d_X_together_4 : decode cX11_together 4 = .ok (.iload_n 3, 1) := by decide +kernel
theorem d_X_together_5 : decode cX11_together 5 = .ok (.bipush 10, 2) := by decide +kernel
theorem d_X_together_7 : decode cX11_together 7 = .ok (.if_icmp .ge 21, 3) := by decide +kernel
theorem d_X_together_10 : decode cX11_together 10 = .ok (.iload_n 2, 1) := by decide +kernel
theorem d_X_together_11 : decode cX11_together 11 = .ok (.iload_n 1, 1) := by decide +kernel
theorem d_X_together_12 : decode cX11_together 12 = .ok (.iload_n 3, 1) := by decide +kernel
theorem d_X_together_13 : decode cX11_together 13 = .ok (.invokestatic 164, 3) := by decide +kernel
theorem d_X_together_16 : decode cX11_together 16 = .ok (.aload_n 0, 1) := by decide +kernel
theorem d_X_together_17 : decode cX11_together 17 = .ok (.iload_n 3, 1) := by decide +kernel
theorem d_X_together_18 : decode cX11_together 18 = .ok (.iaload, 1) := by decide +kernel
theorem d_X_together_19 : decode cX11_together 19 = .ok (.imul, 1) := by decide +kernel
theorem d_X_together_20 : decode cX11_together 20 = .ok (.iadd, 1) := by decide +kernel
theorem d_X_together_21 : decode cX11_together 21 = .ok (.istore_n 2, 1) := by decide +kernel
theorem d_X_together_22 : decode cX11_together 22 = .ok (.iinc 3 1, 3) := by decide +kernel
theorem d_X_together_25 : decode cX11_together 25 = .ok (.goto (-21), 3) := by decide +kernel
theorem d_X_together_28 : decode cX11_together 28 = .ok (.iload_n 2, 1) := by decide +kernel
theorem d_X_together_29 : decode cX11_together 29 = .ok (.ireturn, 1) := by decide +kernel
noncomputable def f_X_together (a0 : Nat) (x1 : Int32) (h : mm_H) : Option Int32 := if mm_tg a0 = 20 then ((mm_while (σ := (Int32 × Int32)) (ρ := Int32) (fun s1 => if 10 ≤ s1.2 then (some (Sum.inr s1.1)) else ((f_X_bit x1 s1.2).bind fun v8 => (mm_ix s1.2 (mm_ln a0)).bind fun k9 => mm_let (s1.1 + (v8 * (h.1 a0 k9))) fun y11 => mm_let (s1.2 + 1) fun y13 => some (Sum.inl (y11, y13)))) (0, 0)).bind fun v4 => some v4) else none
theorem T_X_together (V : mm_V) (l : Launch) (a0 : Nat) (x1 : Int32) (h : mm_H) (r : Int32) (hf : f_X_together a0 x1 h = some r) : MT V l Y_X_together 2 [.ref a0, .int x1] (fun r1 h1 => r1 = some (.int r) ∧ h1 = h) h := by
  unfold f_X_together at hf
  obtain ⟨t_a0, hf⟩ := mm_chkE hf
  refine MT.intro (pn_X rfl) [(0, .ref a0), (1, .int x1)] rfl (Nat.le_of_ble_eq_true rfl) ?_
  generalize hZ : mm_Z V _ = Z0
  refine MM.iconst ic_0 d_X_together_0 rfl ?_
  refine MM.istore_n (i := 2) (lv' := [(2, .int 0), (0, .ref a0), (1, .int x1)]) rfl rfl (Nat.le_of_ble_eq_true rfl) rfl d_X_together_1 rfl ?_
  refine MM.iconst ic_0 d_X_together_2 rfl ?_
  refine MM.istore_n (i := 3) (lv' := [(3, .int 0), (2, .int 0), (0, .ref a0), (1, .int x1)]) rfl rfl (Nat.le_of_ble_eq_true rfl) rfl d_X_together_3 rfl ?_
  obtain ⟨v4, e6, hf⟩ := mm_bind hf
  have K5 : MM V l Y_X_together 2 0 0 Z0 28 [(2, .int v4)] [] h := by
    refine MM.iload_n (i := 2) rfl rfl d_X_together_28 rfl ?_
    obtain rfl := Option.some.inj hf
    subst hZ
    exact MM.iret rfl d_X_together_29 ⟨rfl, rfl⟩
  clear hf
  refine MM.sub [2, 3, 1, 0] (by rfl) (mm_while_ind (fun s1 => MM V l Y_X_together 2 0 0 Z0 4 [(0, .ref a0), (1, .int x1), (2, .int s1.1), (3, .int s1.2)] [] h) e6 (fun s1 q2 hf hx3 => ?_))
  refine MM.iload_n (i := 3) rfl rfl d_X_together_4 rfl ?_
  refine MM.bipush bp_10 d_X_together_5 rfl ?_
  obtain ⟨m16, m17⟩ := mm_ifE hf
  refine MM.icmp_ge (tgt := 28) d_X_together_7 rfl rfl (fun c15 => ?_) (fun c15 => ?_)
  · replace hf := m16 c15
    obtain rfl := Option.some.inj hf
    obtain rfl := Option.some.inj (mm_wxR hx3)
    exact MM.sub [2] (by rfl) K5
  · replace hf := m17 c15
    refine MM.iload_n (i := 2) rfl rfl d_X_together_10 rfl ?_
    refine MM.iload_n (i := 1) rfl rfl d_X_together_11 rfl ?_
    refine MM.iload_n (i := 3) rfl rfl d_X_together_12 rfl ?_
    obtain ⟨v8, e7, hf⟩ := mm_bind hf
    refine MM.callS1 (T_X_bit V l x1 s1.2 h _ e7) (fun _ _ q => q) cal_X_bit rfl ww_763 ww_887 (by decide) (by simp [Value.category]) d_X_together_13 rfl ⟨rfl, rfl⟩ rfl ?_
    refine MM.aload_n (i := 0) rfl rfl d_X_together_16 rfl ?_
    refine MM.iload_n (i := 3) rfl rfl d_X_together_17 rfl ?_
    obtain ⟨k9, e10, hf⟩ := mm_bind hf
    refine MM.gI e10 ⟨t_a0, rfl⟩ d_X_together_18 rfl ?_
    refine MM.imul d_X_together_19 rfl ?_
    refine MM.iadd d_X_together_20 rfl ?_
    obtain ⟨y11, e12, hf⟩ := mm_letE hf
    refine MM.istore_n (i := 2) (lv' := [(2, .int y11), (0, .ref a0), (1, .int x1), (3, .int s1.2)]) e12 rfl (Nat.le_of_ble_eq_true rfl) rfl d_X_together_21 rfl ?_
    obtain ⟨y13, e14, hf⟩ := mm_letE hf
    refine MM.iinc (k0 := 3) (lv' := [(3, .int y13), (2, .int y11), (0, .ref a0), (1, .int x1)]) (by rw [ic_1]; exact e14) rfl (Nat.le_of_ble_eq_true rfl) rfl d_X_together_22 rfl ?_
    refine MM.goto (tgt := 4) d_X_together_25 rfl ?_
    obtain rfl := Option.some.inj hf
    have h9 := mm_wxL hx3
    exact MM.sub [2, 3, 1, 0] (by rfl) h9
theorem d_X_person_0 : decode cX11_person 0 = .ok (.aload_n 0, 1) := by decide +kernel
theorem d_X_person_1 : decode cX11_person 1 = .ok (.getfield 81, 3) := by decide +kernel
theorem d_X_person_4 : decode cX11_person 4 = .ok (.iload_n 1, 1) := by decide +kernel
theorem d_X_person_5 : decode cX11_person 5 = .ok (.invokevirtual 133, 3) := by decide +kernel
theorem d_X_person_8 : decode cX11_person 8 = .ok (.ifCond .ne 11, 3) := by decide +kernel
theorem d_X_person_19 : decode cX11_person 19 = .ok (.iload_n 2, 1) := by decide +kernel
theorem d_X_person_20 : decode cX11_person 20 = .ok (.tableswitch 147 0 7 #[48, 58, 68, 78, 91, 115, 127, 137], 48) := by decide +kernel
theorem d_X_person_68 : decode cX11_person 68 = .ok (.aload_n 0, 1) := by decide +kernel
theorem d_X_person_69 : decode cX11_person 69 = .ok (.getfield 81, 3) := by decide +kernel
theorem d_X_person_72 : decode cX11_person 72 = .ok (.getfield 140, 3) := by decide +kernel
theorem d_X_person_75 : decode cX11_person 75 = .ok (.iload_n 1, 1) := by decide +kernel
theorem d_X_person_76 : decode cX11_person 76 = .ok (.iaload, 1) := by decide +kernel
theorem d_X_person_77 : decode cX11_person 77 = .ok (.ireturn, 1) := by decide +kernel
theorem d_X_person_78 : decode cX11_person 78 = .ok (.aload_n 0, 1) := by decide +kernel
theorem d_X_person_79 : decode cX11_person 79 = .ok (.getfield 19, 3) := by decide +kernel
theorem d_X_person_82 : decode cX11_person 82 = .ok (.getfield 143, 3) := by decide +kernel
theorem d_X_person_85 : decode cX11_person 85 = .ok (.iload_n 1, 1) := by decide +kernel
theorem d_X_person_86 : decode cX11_person 86 = .ok (.iaload, 1) := by decide +kernel
theorem d_X_person_87 : decode cX11_person 87 = .ok (.ireturn, 1) := by decide +kernel
theorem d_X_person_88 : decode cX11_person 88 = .ok (.aload_n 0, 1) := by decide +kernel
theorem d_X_person_89 : decode cX11_person 89 = .ok (.getfield 81, 3) := by decide +kernel
theorem d_X_person_92 : decode cX11_person 92 = .ok (.getfield 146, 3) := by decide +kernel
theorem d_X_person_95 : decode cX11_person 95 = .ok (.iload_n 1, 1) := by decide +kernel
theorem d_X_person_96 : decode cX11_person 96 = .ok (.iaload, 1) := by decide +kernel
theorem d_X_person_97 : decode cX11_person 97 = .ok (.ireturn, 1) := by decide +kernel
theorem d_X_person_98 : decode cX11_person 98 = .ok (.aload_n 0, 1) := by decide +kernel
theorem d_X_person_99 : decode cX11_person 99 = .ok (.getfield 19, 3) := by decide +kernel
theorem d_X_person_102 : decode cX11_person 102 = .ok (.aload_n 0, 1) := by decide +kernel
theorem d_X_person_103 : decode cX11_person 103 = .ok (.getfield 81, 3) := by decide +kernel
theorem d_X_person_106 : decode cX11_person 106 = .ok (.iload_n 1, 1) := by decide +kernel
theorem d_X_person_107 : decode cX11_person 107 = .ok (.invokevirtual 149, 3) := by decide +kernel
theorem d_X_person_110 : decode cX11_person 110 = .ok (.ireturn, 1) := by decide +kernel
theorem d_X_person_111 : decode cX11_person 111 = .ok (.aload_n 0, 1) := by decide +kernel
theorem d_X_person_112 : decode cX11_person 112 = .ok (.aload_n 0, 1) := by decide +kernel
theorem d_X_person_113 : decode cX11_person 113 = .ok (.getfield 19, 3) := by decide +kernel
theorem d_X_person_116 : decode cX11_person 116 = .ok (.invokevirtual 153, 3) := by decide +kernel
theorem d_X_person_119 : decode cX11_person 119 = .ok (.aload_n 0, 1) := by decide +kernel
theorem d_X_person_120 : decode cX11_person 120 = .ok (.getfield 19, 3) := by decide +kernel
theorem d_X_person_123 : decode cX11_person 123 = .ok (.aload_n 0, 1) := by decide +kernel
theorem d_X_person_124 : decode cX11_person 124 = .ok (.getfield 81, 3) := by decide +kernel
theorem d_X_person_127 : decode cX11_person 127 = .ok (.iload_n 1, 1) := by decide +kernel
theorem d_X_person_128 : decode cX11_person 128 = .ok (.invokevirtual 149, 3) := by decide +kernel
theorem d_X_person_131 : decode cX11_person 131 = .ok (.invokestatic 157, 3) := by decide +kernel
theorem d_X_person_134 : decode cX11_person 134 = .ok (.ireturn, 1) := by decide +kernel
theorem d_X_person_135 : decode cX11_person 135 = .ok (.aload_n 0, 1) := by decide +kernel
theorem d_X_person_136 : decode cX11_person 136 = .ok (.getfield 19, 3) := by decide +kernel
theorem d_X_person_139 : decode cX11_person 139 = .ok (.getfield 161, 3) := by decide +kernel
theorem d_X_person_142 : decode cX11_person 142 = .ok (.iload_n 1, 1) := by decide +kernel
theorem d_X_person_143 : decode cX11_person 143 = .ok (.invokestatic 164, 3) := by decide +kernel
theorem d_X_person_146 : decode cX11_person 146 = .ok (.ireturn, 1) := by decide +kernel
theorem d_X_person_147 : decode cX11_person 147 = .ok (.aload_n 0, 1) := by decide +kernel
theorem d_X_person_148 : decode cX11_person 148 = .ok (.getfield 19, 3) := by decide +kernel
theorem d_X_person_151 : decode cX11_person 151 = .ok (.getfield 168, 3) := by decide +kernel
theorem d_X_person_154 : decode cX11_person 154 = .ok (.iload_n 1, 1) := by decide +kernel
theorem d_X_person_155 : decode cX11_person 155 = .ok (.iaload, 1) := by decide +kernel
theorem d_X_person_156 : decode cX11_person 156 = .ok (.ireturn, 1) := by decide +kernel
theorem d_X_person_157 : decode cX11_person 157 = .ok (.aload_n 0, 1) := by decide +kernel
theorem d_X_person_158 : decode cX11_person 158 = .ok (.getfield 19, 3) := by decide +kernel
theorem d_X_person_161 : decode cX11_person 161 = .ok (.getfield 171, 3) := by decide +kernel
theorem d_X_person_164 : decode cX11_person 164 = .ok (.iload_n 1, 1) := by decide +kernel
theorem d_X_person_165 : decode cX11_person 165 = .ok (.iaload, 1) := by decide +kernel
theorem d_X_person_166 : decode cX11_person 166 = .ok (.ireturn, 1) := by decide +kernel
noncomputable def f_X_person (x1 : Int32) (x2 : Int32) (h : mm_H) : Option (Int32 × mm_H) := (mm_gT h 14).bind fun t1 => (f_To_hasPerson t1 x1 h).bind fun v4 => if v4 = 0 then (none) else (if x2 = 0 then ((mm_gT h 14).bind fun t5 => (mm_ix x1 6).bind fun k7 => some ((h.1 (t5 + 2) k7), h)) else if x2 = 1 then ((mm_ix x1 6).bind fun k12 => some ((h.1 38 k12), h)) else if x2 = 2 then ((mm_gT h 14).bind fun t17 => (mm_ix x1 6).bind fun k19 => some ((h.1 (t17 + 4) k19), h)) else if x2 = 3 then ((mm_gT h 14).bind fun t24 => (f_St_known 35 t24 x1 h).bind fun v27 => some (v27, h)) else if x2 = 4 then ((f_X_weighed 35 h).bind fun v32 => (mm_gT v32 14).bind fun t33 => (f_St_known 35 t33 x1 v32).bind fun v36 => (f_X_together 76 v36 v32).bind fun v38 => some (v38, v32)) else if x2 = 5 then ((f_X_bit (h.1 35 7) x1).bind fun v43 => some (v43, h)) else if x2 = 6 then ((mm_ix x1 6).bind fun k47 => some ((h.1 39 k47), h)) else if x2 = 7 then ((mm_ix x1 6).bind fun k52 => some ((h.1 40 k52), h)) else (none))
theorem T_X_person (V : mm_V) (l : Launch) (x1 : Int32) (x2 : Int32) (h : mm_H) (r : (Int32 × mm_H)) (hf : f_X_person x1 x2 h = some r) : MT V l Y_X_person 6 [.ref 32, .int x1, .int x2] (fun r1 h1 => r1 = some (.int r.1) ∧ h1 = r.2) h := by
  unfold f_X_person at hf
  refine MT.intro (pn_X rfl) [(0, .ref 32), (1, .int x1), (2, .int x2)] rfl (Nat.le_of_ble_eq_true rfl) ?_
  generalize hZ : mm_Z V _ = Z0
  refine MM.aload_n (i := 0) rfl rfl d_X_person_0 rfl ?_
  obtain ⟨t1, e2, hf⟩ := mm_bind hf
  obtain ⟨e2, t_t1⟩ := mm_gTE e2
  refine MM.gT e2 tg_32 tq_14 lays_8 ww_486 d_X_person_1 rfl ?_
  refine MM.iload_n (i := 1) rfl rfl d_X_person_4 rfl ?_
  obtain ⟨v4, e3, hf⟩ := mm_bind hf
  refine MM.callV1 (T_To_hasPerson V l t1 x1 h _ e3) (fun _ _ q => q) cal_To_hasPerson rfl t_t1 ct_7 ww_934 ww_933 ww_980 (by decide) (by simp [Value.category]) d_X_person_5 rfl ⟨rfl, rfl⟩ rfl ?_
  obtain ⟨m58, m59⟩ := mm_ifE hf
  refine MM.if_ne (tgt := 19) d_X_person_8 rfl rfl (fun c57 => ?_) (fun c57 => ?_)
  · replace hf := m59 c57
    refine MM.iload_n (i := 2) rfl rfl d_X_person_19 rfl ?_
    obtain ⟨m9, m10⟩ := mm_ifE hf
    by_cases c11 : x2 = 0
    · replace hf := m9 c11
      refine MM.tableIn (tgt := 68) 0 (by rw [c11]; decide +kernel) (by decide) d_X_person_20 rfl rfl ?_
      refine MM.aload_n (i := 0) rfl rfl d_X_person_68 rfl ?_
      obtain ⟨t5, e6, hf⟩ := mm_bind hf
      obtain ⟨e6, t_t5⟩ := mm_gTE e6
      refine MM.gT e6 tg_32 tq_14 lays_8 ww_486 d_X_person_69 rfl ?_
      refine MM.gR 7 2 t_t5 rq_7_2 rfl lays_7 ww_373 d_X_person_72 rfl ?_
      refine MM.iload_n (i := 1) rfl rfl d_X_person_75 rfl ?_
      obtain ⟨k7, e8, hf⟩ := mm_bind hf
      refine MM.gI e8 (al_7_2f t_t5) d_X_person_76 rfl ?_
      obtain rfl := Option.some.inj hf
      subst hZ
      exact MM.iret rfl d_X_person_77 ⟨rfl, rfl⟩
    replace hf := m10 c11
    obtain ⟨m14, m15⟩ := mm_ifE hf
    by_cases c16 : x2 = 1
    · replace hf := m14 c16
      refine MM.tableIn (tgt := 78) 1 (by rw [c16]; decide +kernel) (by decide) d_X_person_20 rfl rfl ?_
      refine MM.aload_n (i := 0) rfl rfl d_X_person_78 rfl ?_
      refine MM.gR 8 3 tg_32 rq_8_1 rfl lays_8 ww_473 d_X_person_79 rfl ?_
      refine MM.gR 4 3 tg_35 rq_4_2 rfl lays_4 ww_205 d_X_person_82 rfl ?_
      refine MM.iload_n (i := 1) rfl rfl d_X_person_85 rfl ?_
      obtain ⟨k12, e13, hf⟩ := mm_bind hf
      refine MM.gI e13 al_38 d_X_person_86 rfl ?_
      obtain rfl := Option.some.inj hf
      subst hZ
      exact MM.iret rfl d_X_person_87 ⟨rfl, rfl⟩
    replace hf := m15 c16
    obtain ⟨m21, m22⟩ := mm_ifE hf
    by_cases c23 : x2 = 2
    · replace hf := m21 c23
      refine MM.tableIn (tgt := 88) 2 (by rw [c23]; decide +kernel) (by decide) d_X_person_20 rfl rfl ?_
      refine MM.aload_n (i := 0) rfl rfl d_X_person_88 rfl ?_
      obtain ⟨t17, e18, hf⟩ := mm_bind hf
      obtain ⟨e18, t_t17⟩ := mm_gTE e18
      refine MM.gT e18 tg_32 tq_14 lays_8 ww_486 d_X_person_89 rfl ?_
      refine MM.gR 7 4 t_t17 rq_7_4 rfl lays_7 ww_380 d_X_person_92 rfl ?_
      refine MM.iload_n (i := 1) rfl rfl d_X_person_95 rfl ?_
      obtain ⟨k19, e20, hf⟩ := mm_bind hf
      refine MM.gI e20 (al_7_4f t_t17) d_X_person_96 rfl ?_
      obtain rfl := Option.some.inj hf
      subst hZ
      exact MM.iret rfl d_X_person_97 ⟨rfl, rfl⟩
    replace hf := m22 c23
    obtain ⟨m28, m29⟩ := mm_ifE hf
    by_cases c30 : x2 = 3
    · replace hf := m28 c30
      refine MM.tableIn (tgt := 98) 3 (by rw [c30]; decide +kernel) (by decide) d_X_person_20 rfl rfl ?_
      refine MM.aload_n (i := 0) rfl rfl d_X_person_98 rfl ?_
      refine MM.gR 8 3 tg_32 rq_8_1 rfl lays_8 ww_473 d_X_person_99 rfl ?_
      refine MM.aload_n (i := 0) rfl rfl d_X_person_102 rfl ?_
      obtain ⟨t24, e25, hf⟩ := mm_bind hf
      obtain ⟨e25, t_t24⟩ := mm_gTE e25
      refine MM.gT e25 tg_32 tq_14 lays_8 ww_486 d_X_person_103 rfl ?_
      refine MM.iload_n (i := 1) rfl rfl d_X_person_106 rfl ?_
      obtain ⟨v27, e26, hf⟩ := mm_bind hf
      refine MM.callV1 (T_St_known V l 35 t24 x1 h _ e26) (fun _ _ q => q) cal_St_known rfl tg_35 ct_4 ww_991 ww_990 ww_1314 (by decide) (by simp [Value.category]) d_X_person_107 rfl ⟨rfl, rfl⟩ rfl ?_
      obtain rfl := Option.some.inj hf
      subst hZ
      exact MM.iret rfl d_X_person_110 ⟨rfl, rfl⟩
    replace hf := m29 c30
    obtain ⟨m39, m40⟩ := mm_ifE hf
    by_cases c41 : x2 = 4
    · replace hf := m39 c41
      refine MM.tableIn (tgt := 111) 4 (by rw [c41]; decide +kernel) (by decide) d_X_person_20 rfl rfl ?_
      refine MM.aload_n (i := 0) rfl rfl d_X_person_111 rfl ?_
      refine MM.aload_n (i := 0) rfl rfl d_X_person_112 rfl ?_
      refine MM.gR 8 3 tg_32 rq_8_1 rfl lays_8 ww_473 d_X_person_113 rfl ?_
      obtain ⟨v32, e31, hf⟩ := mm_bind hf
      refine MM.callV1 (T_X_weighed V l 35 h _ e31) (fun _ _ q => q) cal_X_weighed rfl tg_32 ct_8 ww_8 ww_900 ww_898 (by decide) (by simp [Value.category]) d_X_person_116 rfl ⟨rfl, rfl⟩ rfl ?_
      refine MM.aload_n (i := 0) rfl rfl d_X_person_119 rfl ?_
      refine MM.gR 8 3 tg_32 rq_8_1 rfl lays_8 ww_473 d_X_person_120 rfl ?_
      refine MM.aload_n (i := 0) rfl rfl d_X_person_123 rfl ?_
      obtain ⟨t33, e34, hf⟩ := mm_bind hf
      obtain ⟨e34, t_t33⟩ := mm_gTE e34
      refine MM.gT e34 tg_32 tq_14 lays_8 ww_486 d_X_person_124 rfl ?_
      refine MM.iload_n (i := 1) rfl rfl d_X_person_127 rfl ?_
      obtain ⟨v36, e35, hf⟩ := mm_bind hf
      refine MM.callV1 (T_St_known V l 35 t33 x1 v32 _ e35) (fun _ _ q => q) cal_St_known rfl tg_35 ct_4 ww_991 ww_990 ww_1314 (by decide) (by simp [Value.category]) d_X_person_128 rfl ⟨rfl, rfl⟩ rfl ?_
      obtain ⟨v38, e37, hf⟩ := mm_bind hf
      refine MM.callS1 (T_X_together V l 76 v36 v32 _ e37) (fun _ _ q => q) cal_X_together rfl ww_994 ww_1000 (by decide) (by simp [Value.category]) d_X_person_131 rfl ⟨rfl, rfl⟩ rfl ?_
      obtain rfl := Option.some.inj hf
      subst hZ
      exact MM.iret rfl d_X_person_134 ⟨rfl, rfl⟩
    replace hf := m40 c41
    obtain ⟨m44, m45⟩ := mm_ifE hf
    by_cases c46 : x2 = 5
    · replace hf := m44 c46
      refine MM.tableIn (tgt := 135) 5 (by rw [c46]; decide +kernel) (by decide) d_X_person_20 rfl rfl ?_
      refine MM.aload_n (i := 0) rfl rfl d_X_person_135 rfl ?_
      refine MM.gR 8 3 tg_32 rq_8_1 rfl lays_8 ww_473 d_X_person_136 rfl ?_
      refine MM.getI 4 tg_35 lays_4 gq_4_7 ww_217 d_X_person_139 rfl ?_
      refine MM.iload_n (i := 1) rfl rfl d_X_person_142 rfl ?_
      obtain ⟨v43, e42, hf⟩ := mm_bind hf
      refine MM.callS1 (T_X_bit V l (h.1 35 7) x1 h _ e42) (fun _ _ q => q) cal_X_bit rfl ww_763 ww_887 (by decide) (by simp [Value.category]) d_X_person_143 rfl ⟨rfl, rfl⟩ rfl ?_
      obtain rfl := Option.some.inj hf
      subst hZ
      exact MM.iret rfl d_X_person_146 ⟨rfl, rfl⟩
    replace hf := m45 c46
    obtain ⟨m49, m50⟩ := mm_ifE hf
    by_cases c51 : x2 = 6
    · replace hf := m49 c51
      refine MM.tableIn (tgt := 147) 6 (by rw [c51]; decide +kernel) (by decide) d_X_person_20 rfl rfl ?_
      refine MM.aload_n (i := 0) rfl rfl d_X_person_147 rfl ?_
      refine MM.gR 8 3 tg_32 rq_8_1 rfl lays_8 ww_473 d_X_person_148 rfl ?_
      refine MM.gR 4 4 tg_35 rq_4_3 rfl lays_4 ww_207 d_X_person_151 rfl ?_
      refine MM.iload_n (i := 1) rfl rfl d_X_person_154 rfl ?_
      obtain ⟨k47, e48, hf⟩ := mm_bind hf
      refine MM.gI e48 al_39 d_X_person_155 rfl ?_
      obtain rfl := Option.some.inj hf
      subst hZ
      exact MM.iret rfl d_X_person_156 ⟨rfl, rfl⟩
    replace hf := m50 c51
    obtain ⟨m54, m55⟩ := mm_ifE hf
    by_cases c56 : x2 = 7
    · replace hf := m54 c56
      refine MM.tableIn (tgt := 157) 7 (by rw [c56]; decide +kernel) (by decide) d_X_person_20 rfl rfl ?_
      refine MM.aload_n (i := 0) rfl rfl d_X_person_157 rfl ?_
      refine MM.gR 8 3 tg_32 rq_8_1 rfl lays_8 ww_473 d_X_person_158 rfl ?_
      refine MM.gR 4 5 tg_35 rq_4_4 rfl lays_4 ww_209 d_X_person_161 rfl ?_
      refine MM.iload_n (i := 1) rfl rfl d_X_person_164 rfl ?_
      obtain ⟨k52, e53, hf⟩ := mm_bind hf
      refine MM.gI e53 al_40 d_X_person_165 rfl ?_
      obtain rfl := Option.some.inj hf
      subst hZ
      exact MM.iret rfl d_X_person_166 ⟨rfl, rfl⟩
    replace hf := m55 c56
    have zc11 := mm_swOut c11
    have zc16 := mm_swOut c16
    have zc23 := mm_swOut c23
    have zc30 := mm_swOut c30
    have zc41 := mm_swOut c41
    have zc46 := mm_swOut c46
    have zc51 := mm_swOut c51
    have zc56 := mm_swOut c56
    refine MM.tableOut (tgt := 167) (by replace zc11 : _ ≠ (0 : Int) := zc11; replace zc16 : _ ≠ (1 : Int) := zc16; replace zc23 : _ ≠ (2 : Int) := zc23; replace zc30 : _ ≠ (3 : Int) := zc30; replace zc41 : _ ≠ (4 : Int) := zc41; replace zc46 : _ ≠ (5 : Int) := zc46; replace zc51 : _ ≠ (6 : Int) := zc51; replace zc56 : _ ≠ (7 : Int) := zc56; omega) d_X_person_20 rfl ?_
    cases hf
  · replace hf := m58 c57
    cases hf
theorem d_To_hasSecret_0 : decode cX8_hasSecret 0 = .ok (.iload_n 1, 1) := by decide +kernel
theorem d_To_hasSecret_1 : decode cX8_hasSecret 1 = .ok (.ifCond .lt 15, 3) := by decide +kernel
theorem d_To_hasSecret_4 : decode cX8_hasSecret 4 = .ok (.iload_n 1, 1) := by decide +kernel
theorem d_To_hasSecret_5 : decode cX8_hasSecret 5 = .ok (.aload_n 0, 1) := by decide +kernel
theorem d_To_hasSecret_6 : decode cX8_hasSecret 6 = .ok (.getfield 32, 3) := by decide +kernel
theorem d_To_hasSecret_9 : decode cX8_hasSecret 9 = .ok (.if_icmp .ge 7, 3) := by decide +kernel
theorem d_To_hasSecret_12 : decode cX8_hasSecret 12 = .ok (.iconst 1, 1) := by decide +kernel
theorem d_To_hasSecret_13 : decode cX8_hasSecret 13 = .ok (.goto 4, 3) := by decide +kernel
theorem d_To_hasSecret_16 : decode cX8_hasSecret 16 = .ok (.iconst 0, 1) := by decide +kernel
theorem d_To_hasSecret_17 : decode cX8_hasSecret 17 = .ok (.ireturn, 1) := by decide +kernel
noncomputable def f_To_hasSecret (a0 : Nat) (x1 : Int32) (h : mm_H) : Option Int32 := if mm_tg a0 = 7 then (if x1 < 0 then (some 0) else (if (h.1 a0 6) ≤ x1 then (some 0) else (some 1))) else none
theorem T_To_hasSecret (V : mm_V) (l : Launch) (a0 : Nat) (x1 : Int32) (h : mm_H) (r : Int32) (hf : f_To_hasSecret a0 x1 h = some r) : MT V l Y_To_hasSecret 1 [.ref a0, .int x1] (fun r1 h1 => r1 = some (.int r) ∧ h1 = h) h := by
  unfold f_To_hasSecret at hf
  obtain ⟨t_a0, hf⟩ := mm_chkE hf
  refine MT.intro (pn_To rfl) [(0, .ref a0), (1, .int x1)] rfl (Nat.le_of_ble_eq_true rfl) ?_
  generalize hZ : mm_Z V _ = Z0
  refine MM.iload_n (i := 1) rfl rfl d_To_hasSecret_0 rfl ?_
  obtain ⟨m5, m6⟩ := mm_ifE hf
  refine MM.if_lt (tgt := 16) d_To_hasSecret_1 rfl rfl (fun c4 => ?_) (fun c4 => ?_)
  · replace hf := m5 c4
    refine MM.iconst ic_0 d_To_hasSecret_16 rfl ?_
    obtain rfl := Option.some.inj hf
    subst hZ
    exact MM.zret (Or.inl rfl) rfl d_To_hasSecret_17 ⟨rfl, rfl⟩
  · replace hf := m6 c4
    refine MM.iload_n (i := 1) rfl rfl d_To_hasSecret_4 rfl ?_
    refine MM.aload_n (i := 0) rfl rfl d_To_hasSecret_5 rfl ?_
    refine MM.getI 7 t_a0 lays_7 gq_7_6 ww_385 d_To_hasSecret_6 rfl ?_
    obtain ⟨m2, m3⟩ := mm_ifE hf
    refine MM.icmp_ge (tgt := 16) d_To_hasSecret_9 rfl rfl (fun c1 => ?_) (fun c1 => ?_)
    · replace hf := m2 c1
      refine MM.iconst ic_0 d_To_hasSecret_16 rfl ?_
      obtain rfl := Option.some.inj hf
      subst hZ
      exact MM.zret (Or.inl rfl) rfl d_To_hasSecret_17 ⟨rfl, rfl⟩
    · replace hf := m3 c1
      refine MM.iconst ic_1 d_To_hasSecret_12 rfl ?_
      refine MM.goto (tgt := 17) d_To_hasSecret_13 rfl ?_
      obtain rfl := Option.some.inj hf
      subst hZ
      exact MM.zret (Or.inr rfl) rfl d_To_hasSecret_17 ⟨rfl, rfl⟩
