/-! methods: X_fillLawful, X_gain, X_keepGain, St_forget, X_trySeconds, X_tryFirst, X_scheme, X_plot, Tk_addSeen, X_see, X_explains, X_findLeaks, X_leaks, To_agrees -/
theorem d_X_fillLawful_0 : decode cX11_fillLawful 0 = .ok (.iconst 0, 1) := by decide +kernel
theorem d_X_fillLawful_1 : decode cX11_fillLawful 1 = .ok (.istore_n 1, 1) := by decide +kernel
theorem d_X_fillLawful_2 : decode cX11_fillLawful 2 = .ok (.iload_n 1, 1) := by decide +kernel
theorem d_X_fillLawful_3 : decode cX11_fillLawful 3 = .ok (.aload_n 0, 1) := by decide +kernel
theorem d_X_fillLawful_4 : decode cX11_fillLawful 4 = .ok (.getfield 81, 3) := by decide +kernel
theorem d_X_fillLawful_7 : decode cX11_fillLawful 7 = .ok (.getfield 319, 3) := by decide +kernel
theorem d_X_fillLawful_10 : decode cX11_fillLawful 10 = .ok (.if_icmp .ge 47, 3) := by decide +kernel
theorem d_X_fillLawful_13 : decode cX11_fillLawful 13 = .ok (.iconst 0, 1) := by decide +kernel
theorem d_X_fillLawful_14 : decode cX11_fillLawful 14 = .ok (.istore_n 2, 1) := by decide +kernel
theorem d_X_fillLawful_15 : decode cX11_fillLawful 15 = .ok (.iload_n 2, 1) := by decide +kernel
theorem d_X_fillLawful_16 : decode cX11_fillLawful 16 = .ok (.bipush 7, 2) := by decide +kernel
theorem d_X_fillLawful_18 : decode cX11_fillLawful 18 = .ok (.if_icmp .ge 33, 3) := by decide +kernel
theorem d_X_fillLawful_21 : decode cX11_fillLawful 21 = .ok (.aload_n 0, 1) := by decide +kernel
theorem d_X_fillLawful_22 : decode cX11_fillLawful 22 = .ok (.getfield 72, 3) := by decide +kernel
theorem d_X_fillLawful_25 : decode cX11_fillLawful 25 = .ok (.iload_n 1, 1) := by decide +kernel
theorem d_X_fillLawful_26 : decode cX11_fillLawful 26 = .ok (.bipush 7, 2) := by decide +kernel
theorem d_X_fillLawful_28 : decode cX11_fillLawful 28 = .ok (.imul, 1) := by decide +kernel
theorem d_X_fillLawful_29 : decode cX11_fillLawful 29 = .ok (.iload_n 2, 1) := by decide +kernel
theorem d_X_fillLawful_30 : decode cX11_fillLawful 30 = .ok (.iadd, 1) := by decide +kernel
theorem d_X_fillLawful_31 : decode cX11_fillLawful 31 = .ok (.aload_n 0, 1) := by decide +kernel
theorem d_X_fillLawful_32 : decode cX11_fillLawful 32 = .ok (.getfield 23, 3) := by decide +kernel
theorem d_X_fillLawful_35 : decode cX11_fillLawful 35 = .ok (.aload_n 0, 1) := by decide +kernel
theorem d_X_fillLawful_36 : decode cX11_fillLawful 36 = .ok (.getfield 81, 3) := by decide +kernel
theorem d_X_fillLawful_39 : decode cX11_fillLawful 39 = .ok (.iload_n 1, 1) := by decide +kernel
theorem d_X_fillLawful_40 : decode cX11_fillLawful 40 = .ok (.iload_n 2, 1) := by decide +kernel
theorem d_X_fillLawful_41 : decode cX11_fillLawful 41 = .ok (.invokevirtual 384, 3) := by decide +kernel
theorem d_X_fillLawful_44 : decode cX11_fillLawful 44 = .ok (.iastore, 1) := by decide +kernel
theorem d_X_fillLawful_45 : decode cX11_fillLawful 45 = .ok (.iinc 2 1, 3) := by decide +kernel
theorem d_X_fillLawful_48 : decode cX11_fillLawful 48 = .ok (.goto (-33), 3) := by decide +kernel
theorem d_X_fillLawful_51 : decode cX11_fillLawful 51 = .ok (.iinc 1 1, 3) := by decide +kernel
theorem d_X_fillLawful_54 : decode cX11_fillLawful 54 = .ok (.goto (-52), 3) := by decide +kernel
theorem d_X_fillLawful_57 : decode cX11_fillLawful 57 = .ok (.return_, 1) := by decide +kernel
noncomputable def f_X_fillLawful (h : mm_H) : Option mm_H := (mm_while (σ := (Int32 × mm_H)) (ρ := mm_H) (fun s1 => (mm_gT s1.2 14).bind fun t7 => if (s1.2.1 t7 6) ≤ s1.1 then (some (Sum.inr s1.2)) else ((mm_while (σ := (Int32 × mm_H)) (ρ := mm_H) (fun s9 => if 7 ≤ s9.1 then (some (Sum.inr s9.2)) else ((mm_gT s9.2 14).bind fun t15 => (f_St_lawWorth 41 t15 s1.1 s9.1 s9.2).bind fun v18 => (mm_ix ((s1.1 * 7) + s9.1) 70).bind fun k19 => mm_let (mm_pI v18.2 77 k19 v18.1) fun h21 => mm_let (s9.1 + 1) fun y23 => some (Sum.inl (y23, h21)))) (0, s1.2)).bind fun v12 => mm_let (s1.1 + 1) fun y28 => some (Sum.inl (y28, v12)))) (0, h)).bind fun v4 => some v4
theorem T_X_fillLawful (V : mm_V) (l : Launch) (h : mm_H) (r : mm_H) (hf : f_X_fillLawful h = some r) : MT V l Y_X_fillLawful 4 [.ref 32] (fun r1 h1 => r1 = none ∧ h1 = r) h := by
  unfold f_X_fillLawful at hf
  refine MT.intro (pn_X rfl) [(0, .ref 32)] rfl (Nat.le_of_ble_eq_true rfl) ?_
  generalize hZ : mm_Z V _ = Z0
  refine MM.iconst ic_0 d_X_fillLawful_0 rfl ?_
  refine MM.istore_n (i := 1) (lv' := [(1, .int 0), (0, .ref 32)]) rfl rfl (Nat.le_of_ble_eq_true rfl) rfl d_X_fillLawful_1 rfl ?_
  obtain ⟨v4, e6, hf⟩ := mm_bind hf
  have K5 : MM V l Y_X_fillLawful 4 0 0 Z0 57 [] [] v4 := by
    obtain rfl := Option.some.inj hf
    subst hZ
    exact MM.vret rfl d_X_fillLawful_57 ⟨rfl, rfl⟩
  clear hf
  refine MM.sub [1, 0] (by rfl) (mm_while_ind (fun s1 => MM V l Y_X_fillLawful 4 0 0 Z0 2 [(0, .ref 32), (1, .int s1.1)] [] s1.2) e6 (fun s1 q2 hf hx3 => ?_))
  refine MM.iload_n (i := 1) rfl rfl d_X_fillLawful_2 rfl ?_
  refine MM.aload_n (i := 0) rfl rfl d_X_fillLawful_3 rfl ?_
  obtain ⟨t7, e8, hf⟩ := mm_bind hf
  obtain ⟨e8, t_t7⟩ := mm_gTE e8
  refine MM.gT e8 tg_32 tq_14 lays_8 ww_486 d_X_fillLawful_4 rfl ?_
  refine MM.getI 7 t_t7 lays_7 gq_7_6 ww_389 d_X_fillLawful_7 rfl ?_
  obtain ⟨m31, m32⟩ := mm_ifE hf
  refine MM.icmp_ge (tgt := 57) d_X_fillLawful_10 rfl rfl (fun c30 => ?_) (fun c30 => ?_)
  · replace hf := m31 c30
    obtain rfl := Option.some.inj hf
    obtain rfl := Option.some.inj (mm_wxR hx3)
    exact MM.sub [] (by rfl) K5
  · replace hf := m32 c30
    refine MM.iconst ic_0 d_X_fillLawful_13 rfl ?_
    refine MM.istore_n (i := 2) (lv' := [(2, .int 0), (0, .ref 32), (1, .int s1.1)]) rfl rfl (Nat.le_of_ble_eq_true rfl) rfl d_X_fillLawful_14 rfl ?_
    obtain ⟨v12, e14, hf⟩ := mm_bind hf
    have K13 : MM V l Y_X_fillLawful 4 0 0 Z0 51 [(0, .ref 32), (1, .int s1.1)] [] v12 := by
      obtain ⟨y28, e29, hf⟩ := mm_letE hf
      refine MM.iinc (k0 := 1) (lv' := [(1, .int y28), (0, .ref 32)]) (by rw [ic_1]; exact e29) rfl (Nat.le_of_ble_eq_true rfl) rfl d_X_fillLawful_51 rfl ?_
      refine MM.goto (tgt := 2) d_X_fillLawful_54 rfl ?_
      obtain rfl := Option.some.inj hf
      have h9 := mm_wxL hx3
      exact MM.sub [1, 0] (by rfl) h9
    clear hf
    refine MM.sub [1, 2, 0] (by rfl) (mm_while_ind (fun s9 => MM V l Y_X_fillLawful 4 0 0 Z0 15 [(0, .ref 32), (1, .int s1.1), (2, .int s9.1)] [] s9.2) e14 (fun s9 q10 hf hx11 => ?_))
    refine MM.iload_n (i := 2) rfl rfl d_X_fillLawful_15 rfl ?_
    refine MM.bipush bp_7 d_X_fillLawful_16 rfl ?_
    obtain ⟨m26, m27⟩ := mm_ifE hf
    refine MM.icmp_ge (tgt := 51) d_X_fillLawful_18 rfl rfl (fun c25 => ?_) (fun c25 => ?_)
    · replace hf := m26 c25
      obtain rfl := Option.some.inj hf
      obtain rfl := Option.some.inj (mm_wxR hx11)
      exact MM.sub [0, 1] (by rfl) K13
    · replace hf := m27 c25
      refine MM.aload_n (i := 0) rfl rfl d_X_fillLawful_21 rfl ?_
      refine MM.gR 8 45 tg_32 rq_8_12 rfl lays_8 ww_484 d_X_fillLawful_22 rfl ?_
      refine MM.iload_n (i := 1) rfl rfl d_X_fillLawful_25 rfl ?_
      refine MM.bipush bp_7 d_X_fillLawful_26 rfl ?_
      refine MM.imul d_X_fillLawful_28 rfl ?_
      refine MM.iload_n (i := 2) rfl rfl d_X_fillLawful_29 rfl ?_
      refine MM.iadd d_X_fillLawful_30 rfl ?_
      refine MM.aload_n (i := 0) rfl rfl d_X_fillLawful_31 rfl ?_
      refine MM.gR 8 9 tg_32 rq_8_2 rfl lays_8 ww_474 d_X_fillLawful_32 rfl ?_
      refine MM.aload_n (i := 0) rfl rfl d_X_fillLawful_35 rfl ?_
      obtain ⟨t15, e16, hf⟩ := mm_bind hf
      obtain ⟨e16, t_t15⟩ := mm_gTE e16
      refine MM.gT e16 tg_32 tq_14 lays_8 ww_486 d_X_fillLawful_36 rfl ?_
      refine MM.iload_n (i := 1) rfl rfl d_X_fillLawful_39 rfl ?_
      refine MM.iload_n (i := 2) rfl rfl d_X_fillLawful_40 rfl ?_
      obtain ⟨v18, e17, hf⟩ := mm_bind hf
      refine MM.callV1 (T_St_lawWorth V l 41 t15 s1.1 s9.1 s9.2 _ e17) (fun _ _ q => q) cal_St_lawWorth rfl tg_41 ct_4 ww_910 ww_909 ww_1330 (by decide) (by simp [Value.category]) d_X_fillLawful_41 rfl ⟨rfl, rfl⟩ rfl ?_
      obtain ⟨k19, e20, hf⟩ := mm_bind hf
      obtain ⟨h21, e22, hf⟩ := mm_letE hf
      refine MM.sI e20 e22 al_77 d_X_fillLawful_44 rfl ?_
      obtain ⟨y23, e24, hf⟩ := mm_letE hf
      refine MM.iinc (k0 := 2) (lv' := [(2, .int y23), (0, .ref 32), (1, .int s1.1)]) (by rw [ic_1]; exact e24) rfl (Nat.le_of_ble_eq_true rfl) rfl d_X_fillLawful_45 rfl ?_
      refine MM.goto (tgt := 15) d_X_fillLawful_48 rfl ?_
      obtain rfl := Option.some.inj hf
      have h9 := mm_wxL hx11
      exact MM.sub [1, 2, 0] (by rfl) h9
theorem d_X_gain_0 : decode cX11_gain 0 = .ok (.iconst 0, 1) := by decide +kernel
theorem d_X_gain_1 : decode cX11_gain 1 = .ok (.istore_n 3, 1) := by decide +kernel
theorem d_X_gain_2 : decode cX11_gain 2 = .ok (.iconst 0, 1) := by decide +kernel
theorem d_X_gain_3 : decode cX11_gain 3 = .ok (.istore 4, 2) := by decide +kernel
theorem d_X_gain_5 : decode cX11_gain 5 = .ok (.iload 4, 2) := by decide +kernel
theorem d_X_gain_7 : decode cX11_gain 7 = .ok (.aload_n 0, 1) := by decide +kernel
theorem d_X_gain_8 : decode cX11_gain 8 = .ok (.getfield 81, 3) := by decide +kernel
theorem d_X_gain_11 : decode cX11_gain 11 = .ok (.getfield 319, 3) := by decide +kernel
theorem d_X_gain_14 : decode cX11_gain 14 = .ok (.if_icmp .ge 130, 3) := by decide +kernel
theorem d_X_gain_17 : decode cX11_gain 17 = .ok (.iconst 0, 1) := by decide +kernel
theorem d_X_gain_18 : decode cX11_gain 18 = .ok (.istore 5, 2) := by decide +kernel
theorem d_X_gain_20 : decode cX11_gain 20 = .ok (.aload_n 0, 1) := by decide +kernel
theorem d_X_gain_21 : decode cX11_gain 21 = .ok (.getfield 23, 3) := by decide +kernel
theorem d_X_gain_24 : decode cX11_gain 24 = .ok (.getfield 196, 3) := by decide +kernel
theorem d_X_gain_27 : decode cX11_gain 27 = .ok (.iload 4, 2) := by decide +kernel
theorem d_X_gain_29 : decode cX11_gain 29 = .ok (.invokestatic 164, 3) := by decide +kernel
theorem d_X_gain_32 : decode cX11_gain 32 = .ok (.ifCond .ne 62, 3) := by decide +kernel
theorem d_X_gain_35 : decode cX11_gain 35 = .ok (.aload_n 0, 1) := by decide +kernel
theorem d_X_gain_36 : decode cX11_gain 36 = .ok (.getfield 81, 3) := by decide +kernel
theorem d_X_gain_39 : decode cX11_gain 39 = .ok (.getfield 186, 3) := by decide +kernel
theorem d_X_gain_42 : decode cX11_gain 42 = .ok (.iload 4, 2) := by decide +kernel
theorem d_X_gain_44 : decode cX11_gain 44 = .ok (.iaload, 1) := by decide +kernel
theorem d_X_gain_45 : decode cX11_gain 45 = .ok (.istore 6, 2) := by decide +kernel
theorem d_X_gain_47 : decode cX11_gain 47 = .ok (.aload_n 0, 1) := by decide +kernel
theorem d_X_gain_48 : decode cX11_gain 48 = .ok (.getfield 72, 3) := by decide +kernel
theorem d_X_gain_51 : decode cX11_gain 51 = .ok (.iload 4, 2) := by decide +kernel
theorem d_X_gain_53 : decode cX11_gain 53 = .ok (.bipush 7, 2) := by decide +kernel
theorem d_X_gain_55 : decode cX11_gain 55 = .ok (.imul, 1) := by decide +kernel
theorem d_X_gain_56 : decode cX11_gain 56 = .ok (.aload_n 0, 1) := by decide +kernel
theorem d_X_gain_57 : decode cX11_gain 57 = .ok (.getfield 81, 3) := by decide +kernel
theorem d_X_gain_60 : decode cX11_gain 60 = .ok (.aload_n 0, 1) := by decide +kernel
theorem d_X_gain_61 : decode cX11_gain 61 = .ok (.getfield 23, 3) := by decide +kernel
theorem d_X_gain_64 : decode cX11_gain 64 = .ok (.getfield 189, 3) := by decide +kernel
theorem d_X_gain_67 : decode cX11_gain 67 = .ok (.iload 4, 2) := by decide +kernel
theorem d_X_gain_69 : decode cX11_gain 69 = .ok (.iaload, 1) := by decide +kernel
theorem d_X_gain_70 : decode cX11_gain 70 = .ok (.invokevirtual 192, 3) := by decide +kernel
theorem d_X_gain_73 : decode cX11_gain 73 = .ok (.iadd, 1) := by decide +kernel
theorem d_X_gain_74 : decode cX11_gain 74 = .ok (.iaload, 1) := by decide +kernel
theorem d_X_gain_75 : decode cX11_gain 75 = .ok (.iload 6, 2) := by decide +kernel
theorem d_X_gain_77 : decode cX11_gain 77 = .ok (.ifCond .ge 7, 3) := by decide +kernel
theorem d_X_gain_80 : decode cX11_gain 80 = .ok (.iconst 0, 1) := by decide +kernel
theorem d_X_gain_81 : decode cX11_gain 81 = .ok (.goto 10, 3) := by decide +kernel
theorem d_X_gain_84 : decode cX11_gain 84 = .ok (.aload_n 0, 1) := by decide +kernel
theorem d_X_gain_85 : decode cX11_gain 85 = .ok (.getfield 68, 3) := by decide +kernel
theorem d_X_gain_88 : decode cX11_gain 88 = .ok (.iload 6, 2) := by decide +kernel
theorem d_X_gain_90 : decode cX11_gain 90 = .ok (.iaload, 1) := by decide +kernel
theorem d_X_gain_91 : decode cX11_gain 91 = .ok (.iadd, 1) := by decide +kernel
theorem d_X_gain_92 : decode cX11_gain 92 = .ok (.istore 5, 2) := by decide +kernel
theorem d_X_gain_94 : decode cX11_gain 94 = .ok (.aload_n 0, 1) := by decide +kernel
theorem d_X_gain_95 : decode cX11_gain 95 = .ok (.getfield 68, 3) := by decide +kernel
theorem d_X_gain_98 : decode cX11_gain 98 = .ok (.iload 4, 2) := by decide +kernel
theorem d_X_gain_100 : decode cX11_gain 100 = .ok (.iload 5, 2) := by decide +kernel
theorem d_X_gain_102 : decode cX11_gain 102 = .ok (.iastore, 1) := by decide +kernel
theorem d_X_gain_103 : decode cX11_gain 103 = .ok (.iload_n 3, 1) := by decide +kernel
theorem d_X_gain_104 : decode cX11_gain 104 = .ok (.iload 5, 2) := by decide +kernel
theorem d_X_gain_106 : decode cX11_gain 106 = .ok (.aload_n 0, 1) := by decide +kernel
theorem d_X_gain_107 : decode cX11_gain 107 = .ok (.getfield 23, 3) := by decide +kernel
theorem d_X_gain_110 : decode cX11_gain 110 = .ok (.getfield 189, 3) := by decide +kernel
theorem d_X_gain_113 : decode cX11_gain 113 = .ok (.iload 4, 2) := by decide +kernel
theorem d_X_gain_115 : decode cX11_gain 115 = .ok (.iaload, 1) := by decide +kernel
theorem d_X_gain_116 : decode cX11_gain 116 = .ok (.iload_n 1, 1) := by decide +kernel
theorem d_X_gain_117 : decode cX11_gain 117 = .ok (.invokestatic 164, 3) := by decide +kernel
theorem d_X_gain_120 : decode cX11_gain 120 = .ok (.aload_n 0, 1) := by decide +kernel
theorem d_X_gain_121 : decode cX11_gain 121 = .ok (.getfield 23, 3) := by decide +kernel
theorem d_X_gain_124 : decode cX11_gain 124 = .ok (.getfield 189, 3) := by decide +kernel
theorem d_X_gain_127 : decode cX11_gain 127 = .ok (.iload 4, 2) := by decide +kernel
theorem d_X_gain_129 : decode cX11_gain 129 = .ok (.iaload, 1) := by decide +kernel
theorem d_X_gain_130 : decode cX11_gain 130 = .ok (.iload_n 2, 1) := by decide +kernel
theorem d_X_gain_131 : decode cX11_gain 131 = .ok (.invokestatic 164, 3) := by decide +kernel
theorem d_X_gain_134 : decode cX11_gain 134 = .ok (.isub, 1) := by decide +kernel
theorem d_X_gain_135 : decode cX11_gain 135 = .ok (.imul, 1) := by decide +kernel
theorem d_X_gain_136 : decode cX11_gain 136 = .ok (.iadd, 1) := by decide +kernel
theorem d_X_gain_137 : decode cX11_gain 137 = .ok (.istore_n 3, 1) := by decide +kernel
theorem d_X_gain_138 : decode cX11_gain 138 = .ok (.iinc 4 1, 3) := by decide +kernel
theorem d_X_gain_141 : decode cX11_gain 141 = .ok (.goto (-136), 3) := by decide +kernel
theorem d_X_gain_144 : decode cX11_gain 144 = .ok (.iload_n 3, 1) := by decide +kernel
theorem d_X_gain_145 : decode cX11_gain 145 = .ok (.ireturn, 1) := by decide +kernel
noncomputable def f_X_gain (x1 : Int32) (x2 : Int32) (h : mm_H) : Option (Int32 × mm_H) := (mm_while (σ := (Int32 × Int32 × mm_H)) (ρ := (Int32 × mm_H)) (fun s1 => (mm_gT s1.2.2 14).bind fun t7 => if (s1.2.2.1 t7 6) ≤ s1.2.1 then (some (Sum.inr (s1.1, s1.2.2))) else ((f_X_bit (s1.2.2.1 41 5) s1.2.1).bind fun v10 => (if v10 = 0 then ((mm_gT s1.2.2 14).bind fun t13 => (mm_ix s1.2.1 10).bind fun k15 => mm_let (s1.2.2.1 (t13 + 8) k15) fun y17 => (mm_gT s1.2.2 14).bind fun t19 => (mm_ix s1.2.1 10).bind fun k21 => (f_To_knowers t19 (s1.2.2.1 42 k21) s1.2.2).bind fun v24 => (mm_ix ((s1.2.1 * 7) + v24) 70).bind fun k25 => (if 0 ≤ y17 then ((mm_ix y17 10).bind fun k29 => some (s1.2.2.1 76 k29)) else (some 0) : Option Int32).bind fun j27 => mm_let ((s1.2.2.1 77 k25) + j27) fun y34 => some y34) else (some 0) : Option Int32).bind fun j11 => (mm_ix s1.2.1 10).bind fun k40 => mm_let (mm_pI s1.2.2 76 k40 j11) fun h42 => (mm_ix s1.2.1 10).bind fun k44 => (f_X_bit (h42.1 42 k44) x1).bind fun v47 => (mm_ix s1.2.1 10).bind fun k48 => (f_X_bit (h42.1 42 k48) x2).bind fun v51 => mm_let (s1.1 + (j11 * (v47 - v51))) fun y52 => mm_let (s1.2.1 + 1) fun y54 => some (Sum.inl (y52, y54, h42)))) (0, 0, h)).bind fun v4 => some (v4.1, v4.2)
theorem T_X_gain (V : mm_V) (l : Launch) (x1 : Int32) (x2 : Int32) (h : mm_H) (r : (Int32 × mm_H)) (hf : f_X_gain x1 x2 h = some r) : MT V l Y_X_gain 3 [.ref 32, .int x1, .int x2] (fun r1 h1 => r1 = some (.int r.1) ∧ h1 = r.2) h := by
  unfold f_X_gain at hf
  refine MT.intro (pn_X rfl) [(0, .ref 32), (1, .int x1), (2, .int x2)] rfl (Nat.le_of_ble_eq_true rfl) ?_
  generalize hZ : mm_Z V _ = Z0
  refine MM.iconst ic_0 d_X_gain_0 rfl ?_
  refine MM.istore_n (i := 3) (lv' := [(3, .int 0), (0, .ref 32), (1, .int x1), (2, .int x2)]) rfl rfl (Nat.le_of_ble_eq_true rfl) rfl d_X_gain_1 rfl ?_
  refine MM.iconst ic_0 d_X_gain_2 rfl ?_
  refine MM.istore (lv' := [(4, .int 0), (3, .int 0), (0, .ref 32), (1, .int x1), (2, .int x2)]) rfl (Nat.le_of_ble_eq_true rfl) rfl d_X_gain_3 rfl ?_
  obtain ⟨v4, e6, hf⟩ := mm_bind hf
  have K5 : MM V l Y_X_gain 3 0 0 Z0 144 [(3, .int v4.1)] [] v4.2 := by
    refine MM.iload_n (i := 3) rfl rfl d_X_gain_144 rfl ?_
    obtain rfl := Option.some.inj hf
    subst hZ
    exact MM.iret rfl d_X_gain_145 ⟨rfl, rfl⟩
  clear hf
  refine MM.sub [2, 3, 4, 1, 0] (by rfl) (mm_while_ind (fun s1 => MM V l Y_X_gain 3 0 0 Z0 5 [(0, .ref 32), (1, .int x1), (2, .int x2), (3, .int s1.1), (4, .int s1.2.1)] [] s1.2.2) e6 (fun s1 q2 hf hx3 => ?_))
  refine MM.iload rfl d_X_gain_5 rfl ?_
  refine MM.aload_n (i := 0) rfl rfl d_X_gain_7 rfl ?_
  obtain ⟨t7, e8, hf⟩ := mm_bind hf
  obtain ⟨e8, t_t7⟩ := mm_gTE e8
  refine MM.gT e8 tg_32 tq_14 lays_8 ww_486 d_X_gain_8 rfl ?_
  refine MM.getI 7 t_t7 lays_7 gq_7_6 ww_389 d_X_gain_11 rfl ?_
  obtain ⟨m58, m59⟩ := mm_ifE hf
  refine MM.icmp_ge (tgt := 144) d_X_gain_14 rfl rfl (fun c57 => ?_) (fun c57 => ?_)
  · replace hf := m58 c57
    obtain rfl := Option.some.inj hf
    obtain rfl := Option.some.inj (mm_wxR hx3)
    exact MM.sub [3] (by rfl) K5
  · replace hf := m59 c57
    refine MM.iconst ic_0 d_X_gain_17 rfl ?_
    refine MM.istore (lv' := [(5, .int 0), (0, .ref 32), (1, .int x1), (2, .int x2), (3, .int s1.1), (4, .int s1.2.1)]) rfl (Nat.le_of_ble_eq_true rfl) rfl d_X_gain_18 rfl ?_
    refine MM.aload_n (i := 0) rfl rfl d_X_gain_20 rfl ?_
    refine MM.gR 8 9 tg_32 rq_8_2 rfl lays_8 ww_474 d_X_gain_21 rfl ?_
    refine MM.getI 4 tg_41 lays_4 gq_4_5 ww_212 d_X_gain_24 rfl ?_
    refine MM.iload rfl d_X_gain_27 rfl ?_
    obtain ⟨v10, e9, hf⟩ := mm_bind hf
    refine MM.callS1 (T_X_bit V l (s1.2.2.1 41 5) s1.2.1 s1.2.2 _ e9) (fun _ _ q => q) cal_X_bit rfl ww_763 ww_887 (by decide) (by simp [Value.category]) d_X_gain_29 rfl ⟨rfl, rfl⟩ rfl ?_
    obtain ⟨j11, e56, hf⟩ := mm_bind hf
    have K12 : MM V l Y_X_gain 3 0 0 Z0 94 [(0, .ref 32), (1, .int x1), (2, .int x2), (3, .int s1.1), (4, .int s1.2.1), (5, .int j11)] [] s1.2.2 := by
      refine MM.aload_n (i := 0) rfl rfl d_X_gain_94 rfl ?_
      refine MM.gR 8 44 tg_32 rq_8_11 rfl lays_8 ww_483 d_X_gain_95 rfl ?_
      refine MM.iload rfl d_X_gain_98 rfl ?_
      refine MM.iload rfl d_X_gain_100 rfl ?_
      obtain ⟨k40, e41, hf⟩ := mm_bind hf
      obtain ⟨h42, e43, hf⟩ := mm_letE hf
      refine MM.sI e41 e43 al_76 d_X_gain_102 rfl ?_
      refine MM.iload_n (i := 3) rfl rfl d_X_gain_103 rfl ?_
      refine MM.iload rfl d_X_gain_104 rfl ?_
      refine MM.aload_n (i := 0) rfl rfl d_X_gain_106 rfl ?_
      refine MM.gR 8 9 tg_32 rq_8_2 rfl lays_8 ww_474 d_X_gain_107 rfl ?_
      refine MM.gR 4 1 tg_41 rq_4_0 rfl lays_4 ww_202 d_X_gain_110 rfl ?_
      refine MM.iload rfl d_X_gain_113 rfl ?_
      obtain ⟨k44, e45, hf⟩ := mm_bind hf
      refine MM.gI e45 al_42 d_X_gain_115 rfl ?_
      refine MM.iload_n (i := 1) rfl rfl d_X_gain_116 rfl ?_
      obtain ⟨v47, e46, hf⟩ := mm_bind hf
      refine MM.callS1 (T_X_bit V l (h42.1 42 k44) x1 h42 _ e46) (fun _ _ q => q) cal_X_bit rfl ww_763 ww_887 (by decide) (by simp [Value.category]) d_X_gain_117 rfl ⟨rfl, rfl⟩ rfl ?_
      refine MM.aload_n (i := 0) rfl rfl d_X_gain_120 rfl ?_
      refine MM.gR 8 9 tg_32 rq_8_2 rfl lays_8 ww_474 d_X_gain_121 rfl ?_
      refine MM.gR 4 1 tg_41 rq_4_0 rfl lays_4 ww_202 d_X_gain_124 rfl ?_
      refine MM.iload rfl d_X_gain_127 rfl ?_
      obtain ⟨k48, e49, hf⟩ := mm_bind hf
      refine MM.gI e49 al_42 d_X_gain_129 rfl ?_
      refine MM.iload_n (i := 2) rfl rfl d_X_gain_130 rfl ?_
      obtain ⟨v51, e50, hf⟩ := mm_bind hf
      refine MM.callS1 (T_X_bit V l (h42.1 42 k48) x2 h42 _ e50) (fun _ _ q => q) cal_X_bit rfl ww_763 ww_887 (by decide) (by simp [Value.category]) d_X_gain_131 rfl ⟨rfl, rfl⟩ rfl ?_
      refine MM.isub d_X_gain_134 rfl ?_
      refine MM.imul d_X_gain_135 rfl ?_
      refine MM.iadd d_X_gain_136 rfl ?_
      obtain ⟨y52, e53, hf⟩ := mm_letE hf
      refine MM.istore_n (i := 3) (lv' := [(3, .int y52), (0, .ref 32), (1, .int x1), (2, .int x2), (4, .int s1.2.1), (5, .int j11)]) e53 rfl (Nat.le_of_ble_eq_true rfl) rfl d_X_gain_137 rfl ?_
      obtain ⟨y54, e55, hf⟩ := mm_letE hf
      refine MM.iinc (k0 := 4) (lv' := [(4, .int y54), (3, .int y52), (0, .ref 32), (1, .int x1), (2, .int x2), (5, .int j11)]) (by rw [ic_1]; exact e55) rfl (Nat.le_of_ble_eq_true rfl) rfl d_X_gain_138 rfl ?_
      refine MM.goto (tgt := 5) d_X_gain_141 rfl ?_
      obtain rfl := Option.some.inj hf
      have h9 := mm_wxL hx3
      exact MM.sub [2, 3, 4, 1, 0] (by rfl) h9
    clear hf
    have hf := e56
    clear e56
    obtain ⟨m38, m39⟩ := mm_ifE hf
    refine MM.if_ne (tgt := 94) d_X_gain_32 rfl rfl (fun c37 => ?_) (fun c37 => ?_)
    · replace hf := m39 c37
      obtain rfl := Option.some.inj hf
      exact MM.sub [1, 2, 3, 4, 5, 0] (by rfl) K12
    · replace hf := m38 c37
      refine MM.aload_n (i := 0) rfl rfl d_X_gain_35 rfl ?_
      obtain ⟨t13, e14, hf⟩ := mm_bind hf
      obtain ⟨e14, t_t13⟩ := mm_gTE e14
      refine MM.gT e14 tg_32 tq_14 lays_8 ww_486 d_X_gain_36 rfl ?_
      refine MM.gR 7 8 t_t13 rq_7_11 rfl lays_7 ww_405 d_X_gain_39 rfl ?_
      refine MM.iload rfl d_X_gain_42 rfl ?_
      obtain ⟨k15, e16, hf⟩ := mm_bind hf
      refine MM.gI e16 (al_7_11f t_t13) d_X_gain_44 rfl ?_
      obtain ⟨y17, e18, hf⟩ := mm_letE hf
      refine MM.istore (lv' := [(6, .int y17), (5, .int 0), (0, .ref 32), (1, .int x1), (2, .int x2), (3, .int s1.1), (4, .int s1.2.1)]) e18 (Nat.le_of_ble_eq_true rfl) rfl d_X_gain_45 rfl ?_
      refine MM.aload_n (i := 0) rfl rfl d_X_gain_47 rfl ?_
      refine MM.gR 8 45 tg_32 rq_8_12 rfl lays_8 ww_484 d_X_gain_48 rfl ?_
      refine MM.iload rfl d_X_gain_51 rfl ?_
      refine MM.bipush bp_7 d_X_gain_53 rfl ?_
      refine MM.imul d_X_gain_55 rfl ?_
      refine MM.aload_n (i := 0) rfl rfl d_X_gain_56 rfl ?_
      obtain ⟨t19, e20, hf⟩ := mm_bind hf
      obtain ⟨e20, t_t19⟩ := mm_gTE e20
      refine MM.gT e20 tg_32 tq_14 lays_8 ww_486 d_X_gain_57 rfl ?_
      refine MM.aload_n (i := 0) rfl rfl d_X_gain_60 rfl ?_
      refine MM.gR 8 9 tg_32 rq_8_2 rfl lays_8 ww_474 d_X_gain_61 rfl ?_
      refine MM.gR 4 1 tg_41 rq_4_0 rfl lays_4 ww_202 d_X_gain_64 rfl ?_
      refine MM.iload rfl d_X_gain_67 rfl ?_
      obtain ⟨k21, e22, hf⟩ := mm_bind hf
      refine MM.gI e22 al_42 d_X_gain_69 rfl ?_
      obtain ⟨v24, e23, hf⟩ := mm_bind hf
      refine MM.callV1 (T_To_knowers V l t19 (s1.2.2.1 42 k21) s1.2.2 _ e23) (fun _ _ q => q) cal_To_knowers rfl t_t19 ct_7 ww_890 ww_889 ww_888 (by decide) (by simp [Value.category]) d_X_gain_70 rfl ⟨rfl, rfl⟩ rfl ?_
      refine MM.iadd d_X_gain_73 rfl ?_
      obtain ⟨k25, e26, hf⟩ := mm_bind hf
      refine MM.gI e26 al_77 d_X_gain_74 rfl ?_
      refine MM.iload rfl d_X_gain_75 rfl ?_
      obtain ⟨j27, e36, hf⟩ := mm_bind hf
      have K28 : MM V l Y_X_gain 3 0 0 Z0 91 [(0, .ref 32), (1, .int x1), (2, .int x2), (3, .int s1.1), (4, .int s1.2.1)] [.int j27, .int (s1.2.2.1 77 k25)] s1.2.2 := by
        refine MM.iadd d_X_gain_91 rfl ?_
        obtain ⟨y34, e35, hf⟩ := mm_letE hf
        refine MM.istore (lv' := [(5, .int y34), (0, .ref 32), (1, .int x1), (2, .int x2), (3, .int s1.1), (4, .int s1.2.1)]) e35 (Nat.le_of_ble_eq_true rfl) rfl d_X_gain_92 rfl ?_
        obtain rfl := Option.some.inj hf
        exact MM.sub [1, 2, 3, 4, 5, 0] (by rfl) K12
      clear hf
      have hf := e36
      clear e36
      obtain ⟨m32, m33⟩ := mm_ifE hf
      refine MM.if_ge (tgt := 84) d_X_gain_77 rfl rfl (fun c31 => ?_) (fun c31 => ?_)
      · replace hf := m32 c31
        refine MM.aload_n (i := 0) rfl rfl d_X_gain_84 rfl ?_
        refine MM.gR 8 44 tg_32 rq_8_11 rfl lays_8 ww_483 d_X_gain_85 rfl ?_
        refine MM.iload rfl d_X_gain_88 rfl ?_
        obtain ⟨k29, e30, hf⟩ := mm_bind hf
        refine MM.gI e30 al_76 d_X_gain_90 rfl ?_
        obtain rfl := Option.some.inj hf
        exact MM.sub [2, 3, 4, 5, 6] (by rfl) K28
      · replace hf := m33 c31
        refine MM.iconst ic_0 d_X_gain_80 rfl ?_
        refine MM.goto (tgt := 91) d_X_gain_81 rfl ?_
        obtain rfl := Option.some.inj hf
        exact MM.sub [2, 3, 4, 5, 6] (by rfl) K28
theorem d_X_keepGain_0 : decode cX11_keepGain 0 = .ok (.iload_n 1, 1) := by decide +kernel
theorem d_X_keepGain_1 : decode cX11_keepGain 1 = .ok (.aload_n 0, 1) := by decide +kernel
theorem d_X_keepGain_2 : decode cX11_keepGain 2 = .ok (.getfield 75, 3) := by decide +kernel
theorem d_X_keepGain_5 : decode cX11_keepGain 5 = .ok (.iconst 0, 1) := by decide +kernel
theorem d_X_keepGain_6 : decode cX11_keepGain 6 = .ok (.iaload, 1) := by decide +kernel
theorem d_X_keepGain_7 : decode cX11_keepGain 7 = .ok (.if_icmp .le 32, 3) := by decide +kernel
theorem d_X_keepGain_10 : decode cX11_keepGain 10 = .ok (.aload_n 0, 1) := by decide +kernel
theorem d_X_keepGain_11 : decode cX11_keepGain 11 = .ok (.getfield 75, 3) := by decide +kernel
theorem d_X_keepGain_14 : decode cX11_keepGain 14 = .ok (.iconst 0, 1) := by decide +kernel
theorem d_X_keepGain_15 : decode cX11_keepGain 15 = .ok (.iload_n 1, 1) := by decide +kernel
theorem d_X_keepGain_16 : decode cX11_keepGain 16 = .ok (.iastore, 1) := by decide +kernel
theorem d_X_keepGain_17 : decode cX11_keepGain 17 = .ok (.aload_n 0, 1) := by decide +kernel
theorem d_X_keepGain_18 : decode cX11_keepGain 18 = .ok (.getfield 75, 3) := by decide +kernel
theorem d_X_keepGain_21 : decode cX11_keepGain 21 = .ok (.iconst 1, 1) := by decide +kernel
theorem d_X_keepGain_22 : decode cX11_keepGain 22 = .ok (.iload_n 2, 1) := by decide +kernel
theorem d_X_keepGain_23 : decode cX11_keepGain 23 = .ok (.iastore, 1) := by decide +kernel
theorem d_X_keepGain_24 : decode cX11_keepGain 24 = .ok (.aload_n 0, 1) := by decide +kernel
theorem d_X_keepGain_25 : decode cX11_keepGain 25 = .ok (.getfield 75, 3) := by decide +kernel
theorem d_X_keepGain_28 : decode cX11_keepGain 28 = .ok (.iconst 2, 1) := by decide +kernel
theorem d_X_keepGain_29 : decode cX11_keepGain 29 = .ok (.iload_n 3, 1) := by decide +kernel
theorem d_X_keepGain_30 : decode cX11_keepGain 30 = .ok (.iastore, 1) := by decide +kernel
theorem d_X_keepGain_31 : decode cX11_keepGain 31 = .ok (.aload_n 0, 1) := by decide +kernel
theorem d_X_keepGain_32 : decode cX11_keepGain 32 = .ok (.getfield 75, 3) := by decide +kernel
theorem d_X_keepGain_35 : decode cX11_keepGain 35 = .ok (.iconst 3, 1) := by decide +kernel
theorem d_X_keepGain_36 : decode cX11_keepGain 36 = .ok (.iload 4, 2) := by decide +kernel
theorem d_X_keepGain_38 : decode cX11_keepGain 38 = .ok (.iastore, 1) := by decide +kernel
theorem d_X_keepGain_39 : decode cX11_keepGain 39 = .ok (.return_, 1) := by decide +kernel
noncomputable def f_X_keepGain (x1 : Int32) (x2 : Int32) (x3 : Int32) (x4 : Int32) (h : mm_H) : Option mm_H := if x1 ≤ (h.1 78 0) then (some h) else (mm_let (mm_pI h 78 0 x1) fun h1 => mm_let (mm_pI h1 78 1 x2) fun h3 => mm_let (mm_pI h3 78 2 x3) fun h5 => mm_let (mm_pI h5 78 3 x4) fun h7 => some h7)
theorem T_X_keepGain (V : mm_V) (l : Launch) (x1 : Int32) (x2 : Int32) (x3 : Int32) (x4 : Int32) (h : mm_H) (r : mm_H) (hf : f_X_keepGain x1 x2 x3 x4 h = some r) : MT V l Y_X_keepGain 1 [.ref 32, .int x1, .int x2, .int x3, .int x4] (fun r1 h1 => r1 = none ∧ h1 = r) h := by
  unfold f_X_keepGain at hf
  refine MT.intro (pn_X rfl) [(0, .ref 32), (1, .int x1), (2, .int x2), (3, .int x3), (4, .int x4)] rfl (Nat.le_of_ble_eq_true rfl) ?_
  generalize hZ : mm_Z V _ = Z0
  refine MM.iload_n (i := 1) rfl rfl d_X_keepGain_0 rfl ?_
  refine MM.aload_n (i := 0) rfl rfl d_X_keepGain_1 rfl ?_
  refine MM.gR 8 46 tg_32 rq_8_13 rfl lays_8 ww_485 d_X_keepGain_2 rfl ?_
  refine MM.iconst ic_0 d_X_keepGain_5 rfl ?_
  refine MM.gI ix_0_4 al_78 d_X_keepGain_6 rfl ?_
  obtain ⟨m10, m11⟩ := mm_ifE hf
  refine MM.icmp_le (tgt := 39) d_X_keepGain_7 rfl rfl (fun c9 => ?_) (fun c9 => ?_)
  · replace hf := m10 c9
    obtain rfl := Option.some.inj hf
    subst hZ
    exact MM.vret rfl d_X_keepGain_39 ⟨rfl, rfl⟩
  · replace hf := m11 c9
    refine MM.aload_n (i := 0) rfl rfl d_X_keepGain_10 rfl ?_
    refine MM.gR 8 46 tg_32 rq_8_13 rfl lays_8 ww_485 d_X_keepGain_11 rfl ?_
    refine MM.iconst ic_0 d_X_keepGain_14 rfl ?_
    refine MM.iload_n (i := 1) rfl rfl d_X_keepGain_15 rfl ?_
    obtain ⟨h1, e2, hf⟩ := mm_letE hf
    refine MM.sI ix_0_4 e2 al_78 d_X_keepGain_16 rfl ?_
    refine MM.aload_n (i := 0) rfl rfl d_X_keepGain_17 rfl ?_
    refine MM.gR 8 46 tg_32 rq_8_13 rfl lays_8 ww_485 d_X_keepGain_18 rfl ?_
    refine MM.iconst ic_1 d_X_keepGain_21 rfl ?_
    refine MM.iload_n (i := 2) rfl rfl d_X_keepGain_22 rfl ?_
    obtain ⟨h3, e4, hf⟩ := mm_letE hf
    refine MM.sI ix_1_4 e4 al_78 d_X_keepGain_23 rfl ?_
    refine MM.aload_n (i := 0) rfl rfl d_X_keepGain_24 rfl ?_
    refine MM.gR 8 46 tg_32 rq_8_13 rfl lays_8 ww_485 d_X_keepGain_25 rfl ?_
    refine MM.iconst ic_2 d_X_keepGain_28 rfl ?_
    refine MM.iload_n (i := 3) rfl rfl d_X_keepGain_29 rfl ?_
    obtain ⟨h5, e6, hf⟩ := mm_letE hf
    refine MM.sI ix_2_4 e6 al_78 d_X_keepGain_30 rfl ?_
    refine MM.aload_n (i := 0) rfl rfl d_X_keepGain_31 rfl ?_
    refine MM.gR 8 46 tg_32 rq_8_13 rfl lays_8 ww_485 d_X_keepGain_32 rfl ?_
    refine MM.iconst ic_3 d_X_keepGain_35 rfl ?_
    refine MM.iload rfl d_X_keepGain_36 rfl ?_
    obtain ⟨h7, e8, hf⟩ := mm_letE hf
    refine MM.sI ix_3_4 e8 al_78 d_X_keepGain_38 rfl ?_
    obtain rfl := Option.some.inj hf
    subst hZ
    exact MM.vret rfl d_X_keepGain_39 ⟨rfl, rfl⟩
theorem d_St_forget_0 : decode cX5_forget 0 = .ok (.aload_n 0, 1) := by decide +kernel
theorem d_St_forget_1 : decode cX5_forget 1 = .ok (.getfield 9, 3) := by decide +kernel
theorem d_St_forget_4 : decode cX5_forget 4 = .ok (.iload_n 2, 1) := by decide +kernel
theorem d_St_forget_5 : decode cX5_forget 5 = .ok (.dup2, 1) := by decide +kernel
theorem d_St_forget_6 : decode cX5_forget 6 = .ok (.iaload, 1) := by decide +kernel
theorem d_St_forget_7 : decode cX5_forget 7 = .ok (.iconst 1, 1) := by decide +kernel
theorem d_St_forget_8 : decode cX5_forget 8 = .ok (.iload_n 1, 1) := by decide +kernel
theorem d_St_forget_9 : decode cX5_forget 9 = .ok (.ishl, 1) := by decide +kernel
theorem d_St_forget_10 : decode cX5_forget 10 = .ok (.iconst (-1), 1) := by decide +kernel
theorem d_St_forget_11 : decode cX5_forget 11 = .ok (.ixor, 1) := by decide +kernel
theorem d_St_forget_12 : decode cX5_forget 12 = .ok (.iand, 1) := by decide +kernel
theorem d_St_forget_13 : decode cX5_forget 13 = .ok (.iastore, 1) := by decide +kernel
theorem d_St_forget_14 : decode cX5_forget 14 = .ok (.aload_n 0, 1) := by decide +kernel
theorem d_St_forget_15 : decode cX5_forget 15 = .ok (.iload_n 3, 1) := by decide +kernel
theorem d_St_forget_16 : decode cX5_forget 16 = .ok (.putfield 28, 3) := by decide +kernel
theorem d_St_forget_19 : decode cX5_forget 19 = .ok (.return_, 1) := by decide +kernel
noncomputable def f_St_forget (a0 : Nat) (x1 : Int32) (x2 : Int32) (x3 : Int32) (h : mm_H) : Option mm_H := if mm_tg a0 = 4 then ((mm_ix x2 10).bind fun k1 => (mm_ix x2 10).bind fun k3 => mm_let (mm_pI h (a0 + 1) k3 ((h.1 (a0 + 1) k1) &&& (((1 : Int32) <<< (x1 &&& 31)) ^^^ (-1)))) fun h5 => mm_let (mm_pI h5 a0 5 x3) fun h7 => some h7) else none
theorem T_St_forget (V : mm_V) (l : Launch) (a0 : Nat) (x1 : Int32) (x2 : Int32) (x3 : Int32) (h : mm_H) (r : mm_H) (hf : f_St_forget a0 x1 x2 x3 h = some r) : MT V l Y_St_forget 1 [.ref a0, .int x1, .int x2, .int x3] (fun r1 h1 => r1 = none ∧ h1 = r) h := by
  unfold f_St_forget at hf
  obtain ⟨t_a0, hf⟩ := mm_chkE hf
  refine MT.intro (pn_St rfl) [(0, .ref a0), (1, .int x1), (2, .int x2), (3, .int x3)] rfl (Nat.le_of_ble_eq_true rfl) ?_
  generalize hZ : mm_Z V _ = Z0
  refine MM.aload_n (i := 0) rfl rfl d_St_forget_0 rfl ?_
  refine MM.gR 4 1 t_a0 rq_4_0 rfl lays_4 ww_201 d_St_forget_1 rfl ?_
  refine MM.iload_n (i := 2) rfl rfl d_St_forget_4 rfl ?_
  refine MM.dup2 rfl rfl d_St_forget_5 rfl ?_
  obtain ⟨k1, e2, hf⟩ := mm_bind hf
  refine MM.gI e2 (al_4_0f t_a0) d_St_forget_6 rfl ?_
  refine MM.iconst ic_1 d_St_forget_7 rfl ?_
  refine MM.iload_n (i := 1) rfl rfl d_St_forget_8 rfl ?_
  refine MM.ishl d_St_forget_9 rfl ?_
  refine MM.iconst ic_m1 d_St_forget_10 rfl ?_
  refine MM.ixor d_St_forget_11 rfl ?_
  refine MM.iand d_St_forget_12 rfl ?_
  obtain ⟨k3, e4, hf⟩ := mm_bind hf
  obtain ⟨h5, e6, hf⟩ := mm_letE hf
  refine MM.sI e4 e6 (al_4_0f t_a0) d_St_forget_13 rfl ?_
  refine MM.aload_n (i := 0) rfl rfl d_St_forget_14 rfl ?_
  refine MM.iload_n (i := 3) rfl rfl d_St_forget_15 rfl ?_
  obtain ⟨h7, e8, hf⟩ := mm_letE hf
  refine MM.putI e8 4 t_a0 lays_4 toks_4 pq_4_5 ww_211 d_St_forget_16 rfl ?_
  obtain rfl := Option.some.inj hf
  subst hZ
  exact MM.vret rfl d_St_forget_19 ⟨rfl, rfl⟩
theorem d_X_trySeconds_0 : decode cX11_trySeconds 0 = .ok (.iconst 0, 1) := by decide +kernel
theorem d_X_trySeconds_1 : decode cX11_trySeconds 1 = .ok (.istore 4, 2) := by decide +kernel
theorem d_X_trySeconds_3 : decode cX11_trySeconds 3 = .ok (.iload 4, 2) := by decide +kernel
theorem d_X_trySeconds_5 : decode cX11_trySeconds 5 = .ok (.bipush 60, 2) := by decide +kernel
theorem d_X_trySeconds_7 : decode cX11_trySeconds 7 = .ok (.if_icmp .ge 94, 3) := by decide +kernel
theorem d_X_trySeconds_10 : decode cX11_trySeconds 10 = .ok (.iload 4, 2) := by decide +kernel
theorem d_X_trySeconds_12 : decode cX11_trySeconds 12 = .ok (.bipush 10, 2) := by decide +kernel
theorem d_X_trySeconds_14 : decode cX11_trySeconds 14 = .ok (.idiv, 1) := by decide +kernel
theorem d_X_trySeconds_15 : decode cX11_trySeconds 15 = .ok (.istore 5, 2) := by decide +kernel
theorem d_X_trySeconds_17 : decode cX11_trySeconds 17 = .ok (.iload 4, 2) := by decide +kernel
theorem d_X_trySeconds_19 : decode cX11_trySeconds 19 = .ok (.bipush 10, 2) := by decide +kernel
theorem d_X_trySeconds_21 : decode cX11_trySeconds 21 = .ok (.irem, 1) := by decide +kernel
theorem d_X_trySeconds_22 : decode cX11_trySeconds 22 = .ok (.istore 6, 2) := by decide +kernel
theorem d_X_trySeconds_24 : decode cX11_trySeconds 24 = .ok (.aload_n 0, 1) := by decide +kernel
theorem d_X_trySeconds_25 : decode cX11_trySeconds 25 = .ok (.getfield 23, 3) := by decide +kernel
theorem d_X_trySeconds_28 : decode cX11_trySeconds 28 = .ok (.aload_n 0, 1) := by decide +kernel
theorem d_X_trySeconds_29 : decode cX11_trySeconds 29 = .ok (.getfield 81, 3) := by decide +kernel
theorem d_X_trySeconds_32 : decode cX11_trySeconds 32 = .ok (.iload_n 1, 1) := by decide +kernel
theorem d_X_trySeconds_33 : decode cX11_trySeconds 33 = .ok (.iload 5, 2) := by decide +kernel
theorem d_X_trySeconds_35 : decode cX11_trySeconds 35 = .ok (.iload 6, 2) := by decide +kernel
theorem d_X_trySeconds_37 : decode cX11_trySeconds 37 = .ok (.invokevirtual 216, 3) := by decide +kernel
theorem d_X_trySeconds_40 : decode cX11_trySeconds 40 = .ok (.ifCond .eq 55, 3) := by decide +kernel
theorem d_X_trySeconds_43 : decode cX11_trySeconds 43 = .ok (.aload_n 0, 1) := by decide +kernel
theorem d_X_trySeconds_44 : decode cX11_trySeconds 44 = .ok (.getfield 23, 3) := by decide +kernel
theorem d_X_trySeconds_47 : decode cX11_trySeconds 47 = .ok (.getfield 196, 3) := by decide +kernel
theorem d_X_trySeconds_50 : decode cX11_trySeconds 50 = .ok (.istore 7, 2) := by decide +kernel
theorem d_X_trySeconds_52 : decode cX11_trySeconds 52 = .ok (.aload_n 0, 1) := by decide +kernel
theorem d_X_trySeconds_53 : decode cX11_trySeconds 53 = .ok (.getfield 23, 3) := by decide +kernel
theorem d_X_trySeconds_56 : decode cX11_trySeconds 56 = .ok (.aload_n 0, 1) := by decide +kernel
theorem d_X_trySeconds_57 : decode cX11_trySeconds 57 = .ok (.getfield 81, 3) := by decide +kernel
theorem d_X_trySeconds_60 : decode cX11_trySeconds 60 = .ok (.iload_n 1, 1) := by decide +kernel
theorem d_X_trySeconds_61 : decode cX11_trySeconds 61 = .ok (.iload 5, 2) := by decide +kernel
theorem d_X_trySeconds_63 : decode cX11_trySeconds 63 = .ok (.iload 6, 2) := by decide +kernel
theorem d_X_trySeconds_65 : decode cX11_trySeconds 65 = .ok (.invokevirtual 223, 3) := by decide +kernel
theorem d_X_trySeconds_68 : decode cX11_trySeconds 68 = .ok (.aload_n 0, 1) := by decide +kernel
theorem d_X_trySeconds_69 : decode cX11_trySeconds 69 = .ok (.aload_n 0, 1) := by decide +kernel
theorem d_X_trySeconds_70 : decode cX11_trySeconds 70 = .ok (.iload_n 1, 1) := by decide +kernel
theorem d_X_trySeconds_71 : decode cX11_trySeconds 71 = .ok (.iload_n 2, 1) := by decide +kernel
theorem d_X_trySeconds_72 : decode cX11_trySeconds 72 = .ok (.invokevirtual 368, 3) := by decide +kernel
theorem d_X_trySeconds_75 : decode cX11_trySeconds 75 = .ok (.iconst 2, 1) := by decide +kernel
theorem d_X_trySeconds_76 : decode cX11_trySeconds 76 = .ok (.iload_n 3, 1) := by decide +kernel
theorem d_X_trySeconds_77 : decode cX11_trySeconds 77 = .ok (.iload 4, 2) := by decide +kernel
theorem d_X_trySeconds_79 : decode cX11_trySeconds 79 = .ok (.invokevirtual 375, 3) := by decide +kernel
theorem d_X_trySeconds_82 : decode cX11_trySeconds 82 = .ok (.aload_n 0, 1) := by decide +kernel
theorem d_X_trySeconds_83 : decode cX11_trySeconds 83 = .ok (.getfield 23, 3) := by decide +kernel
theorem d_X_trySeconds_86 : decode cX11_trySeconds 86 = .ok (.iload 5, 2) := by decide +kernel
theorem d_X_trySeconds_88 : decode cX11_trySeconds 88 = .ok (.iload 6, 2) := by decide +kernel
theorem d_X_trySeconds_90 : decode cX11_trySeconds 90 = .ok (.iload 7, 2) := by decide +kernel
theorem d_X_trySeconds_92 : decode cX11_trySeconds 92 = .ok (.invokevirtual 381, 3) := by decide +kernel
theorem d_X_trySeconds_95 : decode cX11_trySeconds 95 = .ok (.iinc 4 1, 3) := by decide +kernel
theorem d_X_trySeconds_98 : decode cX11_trySeconds 98 = .ok (.goto (-95), 3) := by decide +kernel
theorem d_X_trySeconds_101 : decode cX11_trySeconds 101 = .ok (.return_, 1) := by decide +kernel
noncomputable def f_X_trySeconds (x1 : Int32) (x2 : Int32) (x3 : Int32) (h : mm_H) : Option mm_H := (mm_while (σ := (Int32 × mm_H)) (ρ := mm_H) (fun s1 => if 60 ≤ s1.1 then (some (Sum.inr s1.2)) else (mm_let (s1.1 / 10) fun y7 => mm_let (s1.1 - s1.1 / 10 * 10) fun y9 => (mm_gT s1.2 14).bind fun t11 => (f_St_mayTell 41 t11 x1 y7 y9 s1.2).bind fun v14 => (if v14 = 0 then (some s1.2) else (mm_let (s1.2.1 41 5) fun y17 => (mm_gT s1.2 14).bind fun t19 => (f_St_whisper 41 t19 x1 y7 y9 s1.2).bind fun v22 => (f_X_gain x1 x2 v22).bind fun v24 => (f_X_keepGain v24.1 2 x3 s1.1 v24.2).bind fun v26 => (f_St_forget 41 y7 y9 y17 v26).bind fun v28 => some v28) : Option mm_H).bind fun j15 => mm_let (s1.1 + 1) fun y32 => some (Sum.inl (y32, j15)))) (0, h)).bind fun v4 => some v4
theorem T_X_trySeconds (V : mm_V) (l : Launch) (x1 : Int32) (x2 : Int32) (x3 : Int32) (h : mm_H) (r : mm_H) (hf : f_X_trySeconds x1 x2 x3 h = some r) : MT V l Y_X_trySeconds 4 [.ref 32, .int x1, .int x2, .int x3] (fun r1 h1 => r1 = none ∧ h1 = r) h := by
  unfold f_X_trySeconds at hf
  refine MT.intro (pn_X rfl) [(0, .ref 32), (1, .int x1), (2, .int x2), (3, .int x3)] rfl (Nat.le_of_ble_eq_true rfl) ?_
  generalize hZ : mm_Z V _ = Z0
  refine MM.iconst ic_0 d_X_trySeconds_0 rfl ?_
  refine MM.istore (lv' := [(4, .int 0), (0, .ref 32), (1, .int x1), (2, .int x2), (3, .int x3)]) rfl (Nat.le_of_ble_eq_true rfl) rfl d_X_trySeconds_1 rfl ?_
  obtain ⟨v4, e6, hf⟩ := mm_bind hf
  have K5 : MM V l Y_X_trySeconds 4 0 0 Z0 101 [] [] v4 := by
    obtain rfl := Option.some.inj hf
    subst hZ
    exact MM.vret rfl d_X_trySeconds_101 ⟨rfl, rfl⟩
  clear hf
  refine MM.sub [1, 2, 3, 4, 0] (by rfl) (mm_while_ind (fun s1 => MM V l Y_X_trySeconds 4 0 0 Z0 3 [(0, .ref 32), (1, .int x1), (2, .int x2), (3, .int x3), (4, .int s1.1)] [] s1.2) e6 (fun s1 q2 hf hx3 => ?_))
  refine MM.iload rfl d_X_trySeconds_3 rfl ?_
  refine MM.bipush bp_60 d_X_trySeconds_5 rfl ?_
  obtain ⟨m36, m37⟩ := mm_ifE hf
  refine MM.icmp_ge (tgt := 101) d_X_trySeconds_7 rfl rfl (fun c35 => ?_) (fun c35 => ?_)
  · replace hf := m36 c35
    obtain rfl := Option.some.inj hf
    obtain rfl := Option.some.inj (mm_wxR hx3)
    exact MM.sub [] (by rfl) K5
  · replace hf := m37 c35
    refine MM.iload rfl d_X_trySeconds_10 rfl ?_
    refine MM.bipush bp_10 d_X_trySeconds_12 rfl ?_
    refine MM.idiv (by decide) d_X_trySeconds_14 rfl ?_
    obtain ⟨y7, e8, hf⟩ := mm_letE hf
    refine MM.istore (lv' := [(5, .int y7), (0, .ref 32), (1, .int x1), (2, .int x2), (3, .int x3), (4, .int s1.1)]) e8 (Nat.le_of_ble_eq_true rfl) rfl d_X_trySeconds_15 rfl ?_
    refine MM.iload rfl d_X_trySeconds_17 rfl ?_
    refine MM.bipush bp_10 d_X_trySeconds_19 rfl ?_
    refine MM.irem (by decide) d_X_trySeconds_21 rfl ?_
    obtain ⟨y9, e10, hf⟩ := mm_letE hf
    refine MM.istore (lv' := [(6, .int y9), (5, .int y7), (0, .ref 32), (1, .int x1), (2, .int x2), (3, .int x3), (4, .int s1.1)]) e10 (Nat.le_of_ble_eq_true rfl) rfl d_X_trySeconds_22 rfl ?_
    refine MM.aload_n (i := 0) rfl rfl d_X_trySeconds_24 rfl ?_
    refine MM.gR 8 9 tg_32 rq_8_2 rfl lays_8 ww_474 d_X_trySeconds_25 rfl ?_
    refine MM.aload_n (i := 0) rfl rfl d_X_trySeconds_28 rfl ?_
    obtain ⟨t11, e12, hf⟩ := mm_bind hf
    obtain ⟨e12, t_t11⟩ := mm_gTE e12
    refine MM.gT e12 tg_32 tq_14 lays_8 ww_486 d_X_trySeconds_29 rfl ?_
    refine MM.iload_n (i := 1) rfl rfl d_X_trySeconds_32 rfl ?_
    refine MM.iload rfl d_X_trySeconds_33 rfl ?_
    refine MM.iload rfl d_X_trySeconds_35 rfl ?_
    obtain ⟨v14, e13, hf⟩ := mm_bind hf
    refine MM.callV1 (T_St_mayTell V l 41 t11 x1 y7 y9 s1.2 _ e13) (fun _ _ q => q) cal_St_mayTell rfl tg_41 ct_4 ww_955 ww_954 ww_953 (by decide) (by simp [Value.category]) d_X_trySeconds_37 rfl ⟨rfl, rfl⟩ rfl ?_
    obtain ⟨j15, e34, hf⟩ := mm_bind hf
    have K16 : MM V l Y_X_trySeconds 4 0 0 Z0 95 [(0, .ref 32), (1, .int x1), (2, .int x2), (3, .int x3), (4, .int s1.1)] [] j15 := by
      obtain ⟨y32, e33, hf⟩ := mm_letE hf
      refine MM.iinc (k0 := 4) (lv' := [(4, .int y32), (0, .ref 32), (1, .int x1), (2, .int x2), (3, .int x3)]) (by rw [ic_1]; exact e33) rfl (Nat.le_of_ble_eq_true rfl) rfl d_X_trySeconds_95 rfl ?_
      refine MM.goto (tgt := 3) d_X_trySeconds_98 rfl ?_
      obtain rfl := Option.some.inj hf
      have h9 := mm_wxL hx3
      exact MM.sub [1, 2, 3, 4, 0] (by rfl) h9
    clear hf
    have hf := e34
    clear e34
    obtain ⟨m30, m31⟩ := mm_ifE hf
    refine MM.if_eq (tgt := 95) d_X_trySeconds_40 rfl rfl (fun c29 => ?_) (fun c29 => ?_)
    · replace hf := m30 c29
      obtain rfl := Option.some.inj hf
      exact MM.sub [2, 3, 4, 5, 6] (by rfl) K16
    · replace hf := m31 c29
      refine MM.aload_n (i := 0) rfl rfl d_X_trySeconds_43 rfl ?_
      refine MM.gR 8 9 tg_32 rq_8_2 rfl lays_8 ww_474 d_X_trySeconds_44 rfl ?_
      refine MM.getI 4 tg_41 lays_4 gq_4_5 ww_212 d_X_trySeconds_47 rfl ?_
      obtain ⟨y17, e18, hf⟩ := mm_letE hf
      refine MM.istore (lv' := [(7, .int y17), (6, .int y9), (5, .int y7), (0, .ref 32), (1, .int x1), (2, .int x2), (3, .int x3), (4, .int s1.1)]) e18 (Nat.le_of_ble_eq_true rfl) rfl d_X_trySeconds_50 rfl ?_
      refine MM.aload_n (i := 0) rfl rfl d_X_trySeconds_52 rfl ?_
      refine MM.gR 8 9 tg_32 rq_8_2 rfl lays_8 ww_474 d_X_trySeconds_53 rfl ?_
      refine MM.aload_n (i := 0) rfl rfl d_X_trySeconds_56 rfl ?_
      obtain ⟨t19, e20, hf⟩ := mm_bind hf
      obtain ⟨e20, t_t19⟩ := mm_gTE e20
      refine MM.gT e20 tg_32 tq_14 lays_8 ww_486 d_X_trySeconds_57 rfl ?_
      refine MM.iload_n (i := 1) rfl rfl d_X_trySeconds_60 rfl ?_
      refine MM.iload rfl d_X_trySeconds_61 rfl ?_
      refine MM.iload rfl d_X_trySeconds_63 rfl ?_
      obtain ⟨v22, e21, hf⟩ := mm_bind hf
      refine MM.callV0 (T_St_whisper V l 41 t19 x1 y7 y9 s1.2 _ e21) (fun _ _ q => q) cal_St_whisper rfl tg_41 ct_4 ww_974 ww_973 ww_972 (by decide) (by simp [Value.category]) d_X_trySeconds_65 rfl ⟨rfl, rfl⟩ rfl ?_
      refine MM.aload_n (i := 0) rfl rfl d_X_trySeconds_68 rfl ?_
      refine MM.aload_n (i := 0) rfl rfl d_X_trySeconds_69 rfl ?_
      refine MM.iload_n (i := 1) rfl rfl d_X_trySeconds_70 rfl ?_
      refine MM.iload_n (i := 2) rfl rfl d_X_trySeconds_71 rfl ?_
      obtain ⟨v24, e23, hf⟩ := mm_bind hf
      refine MM.callV1 (T_X_gain V l x1 x2 v22 _ e23) (fun _ _ q => q) cal_X_gain rfl tg_32 ct_8 ww_33 ww_1333 ww_1331 (by decide) (by simp [Value.category]) d_X_trySeconds_72 rfl ⟨rfl, rfl⟩ rfl ?_
      refine MM.iconst ic_2 d_X_trySeconds_75 rfl ?_
      refine MM.iload_n (i := 3) rfl rfl d_X_trySeconds_76 rfl ?_
      refine MM.iload rfl d_X_trySeconds_77 rfl ?_
      obtain ⟨v26, e25, hf⟩ := mm_bind hf
      refine MM.callV0 (T_X_keepGain V l v24.1 2 x3 s1.1 v24.2 _ e25) (fun _ _ q => q) cal_X_keepGain rfl tg_32 ct_8 ww_35 ww_1341 ww_1339 (by decide) (by simp [Value.category]) d_X_trySeconds_79 rfl ⟨rfl, rfl⟩ rfl ?_
      refine MM.aload_n (i := 0) rfl rfl d_X_trySeconds_82 rfl ?_
      refine MM.gR 8 9 tg_32 rq_8_2 rfl lays_8 ww_474 d_X_trySeconds_83 rfl ?_
      refine MM.iload rfl d_X_trySeconds_86 rfl ?_
      refine MM.iload rfl d_X_trySeconds_88 rfl ?_
      refine MM.iload rfl d_X_trySeconds_90 rfl ?_
      obtain ⟨v28, e27, hf⟩ := mm_bind hf
      refine MM.callV0 (T_St_forget V l 41 y7 y9 y17 v26 _ e27) (fun _ _ q => q) cal_St_forget rfl tg_41 ct_4 ww_1349 ww_1348 ww_1347 (by decide) (by simp [Value.category]) d_X_trySeconds_92 rfl ⟨rfl, rfl⟩ rfl ?_
      obtain rfl := Option.some.inj hf
      exact MM.sub [3, 4, 5, 6, 7] (by rfl) K16
theorem d_X_tryFirst_0 : decode cX11_tryFirst 0 = .ok (.iload 4, 2) := by decide +kernel
theorem d_X_tryFirst_2 : decode cX11_tryFirst 2 = .ok (.bipush 10, 2) := by decide +kernel
theorem d_X_tryFirst_4 : decode cX11_tryFirst 4 = .ok (.idiv, 1) := by decide +kernel
theorem d_X_tryFirst_5 : decode cX11_tryFirst 5 = .ok (.istore 5, 2) := by decide +kernel
theorem d_X_tryFirst_7 : decode cX11_tryFirst 7 = .ok (.iload 4, 2) := by decide +kernel
theorem d_X_tryFirst_9 : decode cX11_tryFirst 9 = .ok (.bipush 10, 2) := by decide +kernel
theorem d_X_tryFirst_11 : decode cX11_tryFirst 11 = .ok (.irem, 1) := by decide +kernel
theorem d_X_tryFirst_12 : decode cX11_tryFirst 12 = .ok (.istore 6, 2) := by decide +kernel
theorem d_X_tryFirst_14 : decode cX11_tryFirst 14 = .ok (.aload_n 0, 1) := by decide +kernel
theorem d_X_tryFirst_15 : decode cX11_tryFirst 15 = .ok (.getfield 23, 3) := by decide +kernel
theorem d_X_tryFirst_18 : decode cX11_tryFirst 18 = .ok (.aload_n 0, 1) := by decide +kernel
theorem d_X_tryFirst_19 : decode cX11_tryFirst 19 = .ok (.getfield 81, 3) := by decide +kernel
theorem d_X_tryFirst_22 : decode cX11_tryFirst 22 = .ok (.iload_n 1, 1) := by decide +kernel
theorem d_X_tryFirst_23 : decode cX11_tryFirst 23 = .ok (.iload 5, 2) := by decide +kernel
theorem d_X_tryFirst_25 : decode cX11_tryFirst 25 = .ok (.iload 6, 2) := by decide +kernel
theorem d_X_tryFirst_27 : decode cX11_tryFirst 27 = .ok (.invokevirtual 216, 3) := by decide +kernel
theorem d_X_tryFirst_30 : decode cX11_tryFirst 30 = .ok (.ifCond .ne 4, 3) := by decide +kernel
theorem d_X_tryFirst_33 : decode cX11_tryFirst 33 = .ok (.return_, 1) := by decide +kernel
theorem d_X_tryFirst_34 : decode cX11_tryFirst 34 = .ok (.aload_n 0, 1) := by decide +kernel
theorem d_X_tryFirst_35 : decode cX11_tryFirst 35 = .ok (.getfield 23, 3) := by decide +kernel
theorem d_X_tryFirst_38 : decode cX11_tryFirst 38 = .ok (.getfield 196, 3) := by decide +kernel
theorem d_X_tryFirst_41 : decode cX11_tryFirst 41 = .ok (.istore 7, 2) := by decide +kernel
theorem d_X_tryFirst_43 : decode cX11_tryFirst 43 = .ok (.aload_n 0, 1) := by decide +kernel
theorem d_X_tryFirst_44 : decode cX11_tryFirst 44 = .ok (.getfield 23, 3) := by decide +kernel
theorem d_X_tryFirst_47 : decode cX11_tryFirst 47 = .ok (.aload_n 0, 1) := by decide +kernel
theorem d_X_tryFirst_48 : decode cX11_tryFirst 48 = .ok (.getfield 81, 3) := by decide +kernel
theorem d_X_tryFirst_51 : decode cX11_tryFirst 51 = .ok (.iload_n 1, 1) := by decide +kernel
theorem d_X_tryFirst_52 : decode cX11_tryFirst 52 = .ok (.iload 5, 2) := by decide +kernel
theorem d_X_tryFirst_54 : decode cX11_tryFirst 54 = .ok (.iload 6, 2) := by decide +kernel
theorem d_X_tryFirst_56 : decode cX11_tryFirst 56 = .ok (.invokevirtual 223, 3) := by decide +kernel
theorem d_X_tryFirst_59 : decode cX11_tryFirst 59 = .ok (.iload_n 3, 1) := by decide +kernel
theorem d_X_tryFirst_60 : decode cX11_tryFirst 60 = .ok (.iconst 1, 1) := by decide +kernel
theorem d_X_tryFirst_61 : decode cX11_tryFirst 61 = .ok (.if_icmp .ne 20, 3) := by decide +kernel
theorem d_X_tryFirst_64 : decode cX11_tryFirst 64 = .ok (.aload_n 0, 1) := by decide +kernel
theorem d_X_tryFirst_65 : decode cX11_tryFirst 65 = .ok (.aload_n 0, 1) := by decide +kernel
theorem d_X_tryFirst_66 : decode cX11_tryFirst 66 = .ok (.iload_n 1, 1) := by decide +kernel
theorem d_X_tryFirst_67 : decode cX11_tryFirst 67 = .ok (.iload_n 2, 1) := by decide +kernel
theorem d_X_tryFirst_68 : decode cX11_tryFirst 68 = .ok (.invokevirtual 368, 3) := by decide +kernel
theorem d_X_tryFirst_71 : decode cX11_tryFirst 71 = .ok (.iconst 1, 1) := by decide +kernel
theorem d_X_tryFirst_72 : decode cX11_tryFirst 72 = .ok (.iload 4, 2) := by decide +kernel
theorem d_X_tryFirst_74 : decode cX11_tryFirst 74 = .ok (.iconst (-1), 1) := by decide +kernel
theorem d_X_tryFirst_75 : decode cX11_tryFirst 75 = .ok (.invokevirtual 375, 3) := by decide +kernel
theorem d_X_tryFirst_78 : decode cX11_tryFirst 78 = .ok (.goto 11, 3) := by decide +kernel
theorem d_X_tryFirst_81 : decode cX11_tryFirst 81 = .ok (.aload_n 0, 1) := by decide +kernel
theorem d_X_tryFirst_82 : decode cX11_tryFirst 82 = .ok (.iload_n 1, 1) := by decide +kernel
theorem d_X_tryFirst_83 : decode cX11_tryFirst 83 = .ok (.iload_n 2, 1) := by decide +kernel
theorem d_X_tryFirst_84 : decode cX11_tryFirst 84 = .ok (.iload 4, 2) := by decide +kernel
theorem d_X_tryFirst_86 : decode cX11_tryFirst 86 = .ok (.invokevirtual 378, 3) := by decide +kernel
theorem d_X_tryFirst_89 : decode cX11_tryFirst 89 = .ok (.aload_n 0, 1) := by decide +kernel
theorem d_X_tryFirst_90 : decode cX11_tryFirst 90 = .ok (.getfield 23, 3) := by decide +kernel
theorem d_X_tryFirst_93 : decode cX11_tryFirst 93 = .ok (.iload 5, 2) := by decide +kernel
theorem d_X_tryFirst_95 : decode cX11_tryFirst 95 = .ok (.iload 6, 2) := by decide +kernel
theorem d_X_tryFirst_97 : decode cX11_tryFirst 97 = .ok (.iload 7, 2) := by decide +kernel
theorem d_X_tryFirst_99 : decode cX11_tryFirst 99 = .ok (.invokevirtual 381, 3) := by decide +kernel
theorem d_X_tryFirst_102 : decode cX11_tryFirst 102 = .ok (.return_, 1) := by decide +kernel
noncomputable def f_X_tryFirst (x1 : Int32) (x2 : Int32) (x3 : Int32) (x4 : Int32) (h : mm_H) : Option mm_H := mm_let (x4 / 10) fun y1 => mm_let (x4 - x4 / 10 * 10) fun y3 => (mm_gT h 14).bind fun t5 => (f_St_mayTell 41 t5 x1 y1 y3 h).bind fun v8 => if v8 = 0 then (some h) else (mm_let (h.1 41 5) fun y9 => (mm_gT h 14).bind fun t11 => (f_St_whisper 41 t11 x1 y1 y3 h).bind fun v14 => (if x3 = 1 then ((f_X_gain x1 x2 v14).bind fun v20 => (f_X_keepGain v20.1 1 x4 (-1) v20.2).bind fun v22 => some v22) else ((f_X_trySeconds x1 x2 x4 v14).bind fun v18 => some v18) : Option mm_H).bind fun j15 => (f_St_forget 41 y1 y3 y9 j15).bind fun v27 => some v27)
theorem T_X_tryFirst (V : mm_V) (l : Launch) (x1 : Int32) (x2 : Int32) (x3 : Int32) (x4 : Int32) (h : mm_H) (r : mm_H) (hf : f_X_tryFirst x1 x2 x3 x4 h = some r) : MT V l Y_X_tryFirst 5 [.ref 32, .int x1, .int x2, .int x3, .int x4] (fun r1 h1 => r1 = none ∧ h1 = r) h := by
  unfold f_X_tryFirst at hf
  refine MT.intro (pn_X rfl) [(0, .ref 32), (1, .int x1), (2, .int x2), (3, .int x3), (4, .int x4)] rfl (Nat.le_of_ble_eq_true rfl) ?_
  generalize hZ : mm_Z V _ = Z0
  refine MM.iload rfl d_X_tryFirst_0 rfl ?_
  refine MM.bipush bp_10 d_X_tryFirst_2 rfl ?_
  refine MM.idiv (by decide) d_X_tryFirst_4 rfl ?_
  obtain ⟨y1, e2, hf⟩ := mm_letE hf
  refine MM.istore (lv' := [(5, .int y1), (0, .ref 32), (1, .int x1), (2, .int x2), (3, .int x3), (4, .int x4)]) e2 (Nat.le_of_ble_eq_true rfl) rfl d_X_tryFirst_5 rfl ?_
  refine MM.iload rfl d_X_tryFirst_7 rfl ?_
  refine MM.bipush bp_10 d_X_tryFirst_9 rfl ?_
  refine MM.irem (by decide) d_X_tryFirst_11 rfl ?_
  obtain ⟨y3, e4, hf⟩ := mm_letE hf
  refine MM.istore (lv' := [(6, .int y3), (5, .int y1), (0, .ref 32), (1, .int x1), (2, .int x2), (3, .int x3), (4, .int x4)]) e4 (Nat.le_of_ble_eq_true rfl) rfl d_X_tryFirst_12 rfl ?_
  refine MM.aload_n (i := 0) rfl rfl d_X_tryFirst_14 rfl ?_
  refine MM.gR 8 9 tg_32 rq_8_2 rfl lays_8 ww_474 d_X_tryFirst_15 rfl ?_
  refine MM.aload_n (i := 0) rfl rfl d_X_tryFirst_18 rfl ?_
  obtain ⟨t5, e6, hf⟩ := mm_bind hf
  obtain ⟨e6, t_t5⟩ := mm_gTE e6
  refine MM.gT e6 tg_32 tq_14 lays_8 ww_486 d_X_tryFirst_19 rfl ?_
  refine MM.iload_n (i := 1) rfl rfl d_X_tryFirst_22 rfl ?_
  refine MM.iload rfl d_X_tryFirst_23 rfl ?_
  refine MM.iload rfl d_X_tryFirst_25 rfl ?_
  obtain ⟨v8, e7, hf⟩ := mm_bind hf
  refine MM.callV1 (T_St_mayTell V l 41 t5 x1 y1 y3 h _ e7) (fun _ _ q => q) cal_St_mayTell rfl tg_41 ct_4 ww_955 ww_954 ww_953 (by decide) (by simp [Value.category]) d_X_tryFirst_27 rfl ⟨rfl, rfl⟩ rfl ?_
  obtain ⟨m30, m31⟩ := mm_ifE hf
  refine MM.if_ne (tgt := 34) d_X_tryFirst_30 rfl rfl (fun c29 => ?_) (fun c29 => ?_)
  · replace hf := m31 c29
    refine MM.aload_n (i := 0) rfl rfl d_X_tryFirst_34 rfl ?_
    refine MM.gR 8 9 tg_32 rq_8_2 rfl lays_8 ww_474 d_X_tryFirst_35 rfl ?_
    refine MM.getI 4 tg_41 lays_4 gq_4_5 ww_212 d_X_tryFirst_38 rfl ?_
    obtain ⟨y9, e10, hf⟩ := mm_letE hf
    refine MM.istore (lv' := [(7, .int y9), (6, .int y3), (5, .int y1), (0, .ref 32), (1, .int x1), (2, .int x2), (3, .int x3), (4, .int x4)]) e10 (Nat.le_of_ble_eq_true rfl) rfl d_X_tryFirst_41 rfl ?_
    refine MM.aload_n (i := 0) rfl rfl d_X_tryFirst_43 rfl ?_
    refine MM.gR 8 9 tg_32 rq_8_2 rfl lays_8 ww_474 d_X_tryFirst_44 rfl ?_
    refine MM.aload_n (i := 0) rfl rfl d_X_tryFirst_47 rfl ?_
    obtain ⟨t11, e12, hf⟩ := mm_bind hf
    obtain ⟨e12, t_t11⟩ := mm_gTE e12
    refine MM.gT e12 tg_32 tq_14 lays_8 ww_486 d_X_tryFirst_48 rfl ?_
    refine MM.iload_n (i := 1) rfl rfl d_X_tryFirst_51 rfl ?_
    refine MM.iload rfl d_X_tryFirst_52 rfl ?_
    refine MM.iload rfl d_X_tryFirst_54 rfl ?_
    obtain ⟨v14, e13, hf⟩ := mm_bind hf
    refine MM.callV0 (T_St_whisper V l 41 t11 x1 y1 y3 h _ e13) (fun _ _ q => q) cal_St_whisper rfl tg_41 ct_4 ww_974 ww_973 ww_972 (by decide) (by simp [Value.category]) d_X_tryFirst_56 rfl ⟨rfl, rfl⟩ rfl ?_
    refine MM.iload_n (i := 3) rfl rfl d_X_tryFirst_59 rfl ?_
    refine MM.iconst ic_1 d_X_tryFirst_60 rfl ?_
    obtain ⟨j15, e28, hf⟩ := mm_bind hf
    have K16 : MM V l Y_X_tryFirst 5 0 0 Z0 89 [(0, .ref 32), (5, .int y1), (6, .int y3), (7, .int y9)] [] j15 := by
      refine MM.aload_n (i := 0) rfl rfl d_X_tryFirst_89 rfl ?_
      refine MM.gR 8 9 tg_32 rq_8_2 rfl lays_8 ww_474 d_X_tryFirst_90 rfl ?_
      refine MM.iload rfl d_X_tryFirst_93 rfl ?_
      refine MM.iload rfl d_X_tryFirst_95 rfl ?_
      refine MM.iload rfl d_X_tryFirst_97 rfl ?_
      obtain ⟨v27, e26, hf⟩ := mm_bind hf
      refine MM.callV0 (T_St_forget V l 41 y1 y3 y9 j15 _ e26) (fun _ _ q => q) cal_St_forget rfl tg_41 ct_4 ww_1349 ww_1348 ww_1347 (by decide) (by simp [Value.category]) d_X_tryFirst_99 rfl ⟨rfl, rfl⟩ rfl ?_
      obtain rfl := Option.some.inj hf
      subst hZ
      exact MM.vret rfl d_X_tryFirst_102 ⟨rfl, rfl⟩
    clear hf
    have hf := e28
    clear e28
    obtain ⟨m24, m25⟩ := mm_ifE hf
    refine MM.icmp_ne (tgt := 81) d_X_tryFirst_61 rfl rfl (fun c23 => ?_) (fun c23 => ?_)
    · replace hf := m25 c23
      refine MM.aload_n (i := 0) rfl rfl d_X_tryFirst_81 rfl ?_
      refine MM.iload_n (i := 1) rfl rfl d_X_tryFirst_82 rfl ?_
      refine MM.iload_n (i := 2) rfl rfl d_X_tryFirst_83 rfl ?_
      refine MM.iload rfl d_X_tryFirst_84 rfl ?_
      obtain ⟨v18, e17, hf⟩ := mm_bind hf
      refine MM.callV0 (T_X_trySeconds V l x1 x2 x4 v14 _ e17) (fun _ _ q => q) cal_X_trySeconds rfl tg_32 ct_8 ww_36 ww_1345 ww_1343 (by decide) (by simp [Value.category]) d_X_tryFirst_86 rfl ⟨rfl, rfl⟩ rfl ?_
      obtain rfl := Option.some.inj hf
      exact MM.sub [3, 2, 1, 0] (by rfl) K16
    · replace hf := m24 c23
      refine MM.aload_n (i := 0) rfl rfl d_X_tryFirst_64 rfl ?_
      refine MM.aload_n (i := 0) rfl rfl d_X_tryFirst_65 rfl ?_
      refine MM.iload_n (i := 1) rfl rfl d_X_tryFirst_66 rfl ?_
      refine MM.iload_n (i := 2) rfl rfl d_X_tryFirst_67 rfl ?_
      obtain ⟨v20, e19, hf⟩ := mm_bind hf
      refine MM.callV1 (T_X_gain V l x1 x2 v14 _ e19) (fun _ _ q => q) cal_X_gain rfl tg_32 ct_8 ww_33 ww_1333 ww_1331 (by decide) (by simp [Value.category]) d_X_tryFirst_68 rfl ⟨rfl, rfl⟩ rfl ?_
      refine MM.iconst ic_1 d_X_tryFirst_71 rfl ?_
      refine MM.iload rfl d_X_tryFirst_72 rfl ?_
      refine MM.iconst ic_m1 d_X_tryFirst_74 rfl ?_
      obtain ⟨v22, e21, hf⟩ := mm_bind hf
      refine MM.callV0 (T_X_keepGain V l v20.1 1 x4 (-1) v20.2 _ e21) (fun _ _ q => q) cal_X_keepGain rfl tg_32 ct_8 ww_35 ww_1341 ww_1339 (by decide) (by simp [Value.category]) d_X_tryFirst_75 rfl ⟨rfl, rfl⟩ rfl ?_
      refine MM.goto (tgt := 89) d_X_tryFirst_78 rfl ?_
      obtain rfl := Option.some.inj hf
      exact MM.sub [3, 2, 1, 0] (by rfl) K16
  · replace hf := m30 c29
    obtain rfl := Option.some.inj hf
    subst hZ
    exact MM.vret rfl d_X_tryFirst_33 ⟨rfl, rfl⟩
theorem d_X_scheme_0 : decode cX11_scheme 0 = .ok (.aload_n 0, 1) := by decide +kernel
theorem d_X_scheme_1 : decode cX11_scheme 1 = .ok (.getfield 23, 3) := by decide +kernel
theorem d_X_scheme_4 : decode cX11_scheme 4 = .ok (.aload_n 0, 1) := by decide +kernel
theorem d_X_scheme_5 : decode cX11_scheme 5 = .ok (.getfield 19, 3) := by decide +kernel
theorem d_X_scheme_8 : decode cX11_scheme 8 = .ok (.invokevirtual 251, 3) := by decide +kernel
theorem d_X_scheme_11 : decode cX11_scheme 11 = .ok (.aload_n 0, 1) := by decide +kernel
theorem d_X_scheme_12 : decode cX11_scheme 12 = .ok (.invokevirtual 365, 3) := by decide +kernel
theorem d_X_scheme_15 : decode cX11_scheme 15 = .ok (.aload_n 0, 1) := by decide +kernel
theorem d_X_scheme_16 : decode cX11_scheme 16 = .ok (.getfield 75, 3) := by decide +kernel
theorem d_X_scheme_19 : decode cX11_scheme 19 = .ok (.iconst 0, 1) := by decide +kernel
theorem d_X_scheme_20 : decode cX11_scheme 20 = .ok (.aload_n 0, 1) := by decide +kernel
theorem d_X_scheme_21 : decode cX11_scheme 21 = .ok (.iload_n 1, 1) := by decide +kernel
theorem d_X_scheme_22 : decode cX11_scheme 22 = .ok (.iload_n 2, 1) := by decide +kernel
theorem d_X_scheme_23 : decode cX11_scheme 23 = .ok (.invokevirtual 368, 3) := by decide +kernel
theorem d_X_scheme_26 : decode cX11_scheme 26 = .ok (.iastore, 1) := by decide +kernel
theorem d_X_scheme_27 : decode cX11_scheme 27 = .ok (.aload_n 0, 1) := by decide +kernel
theorem d_X_scheme_28 : decode cX11_scheme 28 = .ok (.getfield 75, 3) := by decide +kernel
theorem d_X_scheme_31 : decode cX11_scheme 31 = .ok (.iconst 1, 1) := by decide +kernel
theorem d_X_scheme_32 : decode cX11_scheme 32 = .ok (.iconst 0, 1) := by decide +kernel
theorem d_X_scheme_33 : decode cX11_scheme 33 = .ok (.iastore, 1) := by decide +kernel
theorem d_X_scheme_34 : decode cX11_scheme 34 = .ok (.aload_n 0, 1) := by decide +kernel
theorem d_X_scheme_35 : decode cX11_scheme 35 = .ok (.getfield 75, 3) := by decide +kernel
theorem d_X_scheme_38 : decode cX11_scheme 38 = .ok (.iconst 2, 1) := by decide +kernel
theorem d_X_scheme_39 : decode cX11_scheme 39 = .ok (.iconst (-1), 1) := by decide +kernel
theorem d_X_scheme_40 : decode cX11_scheme 40 = .ok (.iastore, 1) := by decide +kernel
theorem d_X_scheme_41 : decode cX11_scheme 41 = .ok (.aload_n 0, 1) := by decide +kernel
theorem d_X_scheme_42 : decode cX11_scheme 42 = .ok (.getfield 75, 3) := by decide +kernel
theorem d_X_scheme_45 : decode cX11_scheme 45 = .ok (.iconst 3, 1) := by decide +kernel
theorem d_X_scheme_46 : decode cX11_scheme 46 = .ok (.iconst (-1), 1) := by decide +kernel
theorem d_X_scheme_47 : decode cX11_scheme 47 = .ok (.iastore, 1) := by decide +kernel
theorem d_X_scheme_48 : decode cX11_scheme 48 = .ok (.iconst 1, 1) := by decide +kernel
theorem d_X_scheme_49 : decode cX11_scheme 49 = .ok (.istore 4, 2) := by decide +kernel
theorem d_X_scheme_51 : decode cX11_scheme 51 = .ok (.iload 4, 2) := by decide +kernel
theorem d_X_scheme_53 : decode cX11_scheme 53 = .ok (.iload_n 3, 1) := by decide +kernel
theorem d_X_scheme_54 : decode cX11_scheme 54 = .ok (.if_icmp .gt 35, 3) := by decide +kernel
theorem d_X_scheme_57 : decode cX11_scheme 57 = .ok (.iconst 0, 1) := by decide +kernel
theorem d_X_scheme_58 : decode cX11_scheme 58 = .ok (.istore 5, 2) := by decide +kernel
theorem d_X_scheme_60 : decode cX11_scheme 60 = .ok (.iload 5, 2) := by decide +kernel
theorem d_X_scheme_62 : decode cX11_scheme 62 = .ok (.bipush 60, 2) := by decide +kernel
theorem d_X_scheme_64 : decode cX11_scheme 64 = .ok (.if_icmp .ge 19, 3) := by decide +kernel
theorem d_X_scheme_67 : decode cX11_scheme 67 = .ok (.aload_n 0, 1) := by decide +kernel
theorem d_X_scheme_68 : decode cX11_scheme 68 = .ok (.iload_n 1, 1) := by decide +kernel
theorem d_X_scheme_69 : decode cX11_scheme 69 = .ok (.iload_n 2, 1) := by decide +kernel
theorem d_X_scheme_70 : decode cX11_scheme 70 = .ok (.iload 4, 2) := by decide +kernel
theorem d_X_scheme_72 : decode cX11_scheme 72 = .ok (.iload 5, 2) := by decide +kernel
theorem d_X_scheme_74 : decode cX11_scheme 74 = .ok (.invokevirtual 371, 3) := by decide +kernel
theorem d_X_scheme_77 : decode cX11_scheme 77 = .ok (.iinc 5 1, 3) := by decide +kernel
theorem d_X_scheme_80 : decode cX11_scheme 80 = .ok (.goto (-20), 3) := by decide +kernel
theorem d_X_scheme_83 : decode cX11_scheme 83 = .ok (.iinc 4 1, 3) := by decide +kernel
theorem d_X_scheme_86 : decode cX11_scheme 86 = .ok (.goto (-35), 3) := by decide +kernel
theorem d_X_scheme_89 : decode cX11_scheme 89 = .ok (.return_, 1) := by decide +kernel
noncomputable def f_X_scheme (x1 : Int32) (x2 : Int32) (x3 : Int32) (h : mm_H) : Option mm_H := (f_St_copyFrom 41 35 h).bind fun v2 => (f_X_fillLawful v2).bind fun v4 => (f_X_gain x1 x2 v4).bind fun v6 => mm_let (mm_pI v6.2 78 0 v6.1) fun h7 => mm_let (mm_pI h7 78 1 0) fun h9 => mm_let (mm_pI h9 78 2 (-1)) fun h11 => mm_let (mm_pI h11 78 3 (-1)) fun h13 => (mm_while (σ := (Int32 × mm_H)) (ρ := mm_H) (fun s15 => if x3 < s15.1 then (some (Sum.inr s15.2)) else ((mm_while (σ := (Int32 × mm_H)) (ρ := mm_H) (fun s21 => if 60 ≤ s21.1 then (some (Sum.inr s21.2)) else ((f_X_tryFirst x1 x2 s15.1 s21.1 s21.2).bind fun v28 => mm_let (s21.1 + 1) fun y29 => some (Sum.inl (y29, v28)))) (0, s15.2)).bind fun v24 => mm_let (s15.1 + 1) fun y34 => some (Sum.inl (y34, v24)))) (1, h13)).bind fun v18 => some v18
theorem T_X_scheme (V : mm_V) (l : Launch) (x1 : Int32) (x2 : Int32) (x3 : Int32) (h : mm_H) (r : mm_H) (hf : f_X_scheme x1 x2 x3 h = some r) : MT V l Y_X_scheme 6 [.ref 32, .int x1, .int x2, .int x3] (fun r1 h1 => r1 = none ∧ h1 = r) h := by
  unfold f_X_scheme at hf
  refine MT.intro (pn_X rfl) [(0, .ref 32), (1, .int x1), (2, .int x2), (3, .int x3)] rfl (Nat.le_of_ble_eq_true rfl) ?_
  generalize hZ : mm_Z V _ = Z0
  refine MM.aload_n (i := 0) rfl rfl d_X_scheme_0 rfl ?_
  refine MM.gR 8 9 tg_32 rq_8_2 rfl lays_8 ww_474 d_X_scheme_1 rfl ?_
  refine MM.aload_n (i := 0) rfl rfl d_X_scheme_4 rfl ?_
  refine MM.gR 8 3 tg_32 rq_8_1 rfl lays_8 ww_473 d_X_scheme_5 rfl ?_
  obtain ⟨v2, e1, hf⟩ := mm_bind hf
  refine MM.callV0 (T_St_copyFrom V l 41 35 h _ e1) (fun _ _ q => q) cal_St_copyFrom rfl tg_41 ct_4 ww_969 ww_968 ww_967 (by decide) (by simp [Value.category]) d_X_scheme_8 rfl ⟨rfl, rfl⟩ rfl ?_
  refine MM.aload_n (i := 0) rfl rfl d_X_scheme_11 rfl ?_
  obtain ⟨v4, e3, hf⟩ := mm_bind hf
  refine MM.callV0 (T_X_fillLawful V l  v2 _ e3) (fun _ _ q => q) cal_X_fillLawful rfl tg_32 ct_8 ww_32 ww_1328 ww_1326 (by decide) (by simp [Value.category]) d_X_scheme_12 rfl ⟨rfl, rfl⟩ rfl ?_
  refine MM.aload_n (i := 0) rfl rfl d_X_scheme_15 rfl ?_
  refine MM.gR 8 46 tg_32 rq_8_13 rfl lays_8 ww_485 d_X_scheme_16 rfl ?_
  refine MM.iconst ic_0 d_X_scheme_19 rfl ?_
  refine MM.aload_n (i := 0) rfl rfl d_X_scheme_20 rfl ?_
  refine MM.iload_n (i := 1) rfl rfl d_X_scheme_21 rfl ?_
  refine MM.iload_n (i := 2) rfl rfl d_X_scheme_22 rfl ?_
  obtain ⟨v6, e5, hf⟩ := mm_bind hf
  refine MM.callV1 (T_X_gain V l x1 x2 v4 _ e5) (fun _ _ q => q) cal_X_gain rfl tg_32 ct_8 ww_33 ww_1333 ww_1331 (by decide) (by simp [Value.category]) d_X_scheme_23 rfl ⟨rfl, rfl⟩ rfl ?_
  obtain ⟨h7, e8, hf⟩ := mm_letE hf
  refine MM.sI ix_0_4 e8 al_78 d_X_scheme_26 rfl ?_
  refine MM.aload_n (i := 0) rfl rfl d_X_scheme_27 rfl ?_
  refine MM.gR 8 46 tg_32 rq_8_13 rfl lays_8 ww_485 d_X_scheme_28 rfl ?_
  refine MM.iconst ic_1 d_X_scheme_31 rfl ?_
  refine MM.iconst ic_0 d_X_scheme_32 rfl ?_
  obtain ⟨h9, e10, hf⟩ := mm_letE hf
  refine MM.sI ix_1_4 e10 al_78 d_X_scheme_33 rfl ?_
  refine MM.aload_n (i := 0) rfl rfl d_X_scheme_34 rfl ?_
  refine MM.gR 8 46 tg_32 rq_8_13 rfl lays_8 ww_485 d_X_scheme_35 rfl ?_
  refine MM.iconst ic_2 d_X_scheme_38 rfl ?_
  refine MM.iconst ic_m1 d_X_scheme_39 rfl ?_
  obtain ⟨h11, e12, hf⟩ := mm_letE hf
  refine MM.sI ix_2_4 e12 al_78 d_X_scheme_40 rfl ?_
  refine MM.aload_n (i := 0) rfl rfl d_X_scheme_41 rfl ?_
  refine MM.gR 8 46 tg_32 rq_8_13 rfl lays_8 ww_485 d_X_scheme_42 rfl ?_
  refine MM.iconst ic_3 d_X_scheme_45 rfl ?_
  refine MM.iconst ic_m1 d_X_scheme_46 rfl ?_
  obtain ⟨h13, e14, hf⟩ := mm_letE hf
  refine MM.sI ix_3_4 e14 al_78 d_X_scheme_47 rfl ?_
  refine MM.iconst ic_1 d_X_scheme_48 rfl ?_
  refine MM.istore (lv' := [(4, .int 1), (0, .ref 32), (1, .int x1), (2, .int x2), (3, .int x3)]) rfl (Nat.le_of_ble_eq_true rfl) rfl d_X_scheme_49 rfl ?_
  obtain ⟨v18, e20, hf⟩ := mm_bind hf
  have K19 : MM V l Y_X_scheme 6 0 0 Z0 89 [] [] v18 := by
    obtain rfl := Option.some.inj hf
    subst hZ
    exact MM.vret rfl d_X_scheme_89 ⟨rfl, rfl⟩
  clear hf
  refine MM.sub [1, 2, 3, 4, 0] (by rfl) (mm_while_ind (fun s15 => MM V l Y_X_scheme 6 0 0 Z0 51 [(0, .ref 32), (1, .int x1), (2, .int x2), (3, .int x3), (4, .int s15.1)] [] s15.2) e20 (fun s15 q16 hf hx17 => ?_))
  refine MM.iload rfl d_X_scheme_51 rfl ?_
  refine MM.iload_n (i := 3) rfl rfl d_X_scheme_53 rfl ?_
  obtain ⟨m37, m38⟩ := mm_ifE hf
  refine MM.icmp_gt (tgt := 89) d_X_scheme_54 rfl rfl (fun c36 => ?_) (fun c36 => ?_)
  · replace hf := m37 c36
    obtain rfl := Option.some.inj hf
    obtain rfl := Option.some.inj (mm_wxR hx17)
    exact MM.sub [] (by rfl) K19
  · replace hf := m38 c36
    refine MM.iconst ic_0 d_X_scheme_57 rfl ?_
    refine MM.istore (lv' := [(5, .int 0), (0, .ref 32), (1, .int x1), (2, .int x2), (3, .int x3), (4, .int s15.1)]) rfl (Nat.le_of_ble_eq_true rfl) rfl d_X_scheme_58 rfl ?_
    obtain ⟨v24, e26, hf⟩ := mm_bind hf
    have K25 : MM V l Y_X_scheme 6 0 0 Z0 83 [(0, .ref 32), (1, .int x1), (2, .int x2), (3, .int x3), (4, .int s15.1)] [] v24 := by
      obtain ⟨y34, e35, hf⟩ := mm_letE hf
      refine MM.iinc (k0 := 4) (lv' := [(4, .int y34), (0, .ref 32), (1, .int x1), (2, .int x2), (3, .int x3)]) (by rw [ic_1]; exact e35) rfl (Nat.le_of_ble_eq_true rfl) rfl d_X_scheme_83 rfl ?_
      refine MM.goto (tgt := 51) d_X_scheme_86 rfl ?_
      obtain rfl := Option.some.inj hf
      have h9 := mm_wxL hx17
      exact MM.sub [1, 2, 3, 4, 0] (by rfl) h9
    clear hf
    refine MM.sub [1, 2, 3, 4, 5, 0] (by rfl) (mm_while_ind (fun s21 => MM V l Y_X_scheme 6 0 0 Z0 60 [(0, .ref 32), (1, .int x1), (2, .int x2), (3, .int x3), (4, .int s15.1), (5, .int s21.1)] [] s21.2) e26 (fun s21 q22 hf hx23 => ?_))
    refine MM.iload rfl d_X_scheme_60 rfl ?_
    refine MM.bipush bp_60 d_X_scheme_62 rfl ?_
    obtain ⟨m32, m33⟩ := mm_ifE hf
    refine MM.icmp_ge (tgt := 83) d_X_scheme_64 rfl rfl (fun c31 => ?_) (fun c31 => ?_)
    · replace hf := m32 c31
      obtain rfl := Option.some.inj hf
      obtain rfl := Option.some.inj (mm_wxR hx23)
      exact MM.sub [0, 1, 2, 3, 4] (by rfl) K25
    · replace hf := m33 c31
      refine MM.aload_n (i := 0) rfl rfl d_X_scheme_67 rfl ?_
      refine MM.iload_n (i := 1) rfl rfl d_X_scheme_68 rfl ?_
      refine MM.iload_n (i := 2) rfl rfl d_X_scheme_69 rfl ?_
      refine MM.iload rfl d_X_scheme_70 rfl ?_
      refine MM.iload rfl d_X_scheme_72 rfl ?_
      obtain ⟨v28, e27, hf⟩ := mm_bind hf
      refine MM.callV0 (T_X_tryFirst V l x1 x2 s15.1 s21.1 s21.2 _ e27) (fun _ _ q => q) cal_X_tryFirst rfl tg_32 ct_8 ww_34 ww_1337 ww_1335 (by decide) (by simp [Value.category]) d_X_scheme_74 rfl ⟨rfl, rfl⟩ rfl ?_
      obtain ⟨y29, e30, hf⟩ := mm_letE hf
      refine MM.iinc (k0 := 5) (lv' := [(5, .int y29), (0, .ref 32), (1, .int x1), (2, .int x2), (3, .int x3), (4, .int s15.1)]) (by rw [ic_1]; exact e30) rfl (Nat.le_of_ble_eq_true rfl) rfl d_X_scheme_77 rfl ?_
      refine MM.goto (tgt := 60) d_X_scheme_80 rfl ?_
      obtain rfl := Option.some.inj hf
      have h9 := mm_wxL hx23
      exact MM.sub [1, 2, 3, 4, 5, 0] (by rfl) h9
theorem d_X_plot_0 : decode cX11_plot 0 = .ok (.aload_n 0, 1) := by decide +kernel
theorem d_X_plot_1 : decode cX11_plot 1 = .ok (.getfield 81, 3) := by decide +kernel
theorem d_X_plot_4 : decode cX11_plot 4 = .ok (.iload_n 1, 1) := by decide +kernel
theorem d_X_plot_5 : decode cX11_plot 5 = .ok (.iload_n 2, 1) := by decide +kernel
theorem d_X_plot_6 : decode cX11_plot 6 = .ok (.invokevirtual 205, 3) := by decide +kernel
theorem d_X_plot_9 : decode cX11_plot 9 = .ok (.ifCond .eq 23, 3) := by decide +kernel
theorem d_X_plot_12 : decode cX11_plot 12 = .ok (.iload_n 3, 1) := by decide +kernel
theorem d_X_plot_13 : decode cX11_plot 13 = .ok (.ifCond .lt 19, 3) := by decide +kernel
theorem d_X_plot_16 : decode cX11_plot 16 = .ok (.iload_n 3, 1) := by decide +kernel
theorem d_X_plot_17 : decode cX11_plot 17 = .ok (.iconst 2, 1) := by decide +kernel
theorem d_X_plot_18 : decode cX11_plot 18 = .ok (.if_icmp .gt 14, 3) := by decide +kernel
theorem d_X_plot_21 : decode cX11_plot 21 = .ok (.iload 4, 2) := by decide +kernel
theorem d_X_plot_23 : decode cX11_plot 23 = .ok (.ifCond .lt 9, 3) := by decide +kernel
theorem d_X_plot_26 : decode cX11_plot 26 = .ok (.iload 4, 2) := by decide +kernel
theorem d_X_plot_28 : decode cX11_plot 28 = .ok (.iconst 3, 1) := by decide +kernel
theorem d_X_plot_29 : decode cX11_plot 29 = .ok (.if_icmp .le 11, 3) := by decide +kernel
theorem d_X_plot_40 : decode cX11_plot 40 = .ok (.aload_n 0, 1) := by decide +kernel
theorem d_X_plot_41 : decode cX11_plot 41 = .ok (.iload_n 1, 1) := by decide +kernel
theorem d_X_plot_42 : decode cX11_plot 42 = .ok (.iload_n 2, 1) := by decide +kernel
theorem d_X_plot_43 : decode cX11_plot 43 = .ok (.iload_n 3, 1) := by decide +kernel
theorem d_X_plot_44 : decode cX11_plot 44 = .ok (.invokevirtual 270, 3) := by decide +kernel
theorem d_X_plot_47 : decode cX11_plot 47 = .ok (.aload_n 0, 1) := by decide +kernel
theorem d_X_plot_48 : decode cX11_plot 48 = .ok (.getfield 75, 3) := by decide +kernel
theorem d_X_plot_51 : decode cX11_plot 51 = .ok (.iload 4, 2) := by decide +kernel
theorem d_X_plot_53 : decode cX11_plot 53 = .ok (.iaload, 1) := by decide +kernel
theorem d_X_plot_54 : decode cX11_plot 54 = .ok (.ireturn, 1) := by decide +kernel
noncomputable def f_X_plot (x1 : Int32) (x2 : Int32) (x3 : Int32) (x4 : Int32) (h : mm_H) : Option (Int32 × mm_H) := (mm_gT h 14).bind fun t1 => (f_To_hasPair t1 x1 x2 h).bind fun v4 => if v4 = 0 then (none) else (if x3 < 0 then (none) else (if 2 < x3 then (none) else (if x4 < 0 then (none) else (if x4 ≤ 3 then ((f_X_scheme x1 x2 x3 h).bind fun v6 => (mm_ix x4 4).bind fun k7 => some ((v6.1 78 k7), v6)) else (none)))))
theorem T_X_plot (V : mm_V) (l : Launch) (x1 : Int32) (x2 : Int32) (x3 : Int32) (x4 : Int32) (h : mm_H) (r : (Int32 × mm_H)) (hf : f_X_plot x1 x2 x3 x4 h = some r) : MT V l Y_X_plot 7 [.ref 32, .int x1, .int x2, .int x3, .int x4] (fun r1 h1 => r1 = some (.int r.1) ∧ h1 = r.2) h := by
  unfold f_X_plot at hf
  refine MT.intro (pn_X rfl) [(0, .ref 32), (1, .int x1), (2, .int x2), (3, .int x3), (4, .int x4)] rfl (Nat.le_of_ble_eq_true rfl) ?_
  generalize hZ : mm_Z V _ = Z0
  refine MM.aload_n (i := 0) rfl rfl d_X_plot_0 rfl ?_
  obtain ⟨t1, e2, hf⟩ := mm_bind hf
  obtain ⟨e2, t_t1⟩ := mm_gTE e2
  refine MM.gT e2 tg_32 tq_14 lays_8 ww_486 d_X_plot_1 rfl ?_
  refine MM.iload_n (i := 1) rfl rfl d_X_plot_4 rfl ?_
  refine MM.iload_n (i := 2) rfl rfl d_X_plot_5 rfl ?_
  obtain ⟨v4, e3, hf⟩ := mm_bind hf
  refine MM.callV1 (T_To_hasPair V l t1 x1 x2 h _ e3) (fun _ _ q => q) cal_To_hasPair rfl t_t1 ct_7 ww_930 ww_929 ww_928 (by decide) (by simp [Value.category]) d_X_plot_6 rfl ⟨rfl, rfl⟩ rfl ?_
  obtain ⟨m22, m23⟩ := mm_ifE hf
  refine MM.if_eq (tgt := 32) d_X_plot_9 rfl rfl (fun c21 => ?_) (fun c21 => ?_)
  · replace hf := m22 c21
    cases hf
  · replace hf := m23 c21
    refine MM.iload_n (i := 3) rfl rfl d_X_plot_12 rfl ?_
    obtain ⟨m19, m20⟩ := mm_ifE hf
    refine MM.if_lt (tgt := 32) d_X_plot_13 rfl rfl (fun c18 => ?_) (fun c18 => ?_)
    · replace hf := m19 c18
      cases hf
    · replace hf := m20 c18
      refine MM.iload_n (i := 3) rfl rfl d_X_plot_16 rfl ?_
      refine MM.iconst ic_2 d_X_plot_17 rfl ?_
      obtain ⟨m16, m17⟩ := mm_ifE hf
      refine MM.icmp_gt (tgt := 32) d_X_plot_18 rfl rfl (fun c15 => ?_) (fun c15 => ?_)
      · replace hf := m16 c15
        cases hf
      · replace hf := m17 c15
        refine MM.iload rfl d_X_plot_21 rfl ?_
        obtain ⟨m13, m14⟩ := mm_ifE hf
        refine MM.if_lt (tgt := 32) d_X_plot_23 rfl rfl (fun c12 => ?_) (fun c12 => ?_)
        · replace hf := m13 c12
          cases hf
        · replace hf := m14 c12
          refine MM.iload rfl d_X_plot_26 rfl ?_
          refine MM.iconst ic_3 d_X_plot_28 rfl ?_
          obtain ⟨m10, m11⟩ := mm_ifE hf
          refine MM.icmp_le (tgt := 40) d_X_plot_29 rfl rfl (fun c9 => ?_) (fun c9 => ?_)
          · replace hf := m10 c9
            refine MM.aload_n (i := 0) rfl rfl d_X_plot_40 rfl ?_
            refine MM.iload_n (i := 1) rfl rfl d_X_plot_41 rfl ?_
            refine MM.iload_n (i := 2) rfl rfl d_X_plot_42 rfl ?_
            refine MM.iload_n (i := 3) rfl rfl d_X_plot_43 rfl ?_
            obtain ⟨v6, e5, hf⟩ := mm_bind hf
            refine MM.callV0 (T_X_scheme V l x1 x2 x3 h _ e5) (fun _ _ q => q) cal_X_scheme rfl tg_32 ct_8 ww_31 ww_1324 ww_1322 (by decide) (by simp [Value.category]) d_X_plot_44 rfl ⟨rfl, rfl⟩ rfl ?_
            refine MM.aload_n (i := 0) rfl rfl d_X_plot_47 rfl ?_
            refine MM.gR 8 46 tg_32 rq_8_13 rfl lays_8 ww_485 d_X_plot_48 rfl ?_
            refine MM.iload rfl d_X_plot_51 rfl ?_
            obtain ⟨k7, e8, hf⟩ := mm_bind hf
            refine MM.gI e8 al_78 d_X_plot_53 rfl ?_
            obtain rfl := Option.some.inj hf
            subst hZ
            exact MM.iret rfl d_X_plot_54 ⟨rfl, rfl⟩
          · replace hf := m11 c9
            cases hf
theorem d_Tk_addSeen_0 : decode cX6_addSeen 0 = .ok (.aload_n 0, 1) := by decide +kernel
theorem d_Tk_addSeen_1 : decode cX6_addSeen 1 = .ok (.getfield 28, 3) := by decide +kernel
theorem d_Tk_addSeen_4 : decode cX6_addSeen 4 = .ok (.bipush 10, 2) := by decide +kernel
theorem d_Tk_addSeen_6 : decode cX6_addSeen 6 = .ok (.if_icmp .lt 5, 3) := by decide +kernel
theorem d_Tk_addSeen_9 : decode cX6_addSeen 9 = .ok (.iconst 0, 1) := by decide +kernel
theorem d_Tk_addSeen_10 : decode cX6_addSeen 10 = .ok (.ireturn, 1) := by decide +kernel
theorem d_Tk_addSeen_11 : decode cX6_addSeen 11 = .ok (.aload_n 0, 1) := by decide +kernel
theorem d_Tk_addSeen_12 : decode cX6_addSeen 12 = .ok (.getfield 31, 3) := by decide +kernel
theorem d_Tk_addSeen_15 : decode cX6_addSeen 15 = .ok (.aload_n 0, 1) := by decide +kernel
theorem d_Tk_addSeen_16 : decode cX6_addSeen 16 = .ok (.getfield 28, 3) := by decide +kernel
theorem d_Tk_addSeen_19 : decode cX6_addSeen 19 = .ok (.iload_n 1, 1) := by decide +kernel
theorem d_Tk_addSeen_20 : decode cX6_addSeen 20 = .ok (.iastore, 1) := by decide +kernel
theorem d_Tk_addSeen_21 : decode cX6_addSeen 21 = .ok (.aload_n 0, 1) := by decide +kernel
theorem d_Tk_addSeen_22 : decode cX6_addSeen 22 = .ok (.getfield 34, 3) := by decide +kernel
theorem d_Tk_addSeen_25 : decode cX6_addSeen 25 = .ok (.aload_n 0, 1) := by decide +kernel
theorem d_Tk_addSeen_26 : decode cX6_addSeen 26 = .ok (.getfield 28, 3) := by decide +kernel
theorem d_Tk_addSeen_29 : decode cX6_addSeen 29 = .ok (.iload_n 2, 1) := by decide +kernel
theorem d_Tk_addSeen_30 : decode cX6_addSeen 30 = .ok (.ifCond .eq 7, 3) := by decide +kernel
theorem d_Tk_addSeen_33 : decode cX6_addSeen 33 = .ok (.iconst 1, 1) := by decide +kernel
theorem d_Tk_addSeen_34 : decode cX6_addSeen 34 = .ok (.goto 4, 3) := by decide +kernel
theorem d_Tk_addSeen_37 : decode cX6_addSeen 37 = .ok (.iconst 0, 1) := by decide +kernel
theorem d_Tk_addSeen_38 : decode cX6_addSeen 38 = .ok (.iastore, 1) := by decide +kernel
theorem d_Tk_addSeen_39 : decode cX6_addSeen 39 = .ok (.aload_n 0, 1) := by decide +kernel
theorem d_Tk_addSeen_40 : decode cX6_addSeen 40 = .ok (.dup, 1) := by decide +kernel
theorem d_Tk_addSeen_41 : decode cX6_addSeen 41 = .ok (.getfield 28, 3) := by decide +kernel
theorem d_Tk_addSeen_44 : decode cX6_addSeen 44 = .ok (.iconst 1, 1) := by decide +kernel
theorem d_Tk_addSeen_45 : decode cX6_addSeen 45 = .ok (.iadd, 1) := by decide +kernel
theorem d_Tk_addSeen_46 : decode cX6_addSeen 46 = .ok (.putfield 28, 3) := by decide +kernel
theorem d_Tk_addSeen_49 : decode cX6_addSeen 49 = .ok (.iconst 1, 1) := by decide +kernel
theorem d_Tk_addSeen_50 : decode cX6_addSeen 50 = .ok (.ireturn, 1) := by decide +kernel
noncomputable def f_Tk_addSeen (a0 : Nat) (x1 : Int32) (x2 : Int32) (h : mm_H) : Option (Int32 × mm_H) := if mm_tg a0 = 5 then (if (h.1 a0 5) < 10 then ((mm_ix (h.1 a0 5) 10).bind fun k1 => mm_let (mm_pI h (a0 + 5) k1 x1) fun h3 => (if x2 = 0 then (some 0) else (some 1) : Option Int32).bind fun j5 => (mm_ix (h3.1 a0 5) 10).bind fun k10 => mm_let (mm_pI h3 (a0 + 6) k10 j5) fun h12 => mm_let (mm_pI h12 a0 5 ((h12.1 a0 5) + 1)) fun h14 => some (1, h14)) else (some (0, h))) else none
theorem T_Tk_addSeen (V : mm_V) (l : Launch) (a0 : Nat) (x1 : Int32) (x2 : Int32) (h : mm_H) (r : (Int32 × mm_H)) (hf : f_Tk_addSeen a0 x1 x2 h = some r) : MT V l Y_Tk_addSeen 1 [.ref a0, .int x1, .int x2] (fun r1 h1 => r1 = some (.int r.1) ∧ h1 = r.2) h := by
  unfold f_Tk_addSeen at hf
  obtain ⟨t_a0, hf⟩ := mm_chkE hf
  refine MT.intro (pn_Tk rfl) [(0, .ref a0), (1, .int x1), (2, .int x2)] rfl (Nat.le_of_ble_eq_true rfl) ?_
  generalize hZ : mm_Z V _ = Z0
  refine MM.aload_n (i := 0) rfl rfl d_Tk_addSeen_0 rfl ?_
  refine MM.getI 5 t_a0 lays_5 gq_5_5 ww_262 d_Tk_addSeen_1 rfl ?_
  refine MM.bipush bp_10 d_Tk_addSeen_4 rfl ?_
  obtain ⟨m18, m19⟩ := mm_ifE hf
  refine MM.icmp_lt (tgt := 11) d_Tk_addSeen_6 rfl rfl (fun c17 => ?_) (fun c17 => ?_)
  · replace hf := m18 c17
    refine MM.aload_n (i := 0) rfl rfl d_Tk_addSeen_11 rfl ?_
    refine MM.gR 5 5 t_a0 rq_5_6 rfl lays_5 ww_264 d_Tk_addSeen_12 rfl ?_
    refine MM.aload_n (i := 0) rfl rfl d_Tk_addSeen_15 rfl ?_
    refine MM.getI 5 t_a0 lays_5 gq_5_5 ww_262 d_Tk_addSeen_16 rfl ?_
    refine MM.iload_n (i := 1) rfl rfl d_Tk_addSeen_19 rfl ?_
    obtain ⟨k1, e2, hf⟩ := mm_bind hf
    obtain ⟨h3, e4, hf⟩ := mm_letE hf
    refine MM.sI e2 e4 (al_5_6f t_a0) d_Tk_addSeen_20 rfl ?_
    refine MM.aload_n (i := 0) rfl rfl d_Tk_addSeen_21 rfl ?_
    refine MM.gR 5 6 t_a0 rq_5_7 rfl lays_5 ww_266 d_Tk_addSeen_22 rfl ?_
    refine MM.aload_n (i := 0) rfl rfl d_Tk_addSeen_25 rfl ?_
    refine MM.getI 5 t_a0 lays_5 gq_5_5 ww_262 d_Tk_addSeen_26 rfl ?_
    refine MM.iload_n (i := 2) rfl rfl d_Tk_addSeen_29 rfl ?_
    obtain ⟨j5, e16, hf⟩ := mm_bind hf
    have K6 : MM V l Y_Tk_addSeen 1 0 0 Z0 38 [(0, .ref a0)] [.int j5, .int (h3.1 a0 5), .ref (a0 + 6)] h3 := by
      obtain ⟨k10, e11, hf⟩ := mm_bind hf
      obtain ⟨h12, e13, hf⟩ := mm_letE hf
      refine MM.sI e11 e13 (al_5_7f t_a0) d_Tk_addSeen_38 rfl ?_
      refine MM.aload_n (i := 0) rfl rfl d_Tk_addSeen_39 rfl ?_
      refine MM.dup rfl d_Tk_addSeen_40 rfl ?_
      refine MM.getI 5 t_a0 lays_5 gq_5_5 ww_262 d_Tk_addSeen_41 rfl ?_
      refine MM.iconst ic_1 d_Tk_addSeen_44 rfl ?_
      refine MM.iadd d_Tk_addSeen_45 rfl ?_
      obtain ⟨h14, e15, hf⟩ := mm_letE hf
      refine MM.putI e15 5 t_a0 lays_5 toks_5 pq_5_5 ww_262 d_Tk_addSeen_46 rfl ?_
      refine MM.iconst ic_1 d_Tk_addSeen_49 rfl ?_
      obtain rfl := Option.some.inj hf
      subst hZ
      exact MM.zret (Or.inr rfl) rfl d_Tk_addSeen_50 ⟨rfl, rfl⟩
    clear hf
    have hf := e16
    clear e16
    obtain ⟨m8, m9⟩ := mm_ifE hf
    refine MM.if_eq (tgt := 37) d_Tk_addSeen_30 rfl rfl (fun c7 => ?_) (fun c7 => ?_)
    · replace hf := m8 c7
      refine MM.iconst ic_0 d_Tk_addSeen_37 rfl ?_
      obtain rfl := Option.some.inj hf
      exact MM.sub [0] (by rfl) K6
    · replace hf := m9 c7
      refine MM.iconst ic_1 d_Tk_addSeen_33 rfl ?_
      refine MM.goto (tgt := 38) d_Tk_addSeen_34 rfl ?_
      obtain rfl := Option.some.inj hf
      exact MM.sub [0] (by rfl) K6
  · replace hf := m19 c17
    refine MM.iconst ic_0 d_Tk_addSeen_9 rfl ?_
    obtain rfl := Option.some.inj hf
    subst hZ
    exact MM.zret (Or.inl rfl) rfl d_Tk_addSeen_10 ⟨rfl, rfl⟩
theorem d_X_see_0 : decode cX11_see 0 = .ok (.aload_n 0, 1) := by decide +kernel
theorem d_X_see_1 : decode cX11_see 1 = .ok (.getfield 81, 3) := by decide +kernel
theorem d_X_see_4 : decode cX11_see 4 = .ok (.iload_n 1, 1) := by decide +kernel
theorem d_X_see_5 : decode cX11_see 5 = .ok (.invokevirtual 174, 3) := by decide +kernel
theorem d_X_see_8 : decode cX11_see 8 = .ok (.ifCond .eq 19, 3) := by decide +kernel
theorem d_X_see_11 : decode cX11_see 11 = .ok (.aload_n 0, 1) := by decide +kernel
theorem d_X_see_12 : decode cX11_see 12 = .ok (.getfield 29, 3) := by decide +kernel
theorem d_X_see_15 : decode cX11_see 15 = .ok (.iload_n 1, 1) := by decide +kernel
theorem d_X_see_16 : decode cX11_see 16 = .ok (.iload_n 2, 1) := by decide +kernel
theorem d_X_see_17 : decode cX11_see 17 = .ok (.invokevirtual 273, 3) := by decide +kernel
theorem d_X_see_20 : decode cX11_see 20 = .ok (.ifCond .eq 7, 3) := by decide +kernel
theorem d_X_see_23 : decode cX11_see 23 = .ok (.iconst 1, 1) := by decide +kernel
theorem d_X_see_24 : decode cX11_see 24 = .ok (.goto 4, 3) := by decide +kernel
theorem d_X_see_27 : decode cX11_see 27 = .ok (.iconst 0, 1) := by decide +kernel
theorem d_X_see_28 : decode cX11_see 28 = .ok (.ireturn, 1) := by decide +kernel
noncomputable def f_X_see (x1 : Int32) (x2 : Int32) (h : mm_H) : Option (Int32 × mm_H) := (mm_gT h 14).bind fun t1 => (f_To_hasSecret t1 x1 h).bind fun v4 => if v4 = 0 then (some (0, h)) else ((f_Tk_addSeen 47 x1 x2 h).bind fun v6 => if v6.1 = 0 then (some (0, v6.2)) else (some (1, v6.2)))
theorem T_X_see (V : mm_V) (l : Launch) (x1 : Int32) (x2 : Int32) (h : mm_H) (r : (Int32 × mm_H)) (hf : f_X_see x1 x2 h = some r) : MT V l Y_X_see 2 [.ref 32, .int x1, .int x2] (fun r1 h1 => r1 = some (.int r.1) ∧ h1 = r.2) h := by
  unfold f_X_see at hf
  refine MT.intro (pn_X rfl) [(0, .ref 32), (1, .int x1), (2, .int x2)] rfl (Nat.le_of_ble_eq_true rfl) ?_
  generalize hZ : mm_Z V _ = Z0
  refine MM.aload_n (i := 0) rfl rfl d_X_see_0 rfl ?_
  obtain ⟨t1, e2, hf⟩ := mm_bind hf
  obtain ⟨e2, t_t1⟩ := mm_gTE e2
  refine MM.gT e2 tg_32 tq_14 lays_8 ww_486 d_X_see_1 rfl ?_
  refine MM.iload_n (i := 1) rfl rfl d_X_see_4 rfl ?_
  obtain ⟨v4, e3, hf⟩ := mm_bind hf
  refine MM.callV1 (T_To_hasSecret V l t1 x1 h _ e3) (fun _ _ q => q) cal_To_hasSecret rfl t_t1 ct_7 ww_885 ww_884 ww_883 (by decide) (by simp [Value.category]) d_X_see_5 rfl ⟨rfl, rfl⟩ rfl ?_
  obtain ⟨m11, m12⟩ := mm_ifE hf
  refine MM.if_eq (tgt := 27) d_X_see_8 rfl rfl (fun c10 => ?_) (fun c10 => ?_)
  · replace hf := m11 c10
    refine MM.iconst ic_0 d_X_see_27 rfl ?_
    obtain rfl := Option.some.inj hf
    subst hZ
    exact MM.zret (Or.inl rfl) rfl d_X_see_28 ⟨rfl, rfl⟩
  · replace hf := m12 c10
    refine MM.aload_n (i := 0) rfl rfl d_X_see_11 rfl ?_
    refine MM.gR 8 15 tg_32 rq_8_3 rfl lays_8 ww_475 d_X_see_12 rfl ?_
    refine MM.iload_n (i := 1) rfl rfl d_X_see_15 rfl ?_
    refine MM.iload_n (i := 2) rfl rfl d_X_see_16 rfl ?_
    obtain ⟨v6, e5, hf⟩ := mm_bind hf
    refine MM.callV1 (T_Tk_addSeen V l 47 x1 x2 h _ e5) (fun _ _ q => q) cal_Tk_addSeen rfl tg_47 ct_5 ww_1088 ww_1087 ww_1086 (by decide) (by simp [Value.category]) d_X_see_17 rfl ⟨rfl, rfl⟩ rfl ?_
    obtain ⟨m8, m9⟩ := mm_ifE hf
    refine MM.if_eq (tgt := 27) d_X_see_20 rfl rfl (fun c7 => ?_) (fun c7 => ?_)
    · replace hf := m8 c7
      refine MM.iconst ic_0 d_X_see_27 rfl ?_
      obtain rfl := Option.some.inj hf
      subst hZ
      exact MM.zret (Or.inl rfl) rfl d_X_see_28 ⟨rfl, rfl⟩
    · replace hf := m9 c7
      refine MM.iconst ic_1 d_X_see_23 rfl ?_
      refine MM.goto (tgt := 28) d_X_see_24 rfl ?_
      obtain rfl := Option.some.inj hf
      subst hZ
      exact MM.zret (Or.inr rfl) rfl d_X_see_28 ⟨rfl, rfl⟩
theorem d_X_explains_0 : decode cX11_explains 0 = .ok (.iconst 0, 1) := by decide +kernel
theorem d_X_explains_1 : decode cX11_explains 1 = .ok (.istore_n 2, 1) := by decide +kernel
theorem d_X_explains_2 : decode cX11_explains 2 = .ok (.iload_n 2, 1) := by decide +kernel
theorem d_X_explains_3 : decode cX11_explains 3 = .ok (.aload_n 0, 1) := by decide +kernel
theorem d_X_explains_4 : decode cX11_explains 4 = .ok (.getfield 29, 3) := by decide +kernel
theorem d_X_explains_7 : decode cX11_explains 7 = .ok (.getfield 338, 3) := by decide +kernel
theorem d_X_explains_10 : decode cX11_explains 10 = .ok (.if_icmp .ge 61, 3) := by decide +kernel
theorem d_X_explains_13 : decode cX11_explains 13 = .ok (.aload_n 0, 1) := by decide +kernel
theorem d_X_explains_14 : decode cX11_explains 14 = .ok (.getfield 19, 3) := by decide +kernel
theorem d_X_explains_17 : decode cX11_explains 17 = .ok (.getfield 189, 3) := by decide +kernel
theorem d_X_explains_20 : decode cX11_explains 20 = .ok (.aload_n 0, 1) := by decide +kernel
theorem d_X_explains_21 : decode cX11_explains 21 = .ok (.getfield 29, 3) := by decide +kernel
theorem d_X_explains_24 : decode cX11_explains 24 = .ok (.getfield 391, 3) := by decide +kernel
theorem d_X_explains_27 : decode cX11_explains 27 = .ok (.iload_n 2, 1) := by decide +kernel
theorem d_X_explains_28 : decode cX11_explains 28 = .ok (.iaload, 1) := by decide +kernel
theorem d_X_explains_29 : decode cX11_explains 29 = .ok (.iaload, 1) := by decide +kernel
theorem d_X_explains_30 : decode cX11_explains 30 = .ok (.iload_n 1, 1) := by decide +kernel
theorem d_X_explains_31 : decode cX11_explains 31 = .ok (.iand, 1) := by decide +kernel
theorem d_X_explains_32 : decode cX11_explains 32 = .ok (.ifCond .eq 7, 3) := by decide +kernel
theorem d_X_explains_35 : decode cX11_explains 35 = .ok (.iconst 1, 1) := by decide +kernel
theorem d_X_explains_36 : decode cX11_explains 36 = .ok (.goto 4, 3) := by decide +kernel
theorem d_X_explains_39 : decode cX11_explains 39 = .ok (.iconst 0, 1) := by decide +kernel
theorem d_X_explains_40 : decode cX11_explains 40 = .ok (.istore_n 3, 1) := by decide +kernel
theorem d_X_explains_41 : decode cX11_explains 41 = .ok (.iload_n 3, 1) := by decide +kernel
theorem d_X_explains_42 : decode cX11_explains 42 = .ok (.aload_n 0, 1) := by decide +kernel
theorem d_X_explains_43 : decode cX11_explains 43 = .ok (.getfield 29, 3) := by decide +kernel
theorem d_X_explains_46 : decode cX11_explains 46 = .ok (.getfield 394, 3) := by decide +kernel
theorem d_X_explains_49 : decode cX11_explains 49 = .ok (.iload_n 2, 1) := by decide +kernel
theorem d_X_explains_50 : decode cX11_explains 50 = .ok (.iaload, 1) := by decide +kernel
theorem d_X_explains_51 : decode cX11_explains 51 = .ok (.iconst 1, 1) := by decide +kernel
theorem d_X_explains_52 : decode cX11_explains 52 = .ok (.if_icmp .ne 7, 3) := by decide +kernel
theorem d_X_explains_55 : decode cX11_explains 55 = .ok (.iconst 1, 1) := by decide +kernel
theorem d_X_explains_56 : decode cX11_explains 56 = .ok (.goto 4, 3) := by decide +kernel
theorem d_X_explains_59 : decode cX11_explains 59 = .ok (.iconst 0, 1) := by decide +kernel
theorem d_X_explains_60 : decode cX11_explains 60 = .ok (.if_icmp .eq 5, 3) := by decide +kernel
theorem d_X_explains_63 : decode cX11_explains 63 = .ok (.iconst 0, 1) := by decide +kernel
theorem d_X_explains_64 : decode cX11_explains 64 = .ok (.ireturn, 1) := by decide +kernel
theorem d_X_explains_65 : decode cX11_explains 65 = .ok (.iinc 2 1, 3) := by decide +kernel
theorem d_X_explains_68 : decode cX11_explains 68 = .ok (.goto (-66), 3) := by decide +kernel
theorem d_X_explains_71 : decode cX11_explains 71 = .ok (.iconst 1, 1) := by decide +kernel
theorem d_X_explains_72 : decode cX11_explains 72 = .ok (.ireturn, 1) := by decide +kernel
noncomputable def f_X_explains (x1 : Int32) (h : mm_H) : Option Int32 := mm_while (σ := Int32) (ρ := Int32) (fun s1 => if (h.1 47 5) ≤ s1 then (some (Sum.inr 1)) else ((mm_ix s1 10).bind fun k4 => (mm_ix (h.1 52 k4) 10).bind fun k6 => (if ((h.1 36 k6) &&& x1) = 0 then (some 0) else (some 1) : Option Int32).bind fun j8 => (mm_ix s1 10).bind fun k13 => (if (h.1 53 k13) = 1 then (some 1) else (some 0) : Option Int32).bind fun j15 => if j8 = j15 then (mm_let (s1 + 1) fun y20 => some (Sum.inl y20)) else (some (Sum.inr 0)))) 0
theorem T_X_explains (V : mm_V) (l : Launch) (x1 : Int32) (h : mm_H) (r : Int32) (hf : f_X_explains x1 h = some r) : MT V l Y_X_explains 1 [.ref 32, .int x1] (fun r1 h1 => r1 = some (.int r) ∧ h1 = h) h := by
  unfold f_X_explains at hf
  refine MT.intro (pn_X rfl) [(0, .ref 32), (1, .int x1)] rfl (Nat.le_of_ble_eq_true rfl) ?_
  generalize hZ : mm_Z V _ = Z0
  refine MM.iconst ic_0 d_X_explains_0 rfl ?_
  refine MM.istore_n (i := 2) (lv' := [(2, .int 0), (0, .ref 32), (1, .int x1)]) rfl rfl (Nat.le_of_ble_eq_true rfl) rfl d_X_explains_1 rfl ?_
  refine MM.sub [1, 2, 0] (by rfl) (mm_while_ind (fun s1 => MM V l Y_X_explains 1 0 0 Z0 2 [(0, .ref 32), (1, .int x1), (2, .int s1)] [] h) hf (fun s1 q2 hf hx3 => ?_))
  refine MM.iload_n (i := 2) rfl rfl d_X_explains_2 rfl ?_
  refine MM.aload_n (i := 0) rfl rfl d_X_explains_3 rfl ?_
  refine MM.gR 8 15 tg_32 rq_8_3 rfl lays_8 ww_475 d_X_explains_4 rfl ?_
  refine MM.getI 5 tg_47 lays_5 gq_5_5 ww_263 d_X_explains_7 rfl ?_
  obtain ⟨m28, m29⟩ := mm_ifE hf
  refine MM.icmp_ge (tgt := 71) d_X_explains_10 rfl rfl (fun c27 => ?_) (fun c27 => ?_)
  · replace hf := m28 c27
    refine MM.iconst ic_1 d_X_explains_71 rfl ?_
    obtain rfl := Option.some.inj hf
    replace hf := mm_wxR hx3
    obtain rfl := Option.some.inj hf
    subst hZ
    exact MM.zret (Or.inr rfl) rfl d_X_explains_72 ⟨rfl, rfl⟩
  · replace hf := m29 c27
    refine MM.aload_n (i := 0) rfl rfl d_X_explains_13 rfl ?_
    refine MM.gR 8 3 tg_32 rq_8_1 rfl lays_8 ww_473 d_X_explains_14 rfl ?_
    refine MM.gR 4 1 tg_35 rq_4_0 rfl lays_4 ww_202 d_X_explains_17 rfl ?_
    refine MM.aload_n (i := 0) rfl rfl d_X_explains_20 rfl ?_
    refine MM.gR 8 15 tg_32 rq_8_3 rfl lays_8 ww_475 d_X_explains_21 rfl ?_
    refine MM.gR 5 5 tg_47 rq_5_6 rfl lays_5 ww_265 d_X_explains_24 rfl ?_
    refine MM.iload_n (i := 2) rfl rfl d_X_explains_27 rfl ?_
    obtain ⟨k4, e5, hf⟩ := mm_bind hf
    refine MM.gI e5 al_52 d_X_explains_28 rfl ?_
    obtain ⟨k6, e7, hf⟩ := mm_bind hf
    refine MM.gI e7 al_36 d_X_explains_29 rfl ?_
    refine MM.iload_n (i := 1) rfl rfl d_X_explains_30 rfl ?_
    refine MM.iand d_X_explains_31 rfl ?_
    obtain ⟨j8, e26, hf⟩ := mm_bind hf
    have K9 : MM V l Y_X_explains 1 0 0 Z0 40 [(0, .ref 32), (1, .int x1), (2, .int s1)] [.int j8] h := by
      refine MM.istore_n (i := 3) (lv' := [(3, .int j8), (0, .ref 32), (1, .int x1), (2, .int s1)]) rfl rfl (Nat.le_of_ble_eq_true rfl) rfl d_X_explains_40 rfl ?_
      refine MM.iload_n (i := 3) rfl rfl d_X_explains_41 rfl ?_
      refine MM.aload_n (i := 0) rfl rfl d_X_explains_42 rfl ?_
      refine MM.gR 8 15 tg_32 rq_8_3 rfl lays_8 ww_475 d_X_explains_43 rfl ?_
      refine MM.gR 5 6 tg_47 rq_5_7 rfl lays_5 ww_267 d_X_explains_46 rfl ?_
      refine MM.iload_n (i := 2) rfl rfl d_X_explains_49 rfl ?_
      obtain ⟨k13, e14, hf⟩ := mm_bind hf
      refine MM.gI e14 al_53 d_X_explains_50 rfl ?_
      refine MM.iconst ic_1 d_X_explains_51 rfl ?_
      obtain ⟨j15, e25, hf⟩ := mm_bind hf
      have K16 : MM V l Y_X_explains 1 0 0 Z0 60 [(0, .ref 32), (1, .int x1), (2, .int s1)] [.int j15, .int j8] h := by
        obtain ⟨m23, m24⟩ := mm_ifE hf
        refine MM.icmp_eq (tgt := 65) d_X_explains_60 rfl rfl (fun c22 => ?_) (fun c22 => ?_)
        · replace hf := m23 c22
          obtain ⟨y20, e21, hf⟩ := mm_letE hf
          refine MM.iinc (k0 := 2) (lv' := [(2, .int y20), (0, .ref 32), (1, .int x1)]) (by rw [ic_1]; exact e21) rfl (Nat.le_of_ble_eq_true rfl) rfl d_X_explains_65 rfl ?_
          refine MM.goto (tgt := 2) d_X_explains_68 rfl ?_
          obtain rfl := Option.some.inj hf
          have h9 := mm_wxL hx3
          exact MM.sub [1, 2, 0] (by rfl) h9
        · replace hf := m24 c22
          refine MM.iconst ic_0 d_X_explains_63 rfl ?_
          obtain rfl := Option.some.inj hf
          replace hf := mm_wxR hx3
          obtain rfl := Option.some.inj hf
          subst hZ
          exact MM.zret (Or.inl rfl) rfl d_X_explains_64 ⟨rfl, rfl⟩
      clear hf
      have hf := e25
      clear e25
      obtain ⟨m18, m19⟩ := mm_ifE hf
      refine MM.icmp_ne (tgt := 59) d_X_explains_52 rfl rfl (fun c17 => ?_) (fun c17 => ?_)
      · replace hf := m19 c17
        refine MM.iconst ic_0 d_X_explains_59 rfl ?_
        obtain rfl := Option.some.inj hf
        exact MM.sub [1, 2, 3] (by rfl) K16
      · replace hf := m18 c17
        refine MM.iconst ic_1 d_X_explains_55 rfl ?_
        refine MM.goto (tgt := 60) d_X_explains_56 rfl ?_
        obtain rfl := Option.some.inj hf
        exact MM.sub [1, 2, 3] (by rfl) K16
    clear hf
    have hf := e26
    clear e26
    obtain ⟨m11, m12⟩ := mm_ifE hf
    refine MM.if_eq (tgt := 39) d_X_explains_32 rfl rfl (fun c10 => ?_) (fun c10 => ?_)
    · replace hf := m11 c10
      refine MM.iconst ic_0 d_X_explains_39 rfl ?_
      obtain rfl := Option.some.inj hf
      exact MM.sub [0, 1, 2] (by rfl) K9
    · replace hf := m12 c10
      refine MM.iconst ic_1 d_X_explains_35 rfl ?_
      refine MM.goto (tgt := 40) d_X_explains_36 rfl ?_
      obtain rfl := Option.some.inj hf
      exact MM.sub [0, 1, 2] (by rfl) K9
theorem d_X_findLeaks_0 : decode cX11_findLeaks 0 = .ok (.aload_n 0, 1) := by decide +kernel
theorem d_X_findLeaks_1 : decode cX11_findLeaks 1 = .ok (.getfield 75, 3) := by decide +kernel
theorem d_X_findLeaks_4 : decode cX11_findLeaks 4 = .ok (.iconst 0, 1) := by decide +kernel
theorem d_X_findLeaks_5 : decode cX11_findLeaks 5 = .ok (.iconst 0, 1) := by decide +kernel
theorem d_X_findLeaks_6 : decode cX11_findLeaks 6 = .ok (.iastore, 1) := by decide +kernel
theorem d_X_findLeaks_7 : decode cX11_findLeaks 7 = .ok (.aload_n 0, 1) := by decide +kernel
theorem d_X_findLeaks_8 : decode cX11_findLeaks 8 = .ok (.getfield 75, 3) := by decide +kernel
theorem d_X_findLeaks_11 : decode cX11_findLeaks 11 = .ok (.iconst 1, 1) := by decide +kernel
theorem d_X_findLeaks_12 : decode cX11_findLeaks 12 = .ok (.bipush 63, 2) := by decide +kernel
theorem d_X_findLeaks_14 : decode cX11_findLeaks 14 = .ok (.iastore, 1) := by decide +kernel
theorem d_X_findLeaks_15 : decode cX11_findLeaks 15 = .ok (.aload_n 0, 1) := by decide +kernel
theorem d_X_findLeaks_16 : decode cX11_findLeaks 16 = .ok (.getfield 75, 3) := by decide +kernel
theorem d_X_findLeaks_19 : decode cX11_findLeaks 19 = .ok (.iconst 2, 1) := by decide +kernel
theorem d_X_findLeaks_20 : decode cX11_findLeaks 20 = .ok (.iconst 0, 1) := by decide +kernel
theorem d_X_findLeaks_21 : decode cX11_findLeaks 21 = .ok (.iastore, 1) := by decide +kernel
theorem d_X_findLeaks_22 : decode cX11_findLeaks 22 = .ok (.aload_n 0, 1) := by decide +kernel
theorem d_X_findLeaks_23 : decode cX11_findLeaks 23 = .ok (.getfield 75, 3) := by decide +kernel
theorem d_X_findLeaks_26 : decode cX11_findLeaks 26 = .ok (.iconst 3, 1) := by decide +kernel
theorem d_X_findLeaks_27 : decode cX11_findLeaks 27 = .ok (.iconst (-1), 1) := by decide +kernel
theorem d_X_findLeaks_28 : decode cX11_findLeaks 28 = .ok (.iastore, 1) := by decide +kernel
theorem d_X_findLeaks_29 : decode cX11_findLeaks 29 = .ok (.iconst 0, 1) := by decide +kernel
theorem d_X_findLeaks_30 : decode cX11_findLeaks 30 = .ok (.istore_n 1, 1) := by decide +kernel
theorem d_X_findLeaks_31 : decode cX11_findLeaks 31 = .ok (.iload_n 1, 1) := by decide +kernel
theorem d_X_findLeaks_32 : decode cX11_findLeaks 32 = .ok (.iconst 1, 1) := by decide +kernel
theorem d_X_findLeaks_33 : decode cX11_findLeaks 33 = .ok (.aload_n 0, 1) := by decide +kernel
theorem d_X_findLeaks_34 : decode cX11_findLeaks 34 = .ok (.getfield 81, 3) := by decide +kernel
theorem d_X_findLeaks_37 : decode cX11_findLeaks 37 = .ok (.getfield 304, 3) := by decide +kernel
theorem d_X_findLeaks_40 : decode cX11_findLeaks 40 = .ok (.ishl, 1) := by decide +kernel
theorem d_X_findLeaks_41 : decode cX11_findLeaks 41 = .ok (.if_icmp .ge 80, 3) := by decide +kernel
theorem d_X_findLeaks_44 : decode cX11_findLeaks 44 = .ok (.aload_n 0, 1) := by decide +kernel
theorem d_X_findLeaks_45 : decode cX11_findLeaks 45 = .ok (.iload_n 1, 1) := by decide +kernel
theorem d_X_findLeaks_46 : decode cX11_findLeaks 46 = .ok (.invokevirtual 388, 3) := by decide +kernel
theorem d_X_findLeaks_49 : decode cX11_findLeaks 49 = .ok (.ifCond .eq 66, 3) := by decide +kernel
theorem d_X_findLeaks_52 : decode cX11_findLeaks 52 = .ok (.aload_n 0, 1) := by decide +kernel
theorem d_X_findLeaks_53 : decode cX11_findLeaks 53 = .ok (.getfield 75, 3) := by decide +kernel
theorem d_X_findLeaks_56 : decode cX11_findLeaks 56 = .ok (.iconst 0, 1) := by decide +kernel
theorem d_X_findLeaks_57 : decode cX11_findLeaks 57 = .ok (.dup2, 1) := by decide +kernel
theorem d_X_findLeaks_58 : decode cX11_findLeaks 58 = .ok (.iaload, 1) := by decide +kernel
theorem d_X_findLeaks_59 : decode cX11_findLeaks 59 = .ok (.iconst 1, 1) := by decide +kernel
theorem d_X_findLeaks_60 : decode cX11_findLeaks 60 = .ok (.iadd, 1) := by decide +kernel
theorem d_X_findLeaks_61 : decode cX11_findLeaks 61 = .ok (.iastore, 1) := by decide +kernel
theorem d_X_findLeaks_62 : decode cX11_findLeaks 62 = .ok (.aload_n 0, 1) := by decide +kernel
theorem d_X_findLeaks_63 : decode cX11_findLeaks 63 = .ok (.getfield 75, 3) := by decide +kernel
theorem d_X_findLeaks_66 : decode cX11_findLeaks 66 = .ok (.iconst 1, 1) := by decide +kernel
theorem d_X_findLeaks_67 : decode cX11_findLeaks 67 = .ok (.dup2, 1) := by decide +kernel
theorem d_X_findLeaks_68 : decode cX11_findLeaks 68 = .ok (.iaload, 1) := by decide +kernel
theorem d_X_findLeaks_69 : decode cX11_findLeaks 69 = .ok (.iload_n 1, 1) := by decide +kernel
theorem d_X_findLeaks_70 : decode cX11_findLeaks 70 = .ok (.iand, 1) := by decide +kernel
theorem d_X_findLeaks_71 : decode cX11_findLeaks 71 = .ok (.iastore, 1) := by decide +kernel
theorem d_X_findLeaks_72 : decode cX11_findLeaks 72 = .ok (.aload_n 0, 1) := by decide +kernel
theorem d_X_findLeaks_73 : decode cX11_findLeaks 73 = .ok (.getfield 75, 3) := by decide +kernel
theorem d_X_findLeaks_76 : decode cX11_findLeaks 76 = .ok (.iconst 2, 1) := by decide +kernel
theorem d_X_findLeaks_77 : decode cX11_findLeaks 77 = .ok (.dup2, 1) := by decide +kernel
theorem d_X_findLeaks_78 : decode cX11_findLeaks 78 = .ok (.iaload, 1) := by decide +kernel
theorem d_X_findLeaks_79 : decode cX11_findLeaks 79 = .ok (.iload_n 1, 1) := by decide +kernel
theorem d_X_findLeaks_80 : decode cX11_findLeaks 80 = .ok (.ior, 1) := by decide +kernel
theorem d_X_findLeaks_81 : decode cX11_findLeaks 81 = .ok (.iastore, 1) := by decide +kernel
theorem d_X_findLeaks_82 : decode cX11_findLeaks 82 = .ok (.aload_n 0, 1) := by decide +kernel
theorem d_X_findLeaks_83 : decode cX11_findLeaks 83 = .ok (.getfield 75, 3) := by decide +kernel
theorem d_X_findLeaks_86 : decode cX11_findLeaks 86 = .ok (.iconst 3, 1) := by decide +kernel
theorem d_X_findLeaks_87 : decode cX11_findLeaks 87 = .ok (.iaload, 1) := by decide +kernel
theorem d_X_findLeaks_88 : decode cX11_findLeaks 88 = .ok (.iconst (-1), 1) := by decide +kernel
theorem d_X_findLeaks_89 : decode cX11_findLeaks 89 = .ok (.if_icmp .eq 19, 3) := by decide +kernel
theorem d_X_findLeaks_92 : decode cX11_findLeaks 92 = .ok (.iload_n 1, 1) := by decide +kernel
theorem d_X_findLeaks_93 : decode cX11_findLeaks 93 = .ok (.invokestatic 299, 3) := by decide +kernel
theorem d_X_findLeaks_96 : decode cX11_findLeaks 96 = .ok (.aload_n 0, 1) := by decide +kernel
theorem d_X_findLeaks_97 : decode cX11_findLeaks 97 = .ok (.getfield 75, 3) := by decide +kernel
theorem d_X_findLeaks_100 : decode cX11_findLeaks 100 = .ok (.iconst 3, 1) := by decide +kernel
theorem d_X_findLeaks_101 : decode cX11_findLeaks 101 = .ok (.iaload, 1) := by decide +kernel
theorem d_X_findLeaks_102 : decode cX11_findLeaks 102 = .ok (.invokestatic 299, 3) := by decide +kernel
theorem d_X_findLeaks_105 : decode cX11_findLeaks 105 = .ok (.if_icmp .ge 10, 3) := by decide +kernel
theorem d_X_findLeaks_108 : decode cX11_findLeaks 108 = .ok (.aload_n 0, 1) := by decide +kernel
theorem d_X_findLeaks_109 : decode cX11_findLeaks 109 = .ok (.getfield 75, 3) := by decide +kernel
theorem d_X_findLeaks_112 : decode cX11_findLeaks 112 = .ok (.iconst 3, 1) := by decide +kernel
theorem d_X_findLeaks_113 : decode cX11_findLeaks 113 = .ok (.iload_n 1, 1) := by decide +kernel
theorem d_X_findLeaks_114 : decode cX11_findLeaks 114 = .ok (.iastore, 1) := by decide +kernel
theorem d_X_findLeaks_115 : decode cX11_findLeaks 115 = .ok (.iinc 1 1, 3) := by decide +kernel
theorem d_X_findLeaks_118 : decode cX11_findLeaks 118 = .ok (.goto (-87), 3) := by decide +kernel
theorem d_X_findLeaks_121 : decode cX11_findLeaks 121 = .ok (.return_, 1) := by decide +kernel
noncomputable def f_X_findLeaks (h : mm_H) : Option mm_H := mm_let (mm_pI h 78 0 0) fun h1 => mm_let (mm_pI h1 78 1 63) fun h3 => mm_let (mm_pI h3 78 2 0) fun h5 => mm_let (mm_pI h5 78 3 (-1)) fun h7 => (mm_while (σ := (Int32 × mm_H)) (ρ := mm_H) (fun s9 => (mm_gT s9.2 14).bind fun t15 => if ((1 : Int32) <<< ((s9.2.1 t15 0) &&& 31)) ≤ s9.1 then (some (Sum.inr s9.2)) else ((f_X_explains s9.1 s9.2).bind fun v18 => (if v18 = 0 then (some s9.2) else (mm_let (mm_pI s9.2 78 0 ((s9.2.1 78 0) + 1)) fun h21 => mm_let (mm_pI h21 78 1 ((h21.1 78 1) &&& s9.1)) fun h23 => mm_let (mm_pI h23 78 2 ((h23.1 78 2) ||| s9.1)) fun h25 => mm_jp (fun (j27 : Unit) => (mm_let (mm_pI h25 78 3 s9.1) fun h30 => some h30)) fun k29 => if (h25.1 78 3) = (-1) then (k29 ()) else ((f_JI_bitCount s9.1).bind fun v33 => (f_JI_bitCount (h25.1 78 3)).bind fun v35 => if v35 ≤ v33 then (some h25) else (k29 ()))) : Option mm_H).bind fun j19 => mm_let (s9.1 + 1) fun y46 => some (Sum.inl (y46, j19)))) (0, h7)).bind fun v12 => some v12
theorem T_X_findLeaks (V : mm_V) (l : Launch) (h : mm_H) (r : mm_H) (hf : f_X_findLeaks h = some r) : MT V l Y_X_findLeaks 2 [.ref 32] (fun r1 h1 => r1 = none ∧ h1 = r) h := by
  unfold f_X_findLeaks at hf
  refine MT.intro (pn_X rfl) [(0, .ref 32)] rfl (Nat.le_of_ble_eq_true rfl) ?_
  generalize hZ : mm_Z V _ = Z0
  refine MM.aload_n (i := 0) rfl rfl d_X_findLeaks_0 rfl ?_
  refine MM.gR 8 46 tg_32 rq_8_13 rfl lays_8 ww_485 d_X_findLeaks_1 rfl ?_
  refine MM.iconst ic_0 d_X_findLeaks_4 rfl ?_
  refine MM.iconst ic_0 d_X_findLeaks_5 rfl ?_
  obtain ⟨h1, e2, hf⟩ := mm_letE hf
  refine MM.sI ix_0_4 e2 al_78 d_X_findLeaks_6 rfl ?_
  refine MM.aload_n (i := 0) rfl rfl d_X_findLeaks_7 rfl ?_
  refine MM.gR 8 46 tg_32 rq_8_13 rfl lays_8 ww_485 d_X_findLeaks_8 rfl ?_
  refine MM.iconst ic_1 d_X_findLeaks_11 rfl ?_
  refine MM.bipush bp_63 d_X_findLeaks_12 rfl ?_
  obtain ⟨h3, e4, hf⟩ := mm_letE hf
  refine MM.sI ix_1_4 e4 al_78 d_X_findLeaks_14 rfl ?_
  refine MM.aload_n (i := 0) rfl rfl d_X_findLeaks_15 rfl ?_
  refine MM.gR 8 46 tg_32 rq_8_13 rfl lays_8 ww_485 d_X_findLeaks_16 rfl ?_
  refine MM.iconst ic_2 d_X_findLeaks_19 rfl ?_
  refine MM.iconst ic_0 d_X_findLeaks_20 rfl ?_
  obtain ⟨h5, e6, hf⟩ := mm_letE hf
  refine MM.sI ix_2_4 e6 al_78 d_X_findLeaks_21 rfl ?_
  refine MM.aload_n (i := 0) rfl rfl d_X_findLeaks_22 rfl ?_
  refine MM.gR 8 46 tg_32 rq_8_13 rfl lays_8 ww_485 d_X_findLeaks_23 rfl ?_
  refine MM.iconst ic_3 d_X_findLeaks_26 rfl ?_
  refine MM.iconst ic_m1 d_X_findLeaks_27 rfl ?_
  obtain ⟨h7, e8, hf⟩ := mm_letE hf
  refine MM.sI ix_3_4 e8 al_78 d_X_findLeaks_28 rfl ?_
  refine MM.iconst ic_0 d_X_findLeaks_29 rfl ?_
  refine MM.istore_n (i := 1) (lv' := [(1, .int 0), (0, .ref 32)]) rfl rfl (Nat.le_of_ble_eq_true rfl) rfl d_X_findLeaks_30 rfl ?_
  obtain ⟨v12, e14, hf⟩ := mm_bind hf
  have K13 : MM V l Y_X_findLeaks 2 0 0 Z0 121 [] [] v12 := by
    obtain rfl := Option.some.inj hf
    subst hZ
    exact MM.vret rfl d_X_findLeaks_121 ⟨rfl, rfl⟩
  clear hf
  refine MM.sub [1, 0] (by rfl) (mm_while_ind (fun s9 => MM V l Y_X_findLeaks 2 0 0 Z0 31 [(0, .ref 32), (1, .int s9.1)] [] s9.2) e14 (fun s9 q10 hf hx11 => ?_))
  refine MM.iload_n (i := 1) rfl rfl d_X_findLeaks_31 rfl ?_
  refine MM.iconst ic_1 d_X_findLeaks_32 rfl ?_
  refine MM.aload_n (i := 0) rfl rfl d_X_findLeaks_33 rfl ?_
  obtain ⟨t15, e16, hf⟩ := mm_bind hf
  obtain ⟨e16, t_t15⟩ := mm_gTE e16
  refine MM.gT e16 tg_32 tq_14 lays_8 ww_486 d_X_findLeaks_34 rfl ?_
  refine MM.getI 7 t_t15 lays_7 gq_7_0 ww_369 d_X_findLeaks_37 rfl ?_
  refine MM.ishl d_X_findLeaks_40 rfl ?_
  obtain ⟨m50, m51⟩ := mm_ifE hf
  refine MM.icmp_ge (tgt := 121) d_X_findLeaks_41 rfl rfl (fun c49 => ?_) (fun c49 => ?_)
  · replace hf := m50 c49
    obtain rfl := Option.some.inj hf
    obtain rfl := Option.some.inj (mm_wxR hx11)
    exact MM.sub [] (by rfl) K13
  · replace hf := m51 c49
    refine MM.aload_n (i := 0) rfl rfl d_X_findLeaks_44 rfl ?_
    refine MM.iload_n (i := 1) rfl rfl d_X_findLeaks_45 rfl ?_
    obtain ⟨v18, e17, hf⟩ := mm_bind hf
    refine MM.callV1 (T_X_explains V l s9.1 s9.2 _ e17) (fun _ _ q => q) cal_X_explains rfl tg_32 ct_8 ww_15 ww_1100 ww_1098 (by decide) (by simp [Value.category]) d_X_findLeaks_46 rfl ⟨rfl, rfl⟩ rfl ?_
    obtain ⟨j19, e48, hf⟩ := mm_bind hf
    have K20 : MM V l Y_X_findLeaks 2 0 0 Z0 115 [(0, .ref 32), (1, .int s9.1)] [] j19 := by
      obtain ⟨y46, e47, hf⟩ := mm_letE hf
      refine MM.iinc (k0 := 1) (lv' := [(1, .int y46), (0, .ref 32)]) (by rw [ic_1]; exact e47) rfl (Nat.le_of_ble_eq_true rfl) rfl d_X_findLeaks_115 rfl ?_
      refine MM.goto (tgt := 31) d_X_findLeaks_118 rfl ?_
      obtain rfl := Option.some.inj hf
      have h9 := mm_wxL hx11
      exact MM.sub [1, 0] (by rfl) h9
    clear hf
    have hf := e48
    clear e48
    obtain ⟨m44, m45⟩ := mm_ifE hf
    refine MM.if_eq (tgt := 115) d_X_findLeaks_49 rfl rfl (fun c43 => ?_) (fun c43 => ?_)
    · replace hf := m44 c43
      obtain rfl := Option.some.inj hf
      exact MM.sub [0, 1] (by rfl) K20
    · replace hf := m45 c43
      refine MM.aload_n (i := 0) rfl rfl d_X_findLeaks_52 rfl ?_
      refine MM.gR 8 46 tg_32 rq_8_13 rfl lays_8 ww_485 d_X_findLeaks_53 rfl ?_
      refine MM.iconst ic_0 d_X_findLeaks_56 rfl ?_
      refine MM.dup2 rfl rfl d_X_findLeaks_57 rfl ?_
      refine MM.gI ix_0_4 al_78 d_X_findLeaks_58 rfl ?_
      refine MM.iconst ic_1 d_X_findLeaks_59 rfl ?_
      refine MM.iadd d_X_findLeaks_60 rfl ?_
      obtain ⟨h21, e22, hf⟩ := mm_letE hf
      refine MM.sI ix_0_4 e22 al_78 d_X_findLeaks_61 rfl ?_
      refine MM.aload_n (i := 0) rfl rfl d_X_findLeaks_62 rfl ?_
      refine MM.gR 8 46 tg_32 rq_8_13 rfl lays_8 ww_485 d_X_findLeaks_63 rfl ?_
      refine MM.iconst ic_1 d_X_findLeaks_66 rfl ?_
      refine MM.dup2 rfl rfl d_X_findLeaks_67 rfl ?_
      refine MM.gI ix_1_4 al_78 d_X_findLeaks_68 rfl ?_
      refine MM.iload_n (i := 1) rfl rfl d_X_findLeaks_69 rfl ?_
      refine MM.iand d_X_findLeaks_70 rfl ?_
      obtain ⟨h23, e24, hf⟩ := mm_letE hf
      refine MM.sI ix_1_4 e24 al_78 d_X_findLeaks_71 rfl ?_
      refine MM.aload_n (i := 0) rfl rfl d_X_findLeaks_72 rfl ?_
      refine MM.gR 8 46 tg_32 rq_8_13 rfl lays_8 ww_485 d_X_findLeaks_73 rfl ?_
      refine MM.iconst ic_2 d_X_findLeaks_76 rfl ?_
      refine MM.dup2 rfl rfl d_X_findLeaks_77 rfl ?_
      refine MM.gI ix_2_4 al_78 d_X_findLeaks_78 rfl ?_
      refine MM.iload_n (i := 1) rfl rfl d_X_findLeaks_79 rfl ?_
      refine MM.ior d_X_findLeaks_80 rfl ?_
      obtain ⟨h25, e26, hf⟩ := mm_letE hf
      refine MM.sI ix_2_4 e26 al_78 d_X_findLeaks_81 rfl ?_
      refine MM.aload_n (i := 0) rfl rfl d_X_findLeaks_82 rfl ?_
      refine MM.gR 8 46 tg_32 rq_8_13 rfl lays_8 ww_485 d_X_findLeaks_83 rfl ?_
      refine MM.iconst ic_3 d_X_findLeaks_86 rfl ?_
      refine MM.gI ix_3_4 al_78 d_X_findLeaks_87 rfl ?_
      refine MM.iconst ic_m1 d_X_findLeaks_88 rfl ?_
      obtain ⟨k29, e42, hf⟩ := mm_jpE hf
      have K28 : ∀ j27, k29 j27 = some j19 → MM V l Y_X_findLeaks 2 0 0 Z0 108 [(0, .ref 32), (1, .int s9.1)] [] h25 := by
        intro j27 hf
        rw [e42] at hf
        refine MM.aload_n (i := 0) rfl rfl d_X_findLeaks_108 rfl ?_
        refine MM.gR 8 46 tg_32 rq_8_13 rfl lays_8 ww_485 d_X_findLeaks_109 rfl ?_
        refine MM.iconst ic_3 d_X_findLeaks_112 rfl ?_
        refine MM.iload_n (i := 1) rfl rfl d_X_findLeaks_113 rfl ?_
        obtain ⟨h30, e31, hf⟩ := mm_letE hf
        refine MM.sI ix_3_4 e31 al_78 d_X_findLeaks_114 rfl ?_
        obtain rfl := Option.some.inj hf
        exact MM.sub [0, 1] (by rfl) K20
      clear e42
      obtain ⟨m40, m41⟩ := mm_ifE hf
      refine MM.icmp_eq (tgt := 108) d_X_findLeaks_89 rfl rfl (fun c39 => ?_) (fun c39 => ?_)
      · replace hf := m40 c39
        exact MM.sub [0, 1] (by rfl) (K28 _ hf)
      · replace hf := m41 c39
        refine MM.iload_n (i := 1) rfl rfl d_X_findLeaks_92 rfl ?_
        obtain ⟨v33, e32, hf⟩ := mm_bind hf
        refine MM.callS1 (T_JI_bitCount V l s9.1 h25 _ e32) (fun _ _ q => q) cal_JI_bitCount rfl ww_893 ww_1040 (by decide) (by simp [Value.category]) d_X_findLeaks_93 rfl ⟨rfl, rfl⟩ rfl ?_
        refine MM.aload_n (i := 0) rfl rfl d_X_findLeaks_96 rfl ?_
        refine MM.gR 8 46 tg_32 rq_8_13 rfl lays_8 ww_485 d_X_findLeaks_97 rfl ?_
        refine MM.iconst ic_3 d_X_findLeaks_100 rfl ?_
        refine MM.gI ix_3_4 al_78 d_X_findLeaks_101 rfl ?_
        obtain ⟨v35, e34, hf⟩ := mm_bind hf
        refine MM.callS1 (T_JI_bitCount V l (h25.1 78 3) h25 _ e34) (fun _ _ q => q) cal_JI_bitCount rfl ww_893 ww_1040 (by decide) (by simp [Value.category]) d_X_findLeaks_102 rfl ⟨rfl, rfl⟩ rfl ?_
        obtain ⟨m37, m38⟩ := mm_ifE hf
        refine MM.icmp_ge (tgt := 115) d_X_findLeaks_105 rfl rfl (fun c36 => ?_) (fun c36 => ?_)
        · replace hf := m37 c36
          obtain rfl := Option.some.inj hf
          exact MM.sub [0, 1] (by rfl) K20
        · replace hf := m38 c36
          exact MM.sub [0, 1] (by rfl) (K28 _ hf)
theorem d_X_leaks_0 : decode cX11_leaks 0 = .ok (.iload_n 1, 1) := by decide +kernel
theorem d_X_leaks_1 : decode cX11_leaks 1 = .ok (.ifCond .lt 8, 3) := by decide +kernel
theorem d_X_leaks_4 : decode cX11_leaks 4 = .ok (.iload_n 1, 1) := by decide +kernel
theorem d_X_leaks_5 : decode cX11_leaks 5 = .ok (.iconst 3, 1) := by decide +kernel
theorem d_X_leaks_6 : decode cX11_leaks 6 = .ok (.if_icmp .le 5, 3) := by decide +kernel
theorem d_X_leaks_9 : decode cX11_leaks 9 = .ok (.iconst (-1), 1) := by decide +kernel
theorem d_X_leaks_10 : decode cX11_leaks 10 = .ok (.ireturn, 1) := by decide +kernel
theorem d_X_leaks_11 : decode cX11_leaks 11 = .ok (.aload_n 0, 1) := by decide +kernel
theorem d_X_leaks_12 : decode cX11_leaks 12 = .ok (.invokevirtual 277, 3) := by decide +kernel
theorem d_X_leaks_15 : decode cX11_leaks 15 = .ok (.iload_n 1, 1) := by decide +kernel
theorem d_X_leaks_16 : decode cX11_leaks 16 = .ok (.ifCond .le 16, 3) := by decide +kernel
theorem d_X_leaks_19 : decode cX11_leaks 19 = .ok (.aload_n 0, 1) := by decide +kernel
theorem d_X_leaks_20 : decode cX11_leaks 20 = .ok (.getfield 75, 3) := by decide +kernel
theorem d_X_leaks_23 : decode cX11_leaks 23 = .ok (.iconst 0, 1) := by decide +kernel
theorem d_X_leaks_24 : decode cX11_leaks 24 = .ok (.iaload, 1) := by decide +kernel
theorem d_X_leaks_25 : decode cX11_leaks 25 = .ok (.ifCond .ne 7, 3) := by decide +kernel
theorem d_X_leaks_28 : decode cX11_leaks 28 = .ok (.iconst (-1), 1) := by decide +kernel
theorem d_X_leaks_29 : decode cX11_leaks 29 = .ok (.goto 9, 3) := by decide +kernel
theorem d_X_leaks_32 : decode cX11_leaks 32 = .ok (.aload_n 0, 1) := by decide +kernel
theorem d_X_leaks_33 : decode cX11_leaks 33 = .ok (.getfield 75, 3) := by decide +kernel
theorem d_X_leaks_36 : decode cX11_leaks 36 = .ok (.iload_n 1, 1) := by decide +kernel
theorem d_X_leaks_37 : decode cX11_leaks 37 = .ok (.iaload, 1) := by decide +kernel
theorem d_X_leaks_38 : decode cX11_leaks 38 = .ok (.ireturn, 1) := by decide +kernel
noncomputable def f_X_leaks (x1 : Int32) (h : mm_H) : Option (Int32 × mm_H) := if x1 < 0 then (some ((-1), h)) else (if x1 ≤ 3 then ((f_X_findLeaks h).bind fun v2 => mm_jp (fun (j3 : Unit) => ((mm_ix x1 4).bind fun k6 => some ((v2.1 78 k6), v2))) fun k5 => if x1 ≤ 0 then (k5 ()) else (if (v2.1 78 0) = 0 then (some ((-1), v2)) else (k5 ()))) else (some ((-1), h)))
theorem T_X_leaks (V : mm_V) (l : Launch) (x1 : Int32) (h : mm_H) (r : (Int32 × mm_H)) (hf : f_X_leaks x1 h = some r) : MT V l Y_X_leaks 3 [.ref 32, .int x1] (fun r1 h1 => r1 = some (.int r.1) ∧ h1 = r.2) h := by
  unfold f_X_leaks at hf
  refine MT.intro (pn_X rfl) [(0, .ref 32), (1, .int x1)] rfl (Nat.le_of_ble_eq_true rfl) ?_
  generalize hZ : mm_Z V _ = Z0
  refine MM.iload_n (i := 1) rfl rfl d_X_leaks_0 rfl ?_
  obtain ⟨m19, m20⟩ := mm_ifE hf
  refine MM.if_lt (tgt := 9) d_X_leaks_1 rfl rfl (fun c18 => ?_) (fun c18 => ?_)
  · replace hf := m19 c18
    refine MM.iconst ic_m1 d_X_leaks_9 rfl ?_
    obtain rfl := Option.some.inj hf
    subst hZ
    exact MM.iret rfl d_X_leaks_10 ⟨rfl, rfl⟩
  · replace hf := m20 c18
    refine MM.iload_n (i := 1) rfl rfl d_X_leaks_4 rfl ?_
    refine MM.iconst ic_3 d_X_leaks_5 rfl ?_
    obtain ⟨m16, m17⟩ := mm_ifE hf
    refine MM.icmp_le (tgt := 11) d_X_leaks_6 rfl rfl (fun c15 => ?_) (fun c15 => ?_)
    · replace hf := m16 c15
      refine MM.aload_n (i := 0) rfl rfl d_X_leaks_11 rfl ?_
      obtain ⟨v2, e1, hf⟩ := mm_bind hf
      refine MM.callV0 (T_X_findLeaks V l  h _ e1) (fun _ _ q => q) cal_X_findLeaks rfl tg_32 ct_8 ww_14 ww_1096 ww_1094 (by decide) (by simp [Value.category]) d_X_leaks_12 rfl ⟨rfl, rfl⟩ rfl ?_
      refine MM.iload_n (i := 1) rfl rfl d_X_leaks_15 rfl ?_
      obtain ⟨k5, e14, hf⟩ := mm_jpE hf
      have K4 : ∀ j3, k5 j3 = some r → MM V l Y_X_leaks 3 0 0 Z0 32 [(0, .ref 32), (1, .int x1)] [] v2 := by
        intro j3 hf
        rw [e14] at hf
        refine MM.aload_n (i := 0) rfl rfl d_X_leaks_32 rfl ?_
        refine MM.gR 8 46 tg_32 rq_8_13 rfl lays_8 ww_485 d_X_leaks_33 rfl ?_
        refine MM.iload_n (i := 1) rfl rfl d_X_leaks_36 rfl ?_
        obtain ⟨k6, e7, hf⟩ := mm_bind hf
        refine MM.gI e7 al_78 d_X_leaks_37 rfl ?_
        obtain rfl := Option.some.inj hf
        subst hZ
        exact MM.iret rfl d_X_leaks_38 ⟨rfl, rfl⟩
      clear e14
      obtain ⟨m12, m13⟩ := mm_ifE hf
      refine MM.if_le (tgt := 32) d_X_leaks_16 rfl rfl (fun c11 => ?_) (fun c11 => ?_)
      · replace hf := m12 c11
        exact MM.sub [0, 1] (by rfl) (K4 _ hf)
      · replace hf := m13 c11
        refine MM.aload_n (i := 0) rfl rfl d_X_leaks_19 rfl ?_
        refine MM.gR 8 46 tg_32 rq_8_13 rfl lays_8 ww_485 d_X_leaks_20 rfl ?_
        refine MM.iconst ic_0 d_X_leaks_23 rfl ?_
        refine MM.gI ix_0_4 al_78 d_X_leaks_24 rfl ?_
        obtain ⟨m9, m10⟩ := mm_ifE hf
        refine MM.if_ne (tgt := 32) d_X_leaks_25 rfl rfl (fun c8 => ?_) (fun c8 => ?_)
        · replace hf := m10 c8
          exact MM.sub [0, 1] (by rfl) (K4 _ hf)
        · replace hf := m9 c8
          refine MM.iconst ic_m1 d_X_leaks_28 rfl ?_
          refine MM.goto (tgt := 38) d_X_leaks_29 rfl ?_
          obtain rfl := Option.some.inj hf
          subst hZ
          exact MM.iret rfl d_X_leaks_38 ⟨rfl, rfl⟩
    · replace hf := m17 c15
      refine MM.iconst ic_m1 d_X_leaks_9 rfl ?_
      obtain rfl := Option.some.inj hf
      subst hZ
      exact MM.iret rfl d_X_leaks_10 ⟨rfl, rfl⟩
theorem d_To_agrees_0 : decode cX8_agrees 0 = .ok (.iconst 0, 1) := by decide +kernel
theorem d_To_agrees_1 : decode cX8_agrees 1 = .ok (.istore_n 2, 1) := by decide +kernel
theorem d_To_agrees_2 : decode cX8_agrees 2 = .ok (.iload_n 2, 1) := by decide +kernel
theorem d_To_agrees_3 : decode cX8_agrees 3 = .ok (.aload_n 0, 1) := by decide +kernel
theorem d_To_agrees_4 : decode cX8_agrees 4 = .ok (.getfield 32, 3) := by decide +kernel
theorem d_To_agrees_7 : decode cX8_agrees 7 = .ok (.if_icmp .ge 32, 3) := by decide +kernel
theorem d_To_agrees_10 : decode cX8_agrees 10 = .ok (.iload_n 1, 1) := by decide +kernel
theorem d_To_agrees_11 : decode cX8_agrees 11 = .ok (.iload_n 2, 1) := by decide +kernel
theorem d_To_agrees_12 : decode cX8_agrees 12 = .ok (.invokestatic 103, 3) := by decide +kernel
theorem d_To_agrees_15 : decode cX8_agrees 15 = .ok (.ifCond .ne 18, 3) := by decide +kernel
theorem d_To_agrees_18 : decode cX8_agrees 18 = .ok (.aload_n 0, 1) := by decide +kernel
theorem d_To_agrees_19 : decode cX8_agrees 19 = .ok (.getfield 68, 3) := by decide +kernel
theorem d_To_agrees_22 : decode cX8_agrees 22 = .ok (.iload_n 2, 1) := by decide +kernel
theorem d_To_agrees_23 : decode cX8_agrees 23 = .ok (.iaload, 1) := by decide +kernel
theorem d_To_agrees_24 : decode cX8_agrees 24 = .ok (.iload_n 1, 1) := by decide +kernel
theorem d_To_agrees_25 : decode cX8_agrees 25 = .ok (.iconst (-1), 1) := by decide +kernel
theorem d_To_agrees_26 : decode cX8_agrees 26 = .ok (.ixor, 1) := by decide +kernel
theorem d_To_agrees_27 : decode cX8_agrees 27 = .ok (.iand, 1) := by decide +kernel
theorem d_To_agrees_28 : decode cX8_agrees 28 = .ok (.ifCond .eq 5, 3) := by decide +kernel
theorem d_To_agrees_31 : decode cX8_agrees 31 = .ok (.iconst 0, 1) := by decide +kernel
theorem d_To_agrees_32 : decode cX8_agrees 32 = .ok (.ireturn, 1) := by decide +kernel
theorem d_To_agrees_33 : decode cX8_agrees 33 = .ok (.iinc 2 1, 3) := by decide +kernel
theorem d_To_agrees_36 : decode cX8_agrees 36 = .ok (.goto (-34), 3) := by decide +kernel
theorem d_To_agrees_39 : decode cX8_agrees 39 = .ok (.iconst 1, 1) := by decide +kernel
theorem d_To_agrees_40 : decode cX8_agrees 40 = .ok (.ireturn, 1) := by decide +kernel
noncomputable def f_To_agrees (a0 : Nat) (x1 : Int32) (h : mm_H) : Option Int32 := if mm_tg a0 = 7 then (mm_while (σ := Int32) (ρ := Int32) (fun s1 => if (h.1 a0 6) ≤ s1 then (some (Sum.inr 1)) else ((f_X_bit x1 s1).bind fun v5 => mm_jp (fun (j6 : Unit) => (mm_let (s1 + 1) fun y9 => some (Sum.inl y9))) fun k8 => if v5 = 0 then ((mm_ix s1 10).bind fun k11 => if ((h.1 (a0 + 13) k11) &&& (x1 ^^^ (-1))) = 0 then (k8 ()) else (some (Sum.inr 0))) else (k8 ()))) 0) else none
theorem T_To_agrees (V : mm_V) (l : Launch) (a0 : Nat) (x1 : Int32) (h : mm_H) (r : Int32) (hf : f_To_agrees a0 x1 h = some r) : MT V l Y_To_agrees 2 [.ref a0, .int x1] (fun r1 h1 => r1 = some (.int r) ∧ h1 = h) h := by
  unfold f_To_agrees at hf
  obtain ⟨t_a0, hf⟩ := mm_chkE hf
  refine MT.intro (pn_To rfl) [(0, .ref a0), (1, .int x1)] rfl (Nat.le_of_ble_eq_true rfl) ?_
  generalize hZ : mm_Z V _ = Z0
  refine MM.iconst ic_0 d_To_agrees_0 rfl ?_
  refine MM.istore_n (i := 2) (lv' := [(2, .int 0), (0, .ref a0), (1, .int x1)]) rfl rfl (Nat.le_of_ble_eq_true rfl) rfl d_To_agrees_1 rfl ?_
  refine MM.sub [1, 2, 0] (by rfl) (mm_while_ind (fun s1 => MM V l Y_To_agrees 2 0 0 Z0 2 [(0, .ref a0), (1, .int x1), (2, .int s1)] [] h) hf (fun s1 q2 hf hx3 => ?_))
  refine MM.iload_n (i := 2) rfl rfl d_To_agrees_2 rfl ?_
  refine MM.aload_n (i := 0) rfl rfl d_To_agrees_3 rfl ?_
  refine MM.getI 7 t_a0 lays_7 gq_7_6 ww_385 d_To_agrees_4 rfl ?_
  obtain ⟨m21, m22⟩ := mm_ifE hf
  refine MM.icmp_ge (tgt := 39) d_To_agrees_7 rfl rfl (fun c20 => ?_) (fun c20 => ?_)
  · replace hf := m21 c20
    refine MM.iconst ic_1 d_To_agrees_39 rfl ?_
    obtain rfl := Option.some.inj hf
    replace hf := mm_wxR hx3
    obtain rfl := Option.some.inj hf
    subst hZ
    exact MM.zret (Or.inr rfl) rfl d_To_agrees_40 ⟨rfl, rfl⟩
  · replace hf := m22 c20
    refine MM.iload_n (i := 1) rfl rfl d_To_agrees_10 rfl ?_
    refine MM.iload_n (i := 2) rfl rfl d_To_agrees_11 rfl ?_
    obtain ⟨v5, e4, hf⟩ := mm_bind hf
    refine MM.callSN1 (T_X_bit V l x1 s1 h _ e4) (fun _ _ q => q) cal_X_bit rfl ww_763 ww_762n (by decide) (by simp [Value.category]) d_To_agrees_12 rfl ⟨rfl, rfl⟩ rfl ?_
    obtain ⟨k8, e19, hf⟩ := mm_jpE hf
    have K7 : ∀ j6, k8 j6 = some q2 → MM V l Y_To_agrees 2 0 0 Z0 33 [(0, .ref a0), (1, .int x1), (2, .int s1)] [] h := by
      intro j6 hf
      rw [e19] at hf
      obtain ⟨y9, e10, hf⟩ := mm_letE hf
      refine MM.iinc (k0 := 2) (lv' := [(2, .int y9), (0, .ref a0), (1, .int x1)]) (by rw [ic_1]; exact e10) rfl (Nat.le_of_ble_eq_true rfl) rfl d_To_agrees_33 rfl ?_
      refine MM.goto (tgt := 2) d_To_agrees_36 rfl ?_
      obtain rfl := Option.some.inj hf
      have h9 := mm_wxL hx3
      exact MM.sub [1, 2, 0] (by rfl) h9
    clear e19
    obtain ⟨m17, m18⟩ := mm_ifE hf
    refine MM.if_ne (tgt := 33) d_To_agrees_15 rfl rfl (fun c16 => ?_) (fun c16 => ?_)
    · replace hf := m18 c16
      exact MM.sub [0, 1, 2] (by rfl) (K7 _ hf)
    · replace hf := m17 c16
      refine MM.aload_n (i := 0) rfl rfl d_To_agrees_18 rfl ?_
      refine MM.gR 7 13 t_a0 rq_7_18 rfl lays_7 ww_425 d_To_agrees_19 rfl ?_
      refine MM.iload_n (i := 2) rfl rfl d_To_agrees_22 rfl ?_
      obtain ⟨k11, e12, hf⟩ := mm_bind hf
      refine MM.gI e12 (al_7_18f t_a0) d_To_agrees_23 rfl ?_
      refine MM.iload_n (i := 1) rfl rfl d_To_agrees_24 rfl ?_
      refine MM.iconst ic_m1 d_To_agrees_25 rfl ?_
      refine MM.ixor d_To_agrees_26 rfl ?_
      refine MM.iand d_To_agrees_27 rfl ?_
      obtain ⟨m14, m15⟩ := mm_ifE hf
      refine MM.if_eq (tgt := 33) d_To_agrees_28 rfl rfl (fun c13 => ?_) (fun c13 => ?_)
      · replace hf := m14 c13
        exact MM.sub [0, 1, 2] (by rfl) (K7 _ hf)
      · replace hf := m15 c13
        refine MM.iconst ic_0 d_To_agrees_31 rfl ?_
        obtain rfl := Option.some.inj hf
        replace hf := mm_wxR hx3
        obtain rfl := Option.some.inj hf
        subst hZ
        exact MM.zret (Or.inl rfl) rfl d_To_agrees_32 ⟨rfl, rfl⟩
