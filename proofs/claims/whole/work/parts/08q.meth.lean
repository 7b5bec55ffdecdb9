/-! methods: M_plot, M_see, M_isAsSeen, M_leaks, M_isClashing, M_lies, M_laysHears, M_night, M_nights, M_mean -/
theorem d_M_plot_0 : decode cX12_plot 0 = .ok (.aload_n 0, 1) := by decide +kernel
theorem d_M_plot_1 : decode cX12_plot 1 = .ok (.aload_n 0, 1) := by decide +kernel
theorem d_M_plot_2 : decode cX12_plot 2 = .ok (.iload_n 1, 1) := by decide +kernel
theorem d_M_plot_3 : decode cX12_plot 3 = .ok (.iload_n 2, 1) := by decide +kernel
theorem d_M_plot_4 : decode cX12_plot 4 = .ok (.invokevirtual 448, 3) := by decide +kernel
theorem d_M_plot_7 : decode cX12_plot 7 = .ok (.ifCond .eq 26, 3) := by decide +kernel
theorem d_M_plot_10 : decode cX12_plot 10 = .ok (.iload_n 3, 1) := by decide +kernel
theorem d_M_plot_11 : decode cX12_plot 11 = .ok (.iconst 0, 1) := by decide +kernel
theorem d_M_plot_12 : decode cX12_plot 12 = .ok (.iconst 2, 1) := by decide +kernel
theorem d_M_plot_13 : decode cX12_plot 13 = .ok (.invokestatic 308, 3) := by decide +kernel
theorem d_M_plot_16 : decode cX12_plot 16 = .ok (.ifCond .eq 17, 3) := by decide +kernel
theorem d_M_plot_19 : decode cX12_plot 19 = .ok (.iload 4, 2) := by decide +kernel
theorem d_M_plot_21 : decode cX12_plot 21 = .ok (.iconst 0, 1) := by decide +kernel
theorem d_M_plot_22 : decode cX12_plot 22 = .ok (.iconst 3, 1) := by decide +kernel
theorem d_M_plot_23 : decode cX12_plot 23 = .ok (.invokestatic 308, 3) := by decide +kernel
theorem d_M_plot_26 : decode cX12_plot 26 = .ok (.ifCond .eq 7, 3) := by decide +kernel
theorem d_M_plot_29 : decode cX12_plot 29 = .ok (.iconst 0, 1) := by decide +kernel
theorem d_M_plot_30 : decode cX12_plot 30 = .ok (.goto 4, 3) := by decide +kernel
theorem d_M_plot_33 : decode cX12_plot 33 = .ok (.iconst 1, 1) := by decide +kernel
theorem d_M_plot_34 : decode cX12_plot 34 = .ok (.putfield 175, 3) := by decide +kernel
theorem d_M_plot_37 : decode cX12_plot 37 = .ok (.aload_n 0, 1) := by decide +kernel
theorem d_M_plot_38 : decode cX12_plot 38 = .ok (.getfield 175, 3) := by decide +kernel
theorem d_M_plot_41 : decode cX12_plot 41 = .ok (.iconst 1, 1) := by decide +kernel
theorem d_M_plot_42 : decode cX12_plot 42 = .ok (.if_icmp .ne 5, 3) := by decide +kernel
theorem d_M_plot_45 : decode cX12_plot 45 = .ok (.iconst 0, 1) := by decide +kernel
theorem d_M_plot_46 : decode cX12_plot 46 = .ok (.ireturn, 1) := by decide +kernel
theorem d_M_plot_47 : decode cX12_plot 47 = .ok (.aload_n 0, 1) := by decide +kernel
theorem d_M_plot_48 : decode cX12_plot 48 = .ok (.iconst (-1), 1) := by decide +kernel
theorem d_M_plot_49 : decode cX12_plot 49 = .ok (.putfield 501, 3) := by decide +kernel
theorem d_M_plot_52 : decode cX12_plot 52 = .ok (.aload_n 0, 1) := by decide +kernel
theorem d_M_plot_53 : decode cX12_plot 53 = .ok (.iload_n 1, 1) := by decide +kernel
theorem d_M_plot_54 : decode cX12_plot 54 = .ok (.iload_n 2, 1) := by decide +kernel
theorem d_M_plot_55 : decode cX12_plot 55 = .ok (.iconst 0, 1) := by decide +kernel
theorem d_M_plot_56 : decode cX12_plot 56 = .ok (.iload_n 3, 1) := by decide +kernel
theorem d_M_plot_57 : decode cX12_plot 57 = .ok (.invokevirtual 507, 3) := by decide +kernel
theorem d_M_plot_60 : decode cX12_plot 60 = .ok (.iload 4, 2) := by decide +kernel
theorem d_M_plot_62 : decode cX12_plot 62 = .ok (.ifCond .ne 10, 3) := by decide +kernel
theorem d_M_plot_65 : decode cX12_plot 65 = .ok (.aload_n 0, 1) := by decide +kernel
theorem d_M_plot_66 : decode cX12_plot 66 = .ok (.getfield 504, 3) := by decide +kernel
theorem d_M_plot_69 : decode cX12_plot 69 = .ok (.goto 25, 3) := by decide +kernel
theorem d_M_plot_72 : decode cX12_plot 72 = .ok (.iload 4, 2) := by decide +kernel
theorem d_M_plot_74 : decode cX12_plot 74 = .ok (.iconst 1, 1) := by decide +kernel
theorem d_M_plot_75 : decode cX12_plot 75 = .ok (.if_icmp .ne 10, 3) := by decide +kernel
theorem d_M_plot_78 : decode cX12_plot 78 = .ok (.aload_n 0, 1) := by decide +kernel
theorem d_M_plot_79 : decode cX12_plot 79 = .ok (.getfield 501, 3) := by decide +kernel
theorem d_M_plot_82 : decode cX12_plot 82 = .ok (.goto 12, 3) := by decide +kernel
theorem d_M_plot_85 : decode cX12_plot 85 = .ok (.aload_n 0, 1) := by decide +kernel
theorem d_M_plot_86 : decode cX12_plot 86 = .ok (.getfield 154, 3) := by decide +kernel
theorem d_M_plot_89 : decode cX12_plot 89 = .ok (.iload 4, 2) := by decide +kernel
theorem d_M_plot_91 : decode cX12_plot 91 = .ok (.iconst 2, 1) := by decide +kernel
theorem d_M_plot_92 : decode cX12_plot 92 = .ok (.isub, 1) := by decide +kernel
theorem d_M_plot_93 : decode cX12_plot 93 = .ok (.iaload, 1) := by decide +kernel
theorem d_M_plot_94 : decode cX12_plot 94 = .ok (.ireturn, 1) := by decide +kernel
noncomputable def f_M_plot (x1 : Int32) (x2 : Int32) (x3 : Int32) (x4 : Int32) (h : mm_H) : Option (Int32 × mm_H) := (f_M_areTwo x1 x2 h).bind fun v2 => (if v2 = 0 then (some 1) else ((f_M_within x3 0 2).bind fun v6 => if v6 = 0 then (some 1) else ((f_M_within x4 0 3).bind fun v8 => if v8 = 0 then (some 1) else (some 0))) : Option Int32).bind fun j3 => mm_let (mm_pI h 261 0 j3) fun h18 => if (h18.1 261 0) = 1 then (some (0, h18)) else (mm_let (mm_pI h18 261 61 (-1)) fun h20 => (f_M_plots x1 x2 0 x3 h20).bind fun v23 => if x4 = 0 then (some ((v23.1 261 60), v23)) else (if x4 = 1 then (some ((v23.1 261 61), v23)) else ((mm_ix (x4 - 2) 2).bind fun k24 => some ((v23.1 309 k24), v23))))
theorem T_M_plot (V : mm_V) (l : Launch) (x1 : Int32) (x2 : Int32) (x3 : Int32) (x4 : Int32) (h : mm_H) (r : (Int32 × mm_H)) (hf : f_M_plot x1 x2 x3 x4 h = some r) : MT V l Y_M_plot 25 [.ref 261, .int x1, .int x2, .int x3, .int x4] (fun r1 h1 => r1 = some (.int r.1) ∧ h1 = r.2) h := by
  unfold f_M_plot at hf
  refine MT.intro (pn_M rfl) [(0, .ref 261), (1, .int x1), (2, .int x2), (3, .int x3), (4, .int x4)] rfl (Nat.le_of_ble_eq_true rfl) ?_
  generalize hZ : mm_Z V _ = Z0
  refine MM.aload_n (i := 0) rfl rfl d_M_plot_0 rfl ?_
  refine MM.aload_n (i := 0) rfl rfl d_M_plot_1 rfl ?_
  refine MM.iload_n (i := 1) rfl rfl d_M_plot_2 rfl ?_
  refine MM.iload_n (i := 2) rfl rfl d_M_plot_3 rfl ?_
  obtain ⟨v2, e1, hf⟩ := mm_bind hf
  refine MM.callV1 (T_M_areTwo V l x1 x2 h _ e1) (fun _ _ q => q) cal_M_areTwo rfl tg_261 ct_9 ww_83 ww_1831 ww_1829 (by decide) (by simp [Value.category]) d_M_plot_4 rfl ⟨rfl, rfl⟩ rfl ?_
  obtain ⟨j3, e35, hf⟩ := mm_bind hf
  have K4 : MM V l Y_M_plot 25 0 0 Z0 34 [(0, .ref 261), (1, .int x1), (2, .int x2), (3, .int x3), (4, .int x4)] [.int j3, .ref 261] h := by
    obtain ⟨h18, e19, hf⟩ := mm_letE hf
    refine MM.putI e19 9 tg_261 lays_9 toks_9 pq_9_0 ww_1358 d_M_plot_34 rfl ?_
    refine MM.aload_n (i := 0) rfl rfl d_M_plot_37 rfl ?_
    refine MM.getI 9 tg_261 lays_9 gq_9_0 ww_1358 d_M_plot_38 rfl ?_
    refine MM.iconst ic_1 d_M_plot_41 rfl ?_
    obtain ⟨m33, m34⟩ := mm_ifE hf
    refine MM.icmp_ne (tgt := 47) d_M_plot_42 rfl rfl (fun c32 => ?_) (fun c32 => ?_)
    · replace hf := m34 c32
      refine MM.aload_n (i := 0) rfl rfl d_M_plot_47 rfl ?_
      refine MM.iconst ic_m1 d_M_plot_48 rfl ?_
      obtain ⟨h20, e21, hf⟩ := mm_letE hf
      refine MM.putI e21 9 tg_261 lays_9 toks_9 pq_9_61 ww_1419 d_M_plot_49 rfl ?_
      refine MM.aload_n (i := 0) rfl rfl d_M_plot_52 rfl ?_
      refine MM.iload_n (i := 1) rfl rfl d_M_plot_53 rfl ?_
      refine MM.iload_n (i := 2) rfl rfl d_M_plot_54 rfl ?_
      refine MM.iconst ic_0 d_M_plot_55 rfl ?_
      refine MM.iload_n (i := 3) rfl rfl d_M_plot_56 rfl ?_
      obtain ⟨v23, e22, hf⟩ := mm_bind hf
      refine MM.callV0 (T_M_plots V l x1 x2 0 x3 h20 _ e22) (fun _ _ q => q) cal_M_plots rfl tg_261 ct_9 ww_97 ww_1938 ww_1936 (by decide) (by simp [Value.category]) d_M_plot_57 rfl ⟨rfl, rfl⟩ rfl ?_
      refine MM.iload rfl d_M_plot_60 rfl ?_
      obtain ⟨m30, m31⟩ := mm_ifE hf
      refine MM.if_ne (tgt := 72) d_M_plot_62 rfl rfl (fun c29 => ?_) (fun c29 => ?_)
      · replace hf := m31 c29
        refine MM.iload rfl d_M_plot_72 rfl ?_
        refine MM.iconst ic_1 d_M_plot_74 rfl ?_
        obtain ⟨m27, m28⟩ := mm_ifE hf
        refine MM.icmp_ne (tgt := 85) d_M_plot_75 rfl rfl (fun c26 => ?_) (fun c26 => ?_)
        · replace hf := m28 c26
          refine MM.aload_n (i := 0) rfl rfl d_M_plot_85 rfl ?_
          refine MM.gR 9 48 tg_261 rq_9_59 rfl lays_9 ww_1417 d_M_plot_86 rfl ?_
          refine MM.iload rfl d_M_plot_89 rfl ?_
          refine MM.iconst ic_2 d_M_plot_91 rfl ?_
          refine MM.isub d_M_plot_92 rfl ?_
          obtain ⟨k24, e25, hf⟩ := mm_bind hf
          refine MM.gI e25 al_309 d_M_plot_93 rfl ?_
          obtain rfl := Option.some.inj hf
          subst hZ
          exact MM.iret rfl d_M_plot_94 ⟨rfl, rfl⟩
        · replace hf := m27 c26
          refine MM.aload_n (i := 0) rfl rfl d_M_plot_78 rfl ?_
          refine MM.getI 9 tg_261 lays_9 gq_9_61 ww_1419 d_M_plot_79 rfl ?_
          refine MM.goto (tgt := 94) d_M_plot_82 rfl ?_
          obtain rfl := Option.some.inj hf
          subst hZ
          exact MM.iret rfl d_M_plot_94 ⟨rfl, rfl⟩
      · replace hf := m30 c29
        refine MM.aload_n (i := 0) rfl rfl d_M_plot_65 rfl ?_
        refine MM.getI 9 tg_261 lays_9 gq_9_60 ww_1418 d_M_plot_66 rfl ?_
        refine MM.goto (tgt := 94) d_M_plot_69 rfl ?_
        obtain rfl := Option.some.inj hf
        subst hZ
        exact MM.iret rfl d_M_plot_94 ⟨rfl, rfl⟩
    · replace hf := m33 c32
      refine MM.iconst ic_0 d_M_plot_45 rfl ?_
      obtain rfl := Option.some.inj hf
      subst hZ
      exact MM.iret rfl d_M_plot_46 ⟨rfl, rfl⟩
  clear hf
  have hf := e35
  clear e35
  obtain ⟨m16, m17⟩ := mm_ifE hf
  refine MM.if_eq (tgt := 33) d_M_plot_7 rfl rfl (fun c15 => ?_) (fun c15 => ?_)
  · replace hf := m16 c15
    refine MM.iconst ic_1 d_M_plot_33 rfl ?_
    obtain rfl := Option.some.inj hf
    exact MM.sub [0, 1, 2, 3, 4] (by rfl) K4
  · replace hf := m17 c15
    refine MM.iload_n (i := 3) rfl rfl d_M_plot_10 rfl ?_
    refine MM.iconst ic_0 d_M_plot_11 rfl ?_
    refine MM.iconst ic_2 d_M_plot_12 rfl ?_
    obtain ⟨v6, e5, hf⟩ := mm_bind hf
    refine MM.callS1 (T_M_within V l x3 0 2 h _ e5) (fun _ _ q => q) cal_M_within rfl ww_1669 ww_1668 (by decide) (by simp [Value.category]) d_M_plot_13 rfl ⟨rfl, rfl⟩ rfl ?_
    obtain ⟨m13, m14⟩ := mm_ifE hf
    refine MM.if_eq (tgt := 33) d_M_plot_16 rfl rfl (fun c12 => ?_) (fun c12 => ?_)
    · replace hf := m13 c12
      refine MM.iconst ic_1 d_M_plot_33 rfl ?_
      obtain rfl := Option.some.inj hf
      exact MM.sub [0, 1, 2, 3, 4] (by rfl) K4
    · replace hf := m14 c12
      refine MM.iload rfl d_M_plot_19 rfl ?_
      refine MM.iconst ic_0 d_M_plot_21 rfl ?_
      refine MM.iconst ic_3 d_M_plot_22 rfl ?_
      obtain ⟨v8, e7, hf⟩ := mm_bind hf
      refine MM.callS1 (T_M_within V l x4 0 3 h _ e7) (fun _ _ q => q) cal_M_within rfl ww_1669 ww_1668 (by decide) (by simp [Value.category]) d_M_plot_23 rfl ⟨rfl, rfl⟩ rfl ?_
      obtain ⟨m10, m11⟩ := mm_ifE hf
      refine MM.if_eq (tgt := 33) d_M_plot_26 rfl rfl (fun c9 => ?_) (fun c9 => ?_)
      · replace hf := m10 c9
        refine MM.iconst ic_1 d_M_plot_33 rfl ?_
        obtain rfl := Option.some.inj hf
        exact MM.sub [0, 1, 2, 3, 4] (by rfl) K4
      · replace hf := m11 c9
        refine MM.iconst ic_0 d_M_plot_29 rfl ?_
        refine MM.goto (tgt := 34) d_M_plot_30 rfl ?_
        obtain rfl := Option.some.inj hf
        exact MM.sub [0, 1, 2, 3, 4] (by rfl) K4
theorem d_M_see_0 : decode cX12_see 0 = .ok (.aload_n 0, 1) := by decide +kernel
theorem d_M_see_1 : decode cX12_see 1 = .ok (.iconst 0, 1) := by decide +kernel
theorem d_M_see_2 : decode cX12_see 2 = .ok (.putfield 175, 3) := by decide +kernel
theorem d_M_see_5 : decode cX12_see 5 = .ok (.aload_n 0, 1) := by decide +kernel
theorem d_M_see_6 : decode cX12_see 6 = .ok (.iload_n 1, 1) := by decide +kernel
theorem d_M_see_7 : decode cX12_see 7 = .ok (.invokevirtual 445, 3) := by decide +kernel
theorem d_M_see_10 : decode cX12_see 10 = .ok (.ifCond .eq 14, 3) := by decide +kernel
theorem d_M_see_13 : decode cX12_see 13 = .ok (.aload_n 0, 1) := by decide +kernel
theorem d_M_see_14 : decode cX12_see 14 = .ok (.getfield 120, 3) := by decide +kernel
theorem d_M_see_17 : decode cX12_see 17 = .ok (.iconst 0, 1) := by decide +kernel
theorem d_M_see_18 : decode cX12_see 18 = .ok (.iaload, 1) := by decide +kernel
theorem d_M_see_19 : decode cX12_see 19 = .ok (.bipush 10, 2) := by decide +kernel
theorem d_M_see_21 : decode cX12_see 21 = .ok (.if_icmp .ne 5, 3) := by decide +kernel
theorem d_M_see_24 : decode cX12_see 24 = .ok (.iconst 0, 1) := by decide +kernel
theorem d_M_see_25 : decode cX12_see 25 = .ok (.ireturn, 1) := by decide +kernel
theorem d_M_see_26 : decode cX12_see 26 = .ok (.aload_n 0, 1) := by decide +kernel
theorem d_M_see_27 : decode cX12_see 27 = .ok (.getfield 123, 3) := by decide +kernel
theorem d_M_see_30 : decode cX12_see 30 = .ok (.aload_n 0, 1) := by decide +kernel
theorem d_M_see_31 : decode cX12_see 31 = .ok (.getfield 120, 3) := by decide +kernel
theorem d_M_see_34 : decode cX12_see 34 = .ok (.iconst 0, 1) := by decide +kernel
theorem d_M_see_35 : decode cX12_see 35 = .ok (.iaload, 1) := by decide +kernel
theorem d_M_see_36 : decode cX12_see 36 = .ok (.iload_n 1, 1) := by decide +kernel
theorem d_M_see_37 : decode cX12_see 37 = .ok (.iastore, 1) := by decide +kernel
theorem d_M_see_38 : decode cX12_see 38 = .ok (.aload_n 0, 1) := by decide +kernel
theorem d_M_see_39 : decode cX12_see 39 = .ok (.getfield 126, 3) := by decide +kernel
theorem d_M_see_42 : decode cX12_see 42 = .ok (.aload_n 0, 1) := by decide +kernel
theorem d_M_see_43 : decode cX12_see 43 = .ok (.getfield 120, 3) := by decide +kernel
theorem d_M_see_46 : decode cX12_see 46 = .ok (.iconst 0, 1) := by decide +kernel
theorem d_M_see_47 : decode cX12_see 47 = .ok (.iaload, 1) := by decide +kernel
theorem d_M_see_48 : decode cX12_see 48 = .ok (.iload_n 2, 1) := by decide +kernel
theorem d_M_see_49 : decode cX12_see 49 = .ok (.bastore, 1) := by decide +kernel
theorem d_M_see_50 : decode cX12_see 50 = .ok (.aload_n 0, 1) := by decide +kernel
theorem d_M_see_51 : decode cX12_see 51 = .ok (.getfield 120, 3) := by decide +kernel
theorem d_M_see_54 : decode cX12_see 54 = .ok (.iconst 0, 1) := by decide +kernel
theorem d_M_see_55 : decode cX12_see 55 = .ok (.dup2, 1) := by decide +kernel
theorem d_M_see_56 : decode cX12_see 56 = .ok (.iaload, 1) := by decide +kernel
theorem d_M_see_57 : decode cX12_see 57 = .ok (.iconst 1, 1) := by decide +kernel
theorem d_M_see_58 : decode cX12_see 58 = .ok (.iadd, 1) := by decide +kernel
theorem d_M_see_59 : decode cX12_see 59 = .ok (.iastore, 1) := by decide +kernel
theorem d_M_see_60 : decode cX12_see 60 = .ok (.iconst 1, 1) := by decide +kernel
theorem d_M_see_61 : decode cX12_see 61 = .ok (.ireturn, 1) := by decide +kernel
noncomputable def f_M_see (x1 : Int32) (x2 : Int32) (h : mm_H) : Option (Int32 × mm_H) := mm_let (mm_pI h 261 0 0) fun h1 => (f_M_isSecret x1 h1).bind fun v4 => if v4 = 0 then (some (0, h1)) else (if (h1.1 298 0) = 10 then (some (0, h1)) else ((mm_ix (h1.1 298 0) 50).bind fun k5 => mm_let (mm_pI h1 299 k5 x1) fun h7 => (mm_ix (h7.1 298 0) 50).bind fun k9 => mm_let (mm_pI h7 300 k9 (x2 &&& 1)) fun h11 => mm_let (mm_pI h11 298 0 ((h11.1 298 0) + 1)) fun h13 => some (1, h13)))
theorem T_M_see (V : mm_V) (l : Launch) (x1 : Int32) (x2 : Int32) (h : mm_H) (r : (Int32 × mm_H)) (hf : f_M_see x1 x2 h = some r) : MT V l Y_M_see 2 [.ref 261, .int x1, .int x2] (fun r1 h1 => r1 = some (.int r.1) ∧ h1 = r.2) h := by
  unfold f_M_see at hf
  refine MT.intro (pn_M rfl) [(0, .ref 261), (1, .int x1), (2, .int x2)] rfl (Nat.le_of_ble_eq_true rfl) ?_
  generalize hZ : mm_Z V _ = Z0
  refine MM.aload_n (i := 0) rfl rfl d_M_see_0 rfl ?_
  refine MM.iconst ic_0 d_M_see_1 rfl ?_
  obtain ⟨h1, e2, hf⟩ := mm_letE hf
  refine MM.putI e2 9 tg_261 lays_9 toks_9 pq_9_0 ww_1358 d_M_see_2 rfl ?_
  refine MM.aload_n (i := 0) rfl rfl d_M_see_5 rfl ?_
  refine MM.iload_n (i := 1) rfl rfl d_M_see_6 rfl ?_
  obtain ⟨v4, e3, hf⟩ := mm_bind hf
  refine MM.callV1 (T_M_isSecret V l x1 h1 _ e3) (fun _ _ q => q) cal_M_isSecret rfl tg_261 ct_9 ww_82 ww_1823 ww_1821 (by decide) (by simp [Value.category]) d_M_see_7 rfl ⟨rfl, rfl⟩ rfl ?_
  obtain ⟨m19, m20⟩ := mm_ifE hf
  refine MM.if_eq (tgt := 24) d_M_see_10 rfl rfl (fun c18 => ?_) (fun c18 => ?_)
  · replace hf := m19 c18
    refine MM.iconst ic_0 d_M_see_24 rfl ?_
    obtain rfl := Option.some.inj hf
    subst hZ
    exact MM.zret (Or.inl rfl) rfl d_M_see_25 ⟨rfl, rfl⟩
  · replace hf := m20 c18
    refine MM.aload_n (i := 0) rfl rfl d_M_see_13 rfl ?_
    refine MM.gR 9 37 tg_261 rq_9_47 rfl lays_9 ww_1405 d_M_see_14 rfl ?_
    refine MM.iconst ic_0 d_M_see_17 rfl ?_
    refine MM.gI ix_0_5 al_298 d_M_see_18 rfl ?_
    refine MM.bipush bp_10 d_M_see_19 rfl ?_
    obtain ⟨m16, m17⟩ := mm_ifE hf
    refine MM.icmp_ne (tgt := 26) d_M_see_21 rfl rfl (fun c15 => ?_) (fun c15 => ?_)
    · replace hf := m17 c15
      refine MM.aload_n (i := 0) rfl rfl d_M_see_26 rfl ?_
      refine MM.gR 9 38 tg_261 rq_9_48 rfl lays_9 ww_1406 d_M_see_27 rfl ?_
      refine MM.aload_n (i := 0) rfl rfl d_M_see_30 rfl ?_
      refine MM.gR 9 37 tg_261 rq_9_47 rfl lays_9 ww_1405 d_M_see_31 rfl ?_
      refine MM.iconst ic_0 d_M_see_34 rfl ?_
      refine MM.gI ix_0_5 al_298 d_M_see_35 rfl ?_
      refine MM.iload_n (i := 1) rfl rfl d_M_see_36 rfl ?_
      obtain ⟨k5, e6, hf⟩ := mm_bind hf
      obtain ⟨h7, e8, hf⟩ := mm_letE hf
      refine MM.sI e6 e8 al_299 d_M_see_37 rfl ?_
      refine MM.aload_n (i := 0) rfl rfl d_M_see_38 rfl ?_
      refine MM.gR 9 39 tg_261 rq_9_49 rfl lays_9 ww_1407 d_M_see_39 rfl ?_
      refine MM.aload_n (i := 0) rfl rfl d_M_see_42 rfl ?_
      refine MM.gR 9 37 tg_261 rq_9_47 rfl lays_9 ww_1405 d_M_see_43 rfl ?_
      refine MM.iconst ic_0 d_M_see_46 rfl ?_
      refine MM.gI ix_0_5 al_298 d_M_see_47 rfl ?_
      refine MM.iload_n (i := 2) rfl rfl d_M_see_48 rfl ?_
      obtain ⟨k9, e10, hf⟩ := mm_bind hf
      obtain ⟨h11, e12, hf⟩ := mm_letE hf
      refine MM.sZ e10 e12 al_300 d_M_see_49 rfl ?_
      refine MM.aload_n (i := 0) rfl rfl d_M_see_50 rfl ?_
      refine MM.gR 9 37 tg_261 rq_9_47 rfl lays_9 ww_1405 d_M_see_51 rfl ?_
      refine MM.iconst ic_0 d_M_see_54 rfl ?_
      refine MM.dup2 rfl rfl d_M_see_55 rfl ?_
      refine MM.gI ix_0_5 al_298 d_M_see_56 rfl ?_
      refine MM.iconst ic_1 d_M_see_57 rfl ?_
      refine MM.iadd d_M_see_58 rfl ?_
      obtain ⟨h13, e14, hf⟩ := mm_letE hf
      refine MM.sI ix_0_5 e14 al_298 d_M_see_59 rfl ?_
      refine MM.iconst ic_1 d_M_see_60 rfl ?_
      obtain rfl := Option.some.inj hf
      subst hZ
      exact MM.zret (Or.inr rfl) rfl d_M_see_61 ⟨rfl, rfl⟩
    · replace hf := m16 c15
      refine MM.iconst ic_0 d_M_see_24 rfl ?_
      obtain rfl := Option.some.inj hf
      subst hZ
      exact MM.zret (Or.inl rfl) rfl d_M_see_25 ⟨rfl, rfl⟩
theorem d_M_isAsSeen_0 : decode cX12_isAsSeen 0 = .ok (.iconst 0, 1) := by decide +kernel
theorem d_M_isAsSeen_1 : decode cX12_isAsSeen 1 = .ok (.istore_n 2, 1) := by decide +kernel
theorem d_M_isAsSeen_2 : decode cX12_isAsSeen 2 = .ok (.iload_n 2, 1) := by decide +kernel
theorem d_M_isAsSeen_3 : decode cX12_isAsSeen 3 = .ok (.aload_n 0, 1) := by decide +kernel
theorem d_M_isAsSeen_4 : decode cX12_isAsSeen 4 = .ok (.getfield 120, 3) := by decide +kernel
theorem d_M_isAsSeen_7 : decode cX12_isAsSeen 7 = .ok (.iconst 0, 1) := by decide +kernel
theorem d_M_isAsSeen_8 : decode cX12_isAsSeen 8 = .ok (.iaload, 1) := by decide +kernel
theorem d_M_isAsSeen_9 : decode cX12_isAsSeen 9 = .ok (.if_icmp .ge 41, 3) := by decide +kernel
theorem d_M_isAsSeen_12 : decode cX12_isAsSeen 12 = .ok (.aload_n 0, 1) := by decide +kernel
theorem d_M_isAsSeen_13 : decode cX12_isAsSeen 13 = .ok (.getfield 129, 3) := by decide +kernel
theorem d_M_isAsSeen_16 : decode cX12_isAsSeen 16 = .ok (.aload_n 0, 1) := by decide +kernel
theorem d_M_isAsSeen_17 : decode cX12_isAsSeen 17 = .ok (.getfield 123, 3) := by decide +kernel
theorem d_M_isAsSeen_20 : decode cX12_isAsSeen 20 = .ok (.iload_n 2, 1) := by decide +kernel
theorem d_M_isAsSeen_21 : decode cX12_isAsSeen 21 = .ok (.iaload, 1) := by decide +kernel
theorem d_M_isAsSeen_22 : decode cX12_isAsSeen 22 = .ok (.iaload, 1) := by decide +kernel
theorem d_M_isAsSeen_23 : decode cX12_isAsSeen 23 = .ok (.iload_n 1, 1) := by decide +kernel
theorem d_M_isAsSeen_24 : decode cX12_isAsSeen 24 = .ok (.iand, 1) := by decide +kernel
theorem d_M_isAsSeen_25 : decode cX12_isAsSeen 25 = .ok (.ifCond .eq 7, 3) := by decide +kernel
theorem d_M_isAsSeen_28 : decode cX12_isAsSeen 28 = .ok (.iconst 1, 1) := by decide +kernel
theorem d_M_isAsSeen_29 : decode cX12_isAsSeen 29 = .ok (.goto 4, 3) := by decide +kernel
theorem d_M_isAsSeen_32 : decode cX12_isAsSeen 32 = .ok (.iconst 0, 1) := by decide +kernel
theorem d_M_isAsSeen_33 : decode cX12_isAsSeen 33 = .ok (.aload_n 0, 1) := by decide +kernel
theorem d_M_isAsSeen_34 : decode cX12_isAsSeen 34 = .ok (.getfield 126, 3) := by decide +kernel
theorem d_M_isAsSeen_37 : decode cX12_isAsSeen 37 = .ok (.iload_n 2, 1) := by decide +kernel
theorem d_M_isAsSeen_38 : decode cX12_isAsSeen 38 = .ok (.baload, 1) := by decide +kernel
theorem d_M_isAsSeen_39 : decode cX12_isAsSeen 39 = .ok (.if_icmp .eq 5, 3) := by decide +kernel
theorem d_M_isAsSeen_42 : decode cX12_isAsSeen 42 = .ok (.iconst 0, 1) := by decide +kernel
theorem d_M_isAsSeen_43 : decode cX12_isAsSeen 43 = .ok (.ireturn, 1) := by decide +kernel
theorem d_M_isAsSeen_44 : decode cX12_isAsSeen 44 = .ok (.iinc 2 1, 3) := by decide +kernel
theorem d_M_isAsSeen_47 : decode cX12_isAsSeen 47 = .ok (.goto (-45), 3) := by decide +kernel
theorem d_M_isAsSeen_50 : decode cX12_isAsSeen 50 = .ok (.iconst 1, 1) := by decide +kernel
theorem d_M_isAsSeen_51 : decode cX12_isAsSeen 51 = .ok (.ireturn, 1) := by decide +kernel
noncomputable def f_M_isAsSeen (x1 : Int32) (h : mm_H) : Option Int32 := mm_while (σ := Int32) (ρ := Int32) (fun s1 => if (h.1 298 0) ≤ s1 then (some (Sum.inr 1)) else ((mm_ix s1 50).bind fun k4 => (mm_ix (h.1 299 k4) 123).bind fun k6 => (if ((h.1 301 k6) &&& x1) = 0 then (some 0) else (some 1) : Option Int32).bind fun j8 => (mm_ix s1 50).bind fun k13 => if j8 = (h.1 300 k13) then (mm_let (s1 + 1) fun y15 => some (Sum.inl y15)) else (some (Sum.inr 0)))) 0
theorem T_M_isAsSeen (V : mm_V) (l : Launch) (x1 : Int32) (h : mm_H) (r : Int32) (hf : f_M_isAsSeen x1 h = some r) : MT V l Y_M_isAsSeen 1 [.ref 261, .int x1] (fun r1 h1 => r1 = some (.int r) ∧ h1 = h) h := by
  unfold f_M_isAsSeen at hf
  refine MT.intro (pn_M rfl) [(0, .ref 261), (1, .int x1)] rfl (Nat.le_of_ble_eq_true rfl) ?_
  generalize hZ : mm_Z V _ = Z0
  refine MM.iconst ic_0 d_M_isAsSeen_0 rfl ?_
  refine MM.istore_n (i := 2) (lv' := [(2, .int 0), (0, .ref 261), (1, .int x1)]) rfl rfl (Nat.le_of_ble_eq_true rfl) rfl d_M_isAsSeen_1 rfl ?_
  refine MM.sub [1, 2, 0] (by rfl) (mm_while_ind (fun s1 => MM V l Y_M_isAsSeen 1 0 0 Z0 2 [(0, .ref 261), (1, .int x1), (2, .int s1)] [] h) hf (fun s1 q2 hf hx3 => ?_))
  refine MM.iload_n (i := 2) rfl rfl d_M_isAsSeen_2 rfl ?_
  refine MM.aload_n (i := 0) rfl rfl d_M_isAsSeen_3 rfl ?_
  refine MM.gR 9 37 tg_261 rq_9_47 rfl lays_9 ww_1405 d_M_isAsSeen_4 rfl ?_
  refine MM.iconst ic_0 d_M_isAsSeen_7 rfl ?_
  refine MM.gI ix_0_5 al_298 d_M_isAsSeen_8 rfl ?_
  obtain ⟨m22, m23⟩ := mm_ifE hf
  refine MM.icmp_ge (tgt := 50) d_M_isAsSeen_9 rfl rfl (fun c21 => ?_) (fun c21 => ?_)
  · replace hf := m22 c21
    refine MM.iconst ic_1 d_M_isAsSeen_50 rfl ?_
    obtain rfl := Option.some.inj hf
    replace hf := mm_wxR hx3
    obtain rfl := Option.some.inj hf
    subst hZ
    exact MM.zret (Or.inr rfl) rfl d_M_isAsSeen_51 ⟨rfl, rfl⟩
  · replace hf := m23 c21
    refine MM.aload_n (i := 0) rfl rfl d_M_isAsSeen_12 rfl ?_
    refine MM.gR 9 40 tg_261 rq_9_50 rfl lays_9 ww_1408 d_M_isAsSeen_13 rfl ?_
    refine MM.aload_n (i := 0) rfl rfl d_M_isAsSeen_16 rfl ?_
    refine MM.gR 9 38 tg_261 rq_9_48 rfl lays_9 ww_1406 d_M_isAsSeen_17 rfl ?_
    refine MM.iload_n (i := 2) rfl rfl d_M_isAsSeen_20 rfl ?_
    obtain ⟨k4, e5, hf⟩ := mm_bind hf
    refine MM.gI e5 al_299 d_M_isAsSeen_21 rfl ?_
    obtain ⟨k6, e7, hf⟩ := mm_bind hf
    refine MM.gI e7 al_301 d_M_isAsSeen_22 rfl ?_
    refine MM.iload_n (i := 1) rfl rfl d_M_isAsSeen_23 rfl ?_
    refine MM.iand d_M_isAsSeen_24 rfl ?_
    obtain ⟨j8, e20, hf⟩ := mm_bind hf
    have K9 : MM V l Y_M_isAsSeen 1 0 0 Z0 33 [(0, .ref 261), (1, .int x1), (2, .int s1)] [.int j8] h := by
      refine MM.aload_n (i := 0) rfl rfl d_M_isAsSeen_33 rfl ?_
      refine MM.gR 9 39 tg_261 rq_9_49 rfl lays_9 ww_1407 d_M_isAsSeen_34 rfl ?_
      refine MM.iload_n (i := 2) rfl rfl d_M_isAsSeen_37 rfl ?_
      obtain ⟨k13, e14, hf⟩ := mm_bind hf
      refine MM.gZ e14 al_300 d_M_isAsSeen_38 rfl ?_
      obtain ⟨m18, m19⟩ := mm_ifE hf
      refine MM.icmp_eq (tgt := 44) d_M_isAsSeen_39 rfl rfl (fun c17 => ?_) (fun c17 => ?_)
      · replace hf := m18 c17
        obtain ⟨y15, e16, hf⟩ := mm_letE hf
        refine MM.iinc (k0 := 2) (lv' := [(2, .int y15), (0, .ref 261), (1, .int x1)]) (by rw [ic_1]; exact e16) rfl (Nat.le_of_ble_eq_true rfl) rfl d_M_isAsSeen_44 rfl ?_
        refine MM.goto (tgt := 2) d_M_isAsSeen_47 rfl ?_
        obtain rfl := Option.some.inj hf
        have h9 := mm_wxL hx3
        exact MM.sub [1, 2, 0] (by rfl) h9
      · replace hf := m19 c17
        refine MM.iconst ic_0 d_M_isAsSeen_42 rfl ?_
        obtain rfl := Option.some.inj hf
        replace hf := mm_wxR hx3
        obtain rfl := Option.some.inj hf
        subst hZ
        exact MM.zret (Or.inl rfl) rfl d_M_isAsSeen_43 ⟨rfl, rfl⟩
    clear hf
    have hf := e20
    clear e20
    obtain ⟨m11, m12⟩ := mm_ifE hf
    refine MM.if_eq (tgt := 32) d_M_isAsSeen_25 rfl rfl (fun c10 => ?_) (fun c10 => ?_)
    · replace hf := m11 c10
      refine MM.iconst ic_0 d_M_isAsSeen_32 rfl ?_
      obtain rfl := Option.some.inj hf
      exact MM.sub [0, 1, 2] (by rfl) K9
    · replace hf := m12 c10
      refine MM.iconst ic_1 d_M_isAsSeen_28 rfl ?_
      refine MM.goto (tgt := 33) d_M_isAsSeen_29 rfl ?_
      obtain rfl := Option.some.inj hf
      exact MM.sub [0, 1, 2] (by rfl) K9
theorem d_M_leaks_0 : decode cX12_leaks 0 = .ok (.aload_n 0, 1) := by decide +kernel
theorem d_M_leaks_1 : decode cX12_leaks 1 = .ok (.iconst 0, 1) := by decide +kernel
theorem d_M_leaks_2 : decode cX12_leaks 2 = .ok (.putfield 175, 3) := by decide +kernel
theorem d_M_leaks_5 : decode cX12_leaks 5 = .ok (.iload_n 1, 1) := by decide +kernel
theorem d_M_leaks_6 : decode cX12_leaks 6 = .ok (.iconst 0, 1) := by decide +kernel
theorem d_M_leaks_7 : decode cX12_leaks 7 = .ok (.iconst 3, 1) := by decide +kernel
theorem d_M_leaks_8 : decode cX12_leaks 8 = .ok (.invokestatic 308, 3) := by decide +kernel
theorem d_M_leaks_11 : decode cX12_leaks 11 = .ok (.ifCond .ne 5, 3) := by decide +kernel
theorem d_M_leaks_14 : decode cX12_leaks 14 = .ok (.iconst (-1), 1) := by decide +kernel
theorem d_M_leaks_15 : decode cX12_leaks 15 = .ok (.ireturn, 1) := by decide +kernel
theorem d_M_leaks_16 : decode cX12_leaks 16 = .ok (.iconst 0, 1) := by decide +kernel
theorem d_M_leaks_17 : decode cX12_leaks 17 = .ok (.istore_n 2, 1) := by decide +kernel
theorem d_M_leaks_18 : decode cX12_leaks 18 = .ok (.bipush 63, 2) := by decide +kernel
theorem d_M_leaks_20 : decode cX12_leaks 20 = .ok (.istore_n 3, 1) := by decide +kernel
theorem d_M_leaks_21 : decode cX12_leaks 21 = .ok (.iconst 0, 1) := by decide +kernel
theorem d_M_leaks_22 : decode cX12_leaks 22 = .ok (.istore 4, 2) := by decide +kernel
theorem d_M_leaks_24 : decode cX12_leaks 24 = .ok (.iconst (-1), 1) := by decide +kernel
theorem d_M_leaks_25 : decode cX12_leaks 25 = .ok (.istore 5, 2) := by decide +kernel
theorem d_M_leaks_27 : decode cX12_leaks 27 = .ok (.iconst 0, 1) := by decide +kernel
theorem d_M_leaks_28 : decode cX12_leaks 28 = .ok (.istore 6, 2) := by decide +kernel
theorem d_M_leaks_30 : decode cX12_leaks 30 = .ok (.iload 6, 2) := by decide +kernel
theorem d_M_leaks_32 : decode cX12_leaks 32 = .ok (.iconst 1, 1) := by decide +kernel
theorem d_M_leaks_33 : decode cX12_leaks 33 = .ok (.aload_n 0, 1) := by decide +kernel
theorem d_M_leaks_34 : decode cX12_leaks 34 = .ok (.getfield 13, 3) := by decide +kernel
theorem d_M_leaks_37 : decode cX12_leaks 37 = .ok (.iconst 0, 1) := by decide +kernel
theorem d_M_leaks_38 : decode cX12_leaks 38 = .ok (.iaload, 1) := by decide +kernel
theorem d_M_leaks_39 : decode cX12_leaks 39 = .ok (.ishl, 1) := by decide +kernel
theorem d_M_leaks_40 : decode cX12_leaks 40 = .ok (.if_icmp .ge 58, 3) := by decide +kernel
theorem d_M_leaks_43 : decode cX12_leaks 43 = .ok (.aload_n 0, 1) := by decide +kernel
theorem d_M_leaks_44 : decode cX12_leaks 44 = .ok (.iload 6, 2) := by decide +kernel
theorem d_M_leaks_46 : decode cX12_leaks 46 = .ok (.invokevirtual 511, 3) := by decide +kernel
theorem d_M_leaks_49 : decode cX12_leaks 49 = .ok (.ifCond .ne 6, 3) := by decide +kernel
theorem d_M_leaks_52 : decode cX12_leaks 52 = .ok (.goto 40, 3) := by decide +kernel
theorem d_M_leaks_55 : decode cX12_leaks 55 = .ok (.iinc 2 1, 3) := by decide +kernel
theorem d_M_leaks_58 : decode cX12_leaks 58 = .ok (.iload_n 3, 1) := by decide +kernel
theorem d_M_leaks_59 : decode cX12_leaks 59 = .ok (.iload 6, 2) := by decide +kernel
theorem d_M_leaks_61 : decode cX12_leaks 61 = .ok (.iand, 1) := by decide +kernel
theorem d_M_leaks_62 : decode cX12_leaks 62 = .ok (.istore_n 3, 1) := by decide +kernel
theorem d_M_leaks_63 : decode cX12_leaks 63 = .ok (.iload 4, 2) := by decide +kernel
theorem d_M_leaks_65 : decode cX12_leaks 65 = .ok (.iload 6, 2) := by decide +kernel
theorem d_M_leaks_67 : decode cX12_leaks 67 = .ok (.ior, 1) := by decide +kernel
theorem d_M_leaks_68 : decode cX12_leaks 68 = .ok (.istore 4, 2) := by decide +kernel
theorem d_M_leaks_70 : decode cX12_leaks 70 = .ok (.iload 5, 2) := by decide +kernel
theorem d_M_leaks_72 : decode cX12_leaks 72 = .ok (.ifCond .lt 16, 3) := by decide +kernel
theorem d_M_leaks_75 : decode cX12_leaks 75 = .ok (.iload 6, 2) := by decide +kernel
theorem d_M_leaks_77 : decode cX12_leaks 77 = .ok (.invokestatic 492, 3) := by decide +kernel
theorem d_M_leaks_80 : decode cX12_leaks 80 = .ok (.iload 5, 2) := by decide +kernel
theorem d_M_leaks_82 : decode cX12_leaks 82 = .ok (.invokestatic 492, 3) := by decide +kernel
theorem d_M_leaks_85 : decode cX12_leaks 85 = .ok (.if_icmp .ge 7, 3) := by decide +kernel
theorem d_M_leaks_88 : decode cX12_leaks 88 = .ok (.iload 6, 2) := by decide +kernel
theorem d_M_leaks_90 : decode cX12_leaks 90 = .ok (.istore 5, 2) := by decide +kernel
theorem d_M_leaks_92 : decode cX12_leaks 92 = .ok (.iinc 6 1, 3) := by decide +kernel
theorem d_M_leaks_95 : decode cX12_leaks 95 = .ok (.goto (-65), 3) := by decide +kernel
theorem d_M_leaks_98 : decode cX12_leaks 98 = .ok (.iload_n 1, 1) := by decide +kernel
theorem d_M_leaks_99 : decode cX12_leaks 99 = .ok (.ifCond .ne 7, 3) := by decide +kernel
theorem d_M_leaks_102 : decode cX12_leaks 102 = .ok (.iload_n 2, 1) := by decide +kernel
theorem d_M_leaks_103 : decode cX12_leaks 103 = .ok (.goto 32, 3) := by decide +kernel
theorem d_M_leaks_106 : decode cX12_leaks 106 = .ok (.iload_n 2, 1) := by decide +kernel
theorem d_M_leaks_107 : decode cX12_leaks 107 = .ok (.ifCond .ne 7, 3) := by decide +kernel
theorem d_M_leaks_110 : decode cX12_leaks 110 = .ok (.iconst (-1), 1) := by decide +kernel
theorem d_M_leaks_111 : decode cX12_leaks 111 = .ok (.goto 24, 3) := by decide +kernel
theorem d_M_leaks_114 : decode cX12_leaks 114 = .ok (.iload_n 1, 1) := by decide +kernel
theorem d_M_leaks_115 : decode cX12_leaks 115 = .ok (.iconst 1, 1) := by decide +kernel
theorem d_M_leaks_116 : decode cX12_leaks 116 = .ok (.if_icmp .ne 7, 3) := by decide +kernel
theorem d_M_leaks_119 : decode cX12_leaks 119 = .ok (.iload_n 3, 1) := by decide +kernel
theorem d_M_leaks_120 : decode cX12_leaks 120 = .ok (.goto 15, 3) := by decide +kernel
theorem d_M_leaks_123 : decode cX12_leaks 123 = .ok (.iload_n 1, 1) := by decide +kernel
theorem d_M_leaks_124 : decode cX12_leaks 124 = .ok (.iconst 2, 1) := by decide +kernel
theorem d_M_leaks_125 : decode cX12_leaks 125 = .ok (.if_icmp .ne 8, 3) := by decide +kernel
theorem d_M_leaks_128 : decode cX12_leaks 128 = .ok (.iload 4, 2) := by decide +kernel
theorem d_M_leaks_130 : decode cX12_leaks 130 = .ok (.goto 5, 3) := by decide +kernel
theorem d_M_leaks_133 : decode cX12_leaks 133 = .ok (.iload 5, 2) := by decide +kernel
theorem d_M_leaks_135 : decode cX12_leaks 135 = .ok (.ireturn, 1) := by decide +kernel
noncomputable def f_M_leaks (x1 : Int32) (h : mm_H) : Option (Int32 × mm_H) := mm_let (mm_pI h 261 0 0) fun h1 => (f_M_within x1 0 3).bind fun v4 => if v4 = 0 then (some ((-1), h1)) else ((mm_while (σ := (Int32 × Int32 × Int32 × Int32 × Int32)) (ρ := (Int32 × Int32 × Int32 × Int32)) (fun s5 => if ((1 : Int32) <<< ((h1.1 263 0) &&& 31)) ≤ s5.2.2.2.2 then (some (Sum.inr (s5.1, s5.2.1, s5.2.2.1, s5.2.2.2.1))) else ((f_M_isAsSeen s5.2.2.2.2 h1).bind fun v12 => (if v12 = 0 then (some (s5.1, s5.2.1, s5.2.2.1, s5.2.2.2.1)) else (mm_let (s5.1 + 1) fun y15 => mm_let (s5.2.1 &&& s5.2.2.2.2) fun y17 => mm_let (s5.2.2.1 ||| s5.2.2.2.2) fun y19 => mm_jp (fun (j21 : Unit) => (some (y15, y17, y19, s5.2.2.2.2))) fun k23 => if s5.2.2.2.1 < 0 then (k23 ()) else ((f_M_bits s5.2.2.2.2).bind fun v25 => (f_M_bits s5.2.2.2.1).bind fun v27 => if v27 ≤ v25 then (some (y15, y17, y19, s5.2.2.2.1)) else (k23 ()))) : Option (Int32 × Int32 × Int32 × Int32)).bind fun j13 => mm_let (s5.2.2.2.2 + 1) fun y38 => some (Sum.inl (j13.1, j13.2.1, j13.2.2.1, j13.2.2.2, y38)))) (0, 63, 0, (-1), 0)).bind fun v8 => if x1 = 0 then (some (v8.1, h1)) else (if v8.1 = 0 then (some ((-1), h1)) else (if x1 = 1 then (some (v8.2.1, h1)) else (if x1 = 2 then (some (v8.2.2.1, h1)) else (some (v8.2.2.2, h1))))))
theorem T_M_leaks (V : mm_V) (l : Launch) (x1 : Int32) (h : mm_H) (r : (Int32 × mm_H)) (hf : f_M_leaks x1 h = some r) : MT V l Y_M_leaks 2 [.ref 261, .int x1] (fun r1 h1 => r1 = some (.int r.1) ∧ h1 = r.2) h := by
  unfold f_M_leaks at hf
  refine MT.intro (pn_M rfl) [(0, .ref 261), (1, .int x1)] rfl (Nat.le_of_ble_eq_true rfl) ?_
  generalize hZ : mm_Z V _ = Z0
  refine MM.aload_n (i := 0) rfl rfl d_M_leaks_0 rfl ?_
  refine MM.iconst ic_0 d_M_leaks_1 rfl ?_
  obtain ⟨h1, e2, hf⟩ := mm_letE hf
  refine MM.putI e2 9 tg_261 lays_9 toks_9 pq_9_0 ww_1358 d_M_leaks_2 rfl ?_
  refine MM.iload_n (i := 1) rfl rfl d_M_leaks_5 rfl ?_
  refine MM.iconst ic_0 d_M_leaks_6 rfl ?_
  refine MM.iconst ic_3 d_M_leaks_7 rfl ?_
  obtain ⟨v4, e3, hf⟩ := mm_bind hf
  refine MM.callS1 (T_M_within V l x1 0 3 h1 _ e3) (fun _ _ q => q) cal_M_within rfl ww_1669 ww_1668 (by decide) (by simp [Value.category]) d_M_leaks_8 rfl ⟨rfl, rfl⟩ rfl ?_
  obtain ⟨m57, m58⟩ := mm_ifE hf
  refine MM.if_ne (tgt := 16) d_M_leaks_11 rfl rfl (fun c56 => ?_) (fun c56 => ?_)
  · replace hf := m58 c56
    refine MM.iconst ic_0 d_M_leaks_16 rfl ?_
    refine MM.istore_n (i := 2) (lv' := [(2, .int 0), (0, .ref 261), (1, .int x1)]) rfl rfl (Nat.le_of_ble_eq_true rfl) rfl d_M_leaks_17 rfl ?_
    refine MM.bipush bp_63 d_M_leaks_18 rfl ?_
    refine MM.istore_n (i := 3) (lv' := [(3, .int 63), (2, .int 0), (0, .ref 261), (1, .int x1)]) rfl rfl (Nat.le_of_ble_eq_true rfl) rfl d_M_leaks_20 rfl ?_
    refine MM.iconst ic_0 d_M_leaks_21 rfl ?_
    refine MM.istore (lv' := [(4, .int 0), (3, .int 63), (2, .int 0), (0, .ref 261), (1, .int x1)]) rfl (Nat.le_of_ble_eq_true rfl) rfl d_M_leaks_22 rfl ?_
    refine MM.iconst ic_m1 d_M_leaks_24 rfl ?_
    refine MM.istore (lv' := [(5, .int (-1)), (4, .int 0), (3, .int 63), (2, .int 0), (0, .ref 261), (1, .int x1)]) rfl (Nat.le_of_ble_eq_true rfl) rfl d_M_leaks_25 rfl ?_
    refine MM.iconst ic_0 d_M_leaks_27 rfl ?_
    refine MM.istore (lv' := [(6, .int 0), (5, .int (-1)), (4, .int 0), (3, .int 63), (2, .int 0), (0, .ref 261), (1, .int x1)]) rfl (Nat.le_of_ble_eq_true rfl) rfl d_M_leaks_28 rfl ?_
    obtain ⟨v8, e10, hf⟩ := mm_bind hf
    have K9 : MM V l Y_M_leaks 2 0 0 Z0 98 [(1, .int x1), (2, .int v8.1), (3, .int v8.2.1), (4, .int v8.2.2.1), (5, .int v8.2.2.2)] [] h1 := by
      refine MM.iload_n (i := 1) rfl rfl d_M_leaks_98 rfl ?_
      obtain ⟨m54, m55⟩ := mm_ifE hf
      refine MM.if_ne (tgt := 106) d_M_leaks_99 rfl rfl (fun c53 => ?_) (fun c53 => ?_)
      · replace hf := m55 c53
        refine MM.iload_n (i := 2) rfl rfl d_M_leaks_106 rfl ?_
        obtain ⟨m51, m52⟩ := mm_ifE hf
        refine MM.if_ne (tgt := 114) d_M_leaks_107 rfl rfl (fun c50 => ?_) (fun c50 => ?_)
        · replace hf := m52 c50
          refine MM.iload_n (i := 1) rfl rfl d_M_leaks_114 rfl ?_
          refine MM.iconst ic_1 d_M_leaks_115 rfl ?_
          obtain ⟨m48, m49⟩ := mm_ifE hf
          refine MM.icmp_ne (tgt := 123) d_M_leaks_116 rfl rfl (fun c47 => ?_) (fun c47 => ?_)
          · replace hf := m49 c47
            refine MM.iload_n (i := 1) rfl rfl d_M_leaks_123 rfl ?_
            refine MM.iconst ic_2 d_M_leaks_124 rfl ?_
            obtain ⟨m45, m46⟩ := mm_ifE hf
            refine MM.icmp_ne (tgt := 133) d_M_leaks_125 rfl rfl (fun c44 => ?_) (fun c44 => ?_)
            · replace hf := m46 c44
              refine MM.iload rfl d_M_leaks_133 rfl ?_
              obtain rfl := Option.some.inj hf
              subst hZ
              exact MM.iret rfl d_M_leaks_135 ⟨rfl, rfl⟩
            · replace hf := m45 c44
              refine MM.iload rfl d_M_leaks_128 rfl ?_
              refine MM.goto (tgt := 135) d_M_leaks_130 rfl ?_
              obtain rfl := Option.some.inj hf
              subst hZ
              exact MM.iret rfl d_M_leaks_135 ⟨rfl, rfl⟩
          · replace hf := m48 c47
            refine MM.iload_n (i := 3) rfl rfl d_M_leaks_119 rfl ?_
            refine MM.goto (tgt := 135) d_M_leaks_120 rfl ?_
            obtain rfl := Option.some.inj hf
            subst hZ
            exact MM.iret rfl d_M_leaks_135 ⟨rfl, rfl⟩
        · replace hf := m51 c50
          refine MM.iconst ic_m1 d_M_leaks_110 rfl ?_
          refine MM.goto (tgt := 135) d_M_leaks_111 rfl ?_
          obtain rfl := Option.some.inj hf
          subst hZ
          exact MM.iret rfl d_M_leaks_135 ⟨rfl, rfl⟩
      · replace hf := m54 c53
        refine MM.iload_n (i := 2) rfl rfl d_M_leaks_102 rfl ?_
        refine MM.goto (tgt := 135) d_M_leaks_103 rfl ?_
        obtain rfl := Option.some.inj hf
        subst hZ
        exact MM.iret rfl d_M_leaks_135 ⟨rfl, rfl⟩
    clear hf
    refine MM.sub [5, 6, 4, 3, 2, 1, 0] (by rfl) (mm_while_ind (fun s5 => MM V l Y_M_leaks 2 0 0 Z0 30 [(0, .ref 261), (1, .int x1), (2, .int s5.1), (3, .int s5.2.1), (4, .int s5.2.2.1), (5, .int s5.2.2.2.1), (6, .int s5.2.2.2.2)] [] h1) e10 (fun s5 q6 hf hx7 => ?_))
    refine MM.iload rfl d_M_leaks_30 rfl ?_
    refine MM.iconst ic_1 d_M_leaks_32 rfl ?_
    refine MM.aload_n (i := 0) rfl rfl d_M_leaks_33 rfl ?_
    refine MM.gR 9 2 tg_261 rq_9_10 rfl lays_9 ww_1368 d_M_leaks_34 rfl ?_
    refine MM.iconst ic_0 d_M_leaks_37 rfl ?_
    refine MM.gI ix_0_8 al_263 d_M_leaks_38 rfl ?_
    refine MM.ishl d_M_leaks_39 rfl ?_
    obtain ⟨m42, m43⟩ := mm_ifE hf
    refine MM.icmp_ge (tgt := 98) d_M_leaks_40 rfl rfl (fun c41 => ?_) (fun c41 => ?_)
    · replace hf := m42 c41
      obtain rfl := Option.some.inj hf
      obtain rfl := Option.some.inj (mm_wxR hx7)
      exact MM.sub [1, 2, 3, 4, 5] (by rfl) K9
    · replace hf := m43 c41
      refine MM.aload_n (i := 0) rfl rfl d_M_leaks_43 rfl ?_
      refine MM.iload rfl d_M_leaks_44 rfl ?_
      obtain ⟨v12, e11, hf⟩ := mm_bind hf
      refine MM.callV1 (T_M_isAsSeen V l s5.2.2.2.2 h1 _ e11) (fun _ _ q => q) cal_M_isAsSeen rfl tg_261 ct_9 ww_98 ww_1950 ww_1948 (by decide) (by simp [Value.category]) d_M_leaks_46 rfl ⟨rfl, rfl⟩ rfl ?_
      obtain ⟨j13, e40, hf⟩ := mm_bind hf
      have K14 : MM V l Y_M_leaks 2 0 0 Z0 92 [(0, .ref 261), (1, .int x1), (2, .int j13.1), (3, .int j13.2.1), (4, .int j13.2.2.1), (5, .int j13.2.2.2), (6, .int s5.2.2.2.2)] [] h1 := by
        obtain ⟨y38, e39, hf⟩ := mm_letE hf
        refine MM.iinc (k0 := 6) (lv' := [(6, .int y38), (0, .ref 261), (1, .int x1), (2, .int j13.1), (3, .int j13.2.1), (4, .int j13.2.2.1), (5, .int j13.2.2.2)]) (by rw [ic_1]; exact e39) rfl (Nat.le_of_ble_eq_true rfl) rfl d_M_leaks_92 rfl ?_
        refine MM.goto (tgt := 30) d_M_leaks_95 rfl ?_
        obtain rfl := Option.some.inj hf
        have h9 := mm_wxL hx7
        exact MM.sub [1, 2, 3, 4, 5, 6, 0] (by rfl) h9
      clear hf
      have hf := e40
      clear e40
      obtain ⟨m36, m37⟩ := mm_ifE hf
      refine MM.if_ne (tgt := 55) d_M_leaks_49 rfl rfl (fun c35 => ?_) (fun c35 => ?_)
      · replace hf := m37 c35
        obtain ⟨y15, e16, hf⟩ := mm_letE hf
        refine MM.iinc (k0 := 2) (lv' := [(2, .int y15), (0, .ref 261), (1, .int x1), (3, .int s5.2.1), (4, .int s5.2.2.1), (5, .int s5.2.2.2.1), (6, .int s5.2.2.2.2)]) (by rw [ic_1]; exact e16) rfl (Nat.le_of_ble_eq_true rfl) rfl d_M_leaks_55 rfl ?_
        refine MM.iload_n (i := 3) rfl rfl d_M_leaks_58 rfl ?_
        refine MM.iload rfl d_M_leaks_59 rfl ?_
        refine MM.iand d_M_leaks_61 rfl ?_
        obtain ⟨y17, e18, hf⟩ := mm_letE hf
        refine MM.istore_n (i := 3) (lv' := [(3, .int y17), (2, .int y15), (0, .ref 261), (1, .int x1), (4, .int s5.2.2.1), (5, .int s5.2.2.2.1), (6, .int s5.2.2.2.2)]) e18 rfl (Nat.le_of_ble_eq_true rfl) rfl d_M_leaks_62 rfl ?_
        refine MM.iload rfl d_M_leaks_63 rfl ?_
        refine MM.iload rfl d_M_leaks_65 rfl ?_
        refine MM.ior d_M_leaks_67 rfl ?_
        obtain ⟨y19, e20, hf⟩ := mm_letE hf
        refine MM.istore (lv' := [(4, .int y19), (3, .int y17), (2, .int y15), (0, .ref 261), (1, .int x1), (5, .int s5.2.2.2.1), (6, .int s5.2.2.2.2)]) e20 (Nat.le_of_ble_eq_true rfl) rfl d_M_leaks_68 rfl ?_
        refine MM.iload rfl d_M_leaks_70 rfl ?_
        obtain ⟨k23, e34, hf⟩ := mm_jpE hf
        have K22 : ∀ j21, k23 j21 = some j13 → MM V l Y_M_leaks 2 0 0 Z0 88 [(0, .ref 261), (1, .int x1), (2, .int y15), (3, .int y17), (4, .int y19), (6, .int s5.2.2.2.2)] [] h1 := by
          intro j21 hf
          rw [e34] at hf
          refine MM.iload rfl d_M_leaks_88 rfl ?_
          refine MM.istore (lv' := [(5, .int s5.2.2.2.2), (0, .ref 261), (1, .int x1), (2, .int y15), (3, .int y17), (4, .int y19), (6, .int s5.2.2.2.2)]) rfl (Nat.le_of_ble_eq_true rfl) rfl d_M_leaks_90 rfl ?_
          obtain rfl := Option.some.inj hf
          exact MM.sub [1, 2, 3, 4, 5, 0, 6] (by rfl) K14
        clear e34
        obtain ⟨m32, m33⟩ := mm_ifE hf
        refine MM.if_lt (tgt := 88) d_M_leaks_72 rfl rfl (fun c31 => ?_) (fun c31 => ?_)
        · replace hf := m32 c31
          exact MM.sub [3, 4, 2, 1, 0, 6] (by rfl) (K22 _ hf)
        · replace hf := m33 c31
          refine MM.iload rfl d_M_leaks_75 rfl ?_
          obtain ⟨v25, e24, hf⟩ := mm_bind hf
          refine MM.callS1 (T_M_bits V l s5.2.2.2.2 h1 _ e24) (fun _ _ q => q) cal_M_bits rfl ww_1922 ww_1921 (by decide) (by simp [Value.category]) d_M_leaks_77 rfl ⟨rfl, rfl⟩ rfl ?_
          refine MM.iload rfl d_M_leaks_80 rfl ?_
          obtain ⟨v27, e26, hf⟩ := mm_bind hf
          refine MM.callS1 (T_M_bits V l s5.2.2.2.1 h1 _ e26) (fun _ _ q => q) cal_M_bits rfl ww_1922 ww_1921 (by decide) (by simp [Value.category]) d_M_leaks_82 rfl ⟨rfl, rfl⟩ rfl ?_
          obtain ⟨m29, m30⟩ := mm_ifE hf
          refine MM.icmp_ge (tgt := 92) d_M_leaks_85 rfl rfl (fun c28 => ?_) (fun c28 => ?_)
          · replace hf := m29 c28
            obtain rfl := Option.some.inj hf
            exact MM.sub [3, 4, 2, 1, 0, 5, 6] (by rfl) K14
          · replace hf := m30 c28
            exact MM.sub [3, 4, 2, 1, 0, 6] (by rfl) (K22 _ hf)
      · replace hf := m36 c35
        refine MM.goto (tgt := 92) d_M_leaks_52 rfl ?_
        obtain rfl := Option.some.inj hf
        exact MM.sub [0, 1, 2, 3, 4, 5, 6] (by rfl) K14
  · replace hf := m57 c56
    refine MM.iconst ic_m1 d_M_leaks_14 rfl ?_
    obtain rfl := Option.some.inj hf
    subst hZ
    exact MM.iret rfl d_M_leaks_15 ⟨rfl, rfl⟩
theorem d_M_isClashing_0 : decode cX12_isClashing 0 = .ok (.iconst 0, 1) := by decide +kernel
theorem d_M_isClashing_1 : decode cX12_isClashing 1 = .ok (.istore_n 2, 1) := by decide +kernel
theorem d_M_isClashing_2 : decode cX12_isClashing 2 = .ok (.iload_n 2, 1) := by decide +kernel
theorem d_M_isClashing_3 : decode cX12_isClashing 3 = .ok (.aload_n 0, 1) := by decide +kernel
theorem d_M_isClashing_4 : decode cX12_isClashing 4 = .ok (.getfield 13, 3) := by decide +kernel
theorem d_M_isClashing_7 : decode cX12_isClashing 7 = .ok (.iconst 1, 1) := by decide +kernel
theorem d_M_isClashing_8 : decode cX12_isClashing 8 = .ok (.iaload, 1) := by decide +kernel
theorem d_M_isClashing_9 : decode cX12_isClashing 9 = .ok (.if_icmp .ge 31, 3) := by decide +kernel
theorem d_M_isClashing_12 : decode cX12_isClashing 12 = .ok (.iload_n 1, 1) := by decide +kernel
theorem d_M_isClashing_13 : decode cX12_isClashing 13 = .ok (.iload_n 2, 1) := by decide +kernel
theorem d_M_isClashing_14 : decode cX12_isClashing 14 = .ok (.ishr, 1) := by decide +kernel
theorem d_M_isClashing_15 : decode cX12_isClashing 15 = .ok (.iconst 1, 1) := by decide +kernel
theorem d_M_isClashing_16 : decode cX12_isClashing 16 = .ok (.iand, 1) := by decide +kernel
theorem d_M_isClashing_17 : decode cX12_isClashing 17 = .ok (.iconst 1, 1) := by decide +kernel
theorem d_M_isClashing_18 : decode cX12_isClashing 18 = .ok (.if_icmp .ne 16, 3) := by decide +kernel
theorem d_M_isClashing_21 : decode cX12_isClashing 21 = .ok (.aload_n 0, 1) := by decide +kernel
theorem d_M_isClashing_22 : decode cX12_isClashing 22 = .ok (.getfield 47, 3) := by decide +kernel
theorem d_M_isClashing_25 : decode cX12_isClashing 25 = .ok (.iload_n 2, 1) := by decide +kernel
theorem d_M_isClashing_26 : decode cX12_isClashing 26 = .ok (.iaload, 1) := by decide +kernel
theorem d_M_isClashing_27 : decode cX12_isClashing 27 = .ok (.iload_n 1, 1) := by decide +kernel
theorem d_M_isClashing_28 : decode cX12_isClashing 28 = .ok (.iand, 1) := by decide +kernel
theorem d_M_isClashing_29 : decode cX12_isClashing 29 = .ok (.ifCond .eq 5, 3) := by decide +kernel
theorem d_M_isClashing_32 : decode cX12_isClashing 32 = .ok (.iconst 1, 1) := by decide +kernel
theorem d_M_isClashing_33 : decode cX12_isClashing 33 = .ok (.ireturn, 1) := by decide +kernel
theorem d_M_isClashing_34 : decode cX12_isClashing 34 = .ok (.iinc 2 1, 3) := by decide +kernel
theorem d_M_isClashing_37 : decode cX12_isClashing 37 = .ok (.goto (-35), 3) := by decide +kernel
theorem d_M_isClashing_40 : decode cX12_isClashing 40 = .ok (.iconst 0, 1) := by decide +kernel
theorem d_M_isClashing_41 : decode cX12_isClashing 41 = .ok (.ireturn, 1) := by decide +kernel
noncomputable def f_M_isClashing (x1 : Int32) (h : mm_H) : Option Int32 := mm_while (σ := Int32) (ρ := Int32) (fun s1 => if (h.1 263 1) ≤ s1 then (some (Sum.inr 0)) else (mm_jp (fun (j4 : Unit) => (mm_let (s1 + 1) fun y7 => some (Sum.inl y7))) fun k6 => if ((x1 >>> (s1 &&& 31)) &&& 1) = 1 then ((mm_ix s1 20).bind fun k9 => if ((h.1 274 k9) &&& x1) = 0 then (k6 ()) else (some (Sum.inr 1))) else (k6 ()))) 0
theorem T_M_isClashing (V : mm_V) (l : Launch) (x1 : Int32) (h : mm_H) (r : Int32) (hf : f_M_isClashing x1 h = some r) : MT V l Y_M_isClashing 1 [.ref 261, .int x1] (fun r1 h1 => r1 = some (.int r) ∧ h1 = h) h := by
  unfold f_M_isClashing at hf
  refine MT.intro (pn_M rfl) [(0, .ref 261), (1, .int x1)] rfl (Nat.le_of_ble_eq_true rfl) ?_
  generalize hZ : mm_Z V _ = Z0
  refine MM.iconst ic_0 d_M_isClashing_0 rfl ?_
  refine MM.istore_n (i := 2) (lv' := [(2, .int 0), (0, .ref 261), (1, .int x1)]) rfl rfl (Nat.le_of_ble_eq_true rfl) rfl d_M_isClashing_1 rfl ?_
  refine MM.sub [1, 2, 0] (by rfl) (mm_while_ind (fun s1 => MM V l Y_M_isClashing 1 0 0 Z0 2 [(0, .ref 261), (1, .int x1), (2, .int s1)] [] h) hf (fun s1 q2 hf hx3 => ?_))
  refine MM.iload_n (i := 2) rfl rfl d_M_isClashing_2 rfl ?_
  refine MM.aload_n (i := 0) rfl rfl d_M_isClashing_3 rfl ?_
  refine MM.gR 9 2 tg_261 rq_9_10 rfl lays_9 ww_1368 d_M_isClashing_4 rfl ?_
  refine MM.iconst ic_1 d_M_isClashing_7 rfl ?_
  refine MM.gI ix_1_8 al_263 d_M_isClashing_8 rfl ?_
  obtain ⟨m19, m20⟩ := mm_ifE hf
  refine MM.icmp_ge (tgt := 40) d_M_isClashing_9 rfl rfl (fun c18 => ?_) (fun c18 => ?_)
  · replace hf := m19 c18
    refine MM.iconst ic_0 d_M_isClashing_40 rfl ?_
    obtain rfl := Option.some.inj hf
    replace hf := mm_wxR hx3
    obtain rfl := Option.some.inj hf
    subst hZ
    exact MM.zret (Or.inl rfl) rfl d_M_isClashing_41 ⟨rfl, rfl⟩
  · replace hf := m20 c18
    refine MM.iload_n (i := 1) rfl rfl d_M_isClashing_12 rfl ?_
    refine MM.iload_n (i := 2) rfl rfl d_M_isClashing_13 rfl ?_
    refine MM.ishr d_M_isClashing_14 rfl ?_
    refine MM.iconst ic_1 d_M_isClashing_15 rfl ?_
    refine MM.iand d_M_isClashing_16 rfl ?_
    refine MM.iconst ic_1 d_M_isClashing_17 rfl ?_
    obtain ⟨k6, e17, hf⟩ := mm_jpE hf
    have K5 : ∀ j4, k6 j4 = some q2 → MM V l Y_M_isClashing 1 0 0 Z0 34 [(0, .ref 261), (1, .int x1), (2, .int s1)] [] h := by
      intro j4 hf
      rw [e17] at hf
      obtain ⟨y7, e8, hf⟩ := mm_letE hf
      refine MM.iinc (k0 := 2) (lv' := [(2, .int y7), (0, .ref 261), (1, .int x1)]) (by rw [ic_1]; exact e8) rfl (Nat.le_of_ble_eq_true rfl) rfl d_M_isClashing_34 rfl ?_
      refine MM.goto (tgt := 2) d_M_isClashing_37 rfl ?_
      obtain rfl := Option.some.inj hf
      have h9 := mm_wxL hx3
      exact MM.sub [1, 2, 0] (by rfl) h9
    clear e17
    obtain ⟨m15, m16⟩ := mm_ifE hf
    refine MM.icmp_ne (tgt := 34) d_M_isClashing_18 rfl rfl (fun c14 => ?_) (fun c14 => ?_)
    · replace hf := m16 c14
      exact MM.sub [0, 1, 2] (by rfl) (K5 _ hf)
    · replace hf := m15 c14
      refine MM.aload_n (i := 0) rfl rfl d_M_isClashing_21 rfl ?_
      refine MM.gR 9 13 tg_261 rq_9_21 rfl lays_9 ww_1379 d_M_isClashing_22 rfl ?_
      refine MM.iload_n (i := 2) rfl rfl d_M_isClashing_25 rfl ?_
      obtain ⟨k9, e10, hf⟩ := mm_bind hf
      refine MM.gI e10 al_274 d_M_isClashing_26 rfl ?_
      refine MM.iload_n (i := 1) rfl rfl d_M_isClashing_27 rfl ?_
      refine MM.iand d_M_isClashing_28 rfl ?_
      obtain ⟨m12, m13⟩ := mm_ifE hf
      refine MM.if_eq (tgt := 34) d_M_isClashing_29 rfl rfl (fun c11 => ?_) (fun c11 => ?_)
      · replace hf := m12 c11
        exact MM.sub [0, 1, 2] (by rfl) (K5 _ hf)
      · replace hf := m13 c11
        refine MM.iconst ic_1 d_M_isClashing_32 rfl ?_
        obtain rfl := Option.some.inj hf
        replace hf := mm_wxR hx3
        obtain rfl := Option.some.inj hf
        subst hZ
        exact MM.zret (Or.inr rfl) rfl d_M_isClashing_33 ⟨rfl, rfl⟩
theorem d_M_lies_0 : decode cX12_lies 0 = .ok (.aload_n 0, 1) := by decide +kernel
theorem d_M_lies_1 : decode cX12_lies 1 = .ok (.iconst 0, 1) := by decide +kernel
theorem d_M_lies_2 : decode cX12_lies 2 = .ok (.putfield 175, 3) := by decide +kernel
theorem d_M_lies_5 : decode cX12_lies 5 = .ok (.iload_n 1, 1) := by decide +kernel
theorem d_M_lies_6 : decode cX12_lies 6 = .ok (.iconst 0, 1) := by decide +kernel
theorem d_M_lies_7 : decode cX12_lies 7 = .ok (.iconst 3, 1) := by decide +kernel
theorem d_M_lies_8 : decode cX12_lies 8 = .ok (.invokestatic 308, 3) := by decide +kernel
theorem d_M_lies_11 : decode cX12_lies 11 = .ok (.ifCond .ne 5, 3) := by decide +kernel
theorem d_M_lies_14 : decode cX12_lies 14 = .ok (.iconst (-1), 1) := by decide +kernel
theorem d_M_lies_15 : decode cX12_lies 15 = .ok (.ireturn, 1) := by decide +kernel
theorem d_M_lies_16 : decode cX12_lies 16 = .ok (.iconst (-1), 1) := by decide +kernel
theorem d_M_lies_17 : decode cX12_lies 17 = .ok (.istore_n 2, 1) := by decide +kernel
theorem d_M_lies_18 : decode cX12_lies 18 = .ok (.iconst 0, 1) := by decide +kernel
theorem d_M_lies_19 : decode cX12_lies 19 = .ok (.istore_n 3, 1) := by decide +kernel
theorem d_M_lies_20 : decode cX12_lies 20 = .ok (.iconst 0, 1) := by decide +kernel
theorem d_M_lies_21 : decode cX12_lies 21 = .ok (.istore 4, 2) := by decide +kernel
theorem d_M_lies_23 : decode cX12_lies 23 = .ok (.iconst 0, 1) := by decide +kernel
theorem d_M_lies_24 : decode cX12_lies 24 = .ok (.istore 5, 2) := by decide +kernel
theorem d_M_lies_26 : decode cX12_lies 26 = .ok (.iload 5, 2) := by decide +kernel
theorem d_M_lies_28 : decode cX12_lies 28 = .ok (.aload_n 0, 1) := by decide +kernel
theorem d_M_lies_29 : decode cX12_lies 29 = .ok (.invokevirtual 489, 3) := by decide +kernel
theorem d_M_lies_32 : decode cX12_lies 32 = .ok (.if_icmp .gt 81, 3) := by decide +kernel
theorem d_M_lies_35 : decode cX12_lies 35 = .ok (.iload_n 2, 1) := by decide +kernel
theorem d_M_lies_36 : decode cX12_lies 36 = .ok (.ifCond .lt 15, 3) := by decide +kernel
theorem d_M_lies_39 : decode cX12_lies 39 = .ok (.iload 5, 2) := by decide +kernel
theorem d_M_lies_41 : decode cX12_lies 41 = .ok (.invokestatic 492, 3) := by decide +kernel
theorem d_M_lies_44 : decode cX12_lies 44 = .ok (.iload_n 2, 1) := by decide +kernel
theorem d_M_lies_45 : decode cX12_lies 45 = .ok (.invokestatic 492, 3) := by decide +kernel
theorem d_M_lies_48 : decode cX12_lies 48 = .ok (.if_icmp .gt 59, 3) := by decide +kernel
theorem d_M_lies_51 : decode cX12_lies 51 = .ok (.aload_n 0, 1) := by decide +kernel
theorem d_M_lies_52 : decode cX12_lies 52 = .ok (.aload_n 0, 1) := by decide +kernel
theorem d_M_lies_53 : decode cX12_lies 53 = .ok (.invokevirtual 489, 3) := by decide +kernel
theorem d_M_lies_56 : decode cX12_lies 56 = .ok (.iload 5, 2) := by decide +kernel
theorem d_M_lies_58 : decode cX12_lies 58 = .ok (.iconst (-1), 1) := by decide +kernel
theorem d_M_lies_59 : decode cX12_lies 59 = .ok (.ixor, 1) := by decide +kernel
theorem d_M_lies_60 : decode cX12_lies 60 = .ok (.iand, 1) := by decide +kernel
theorem d_M_lies_61 : decode cX12_lies 61 = .ok (.invokevirtual 514, 3) := by decide +kernel
theorem d_M_lies_64 : decode cX12_lies 64 = .ok (.ifCond .eq 6, 3) := by decide +kernel
theorem d_M_lies_67 : decode cX12_lies 67 = .ok (.goto 40, 3) := by decide +kernel
theorem d_M_lies_70 : decode cX12_lies 70 = .ok (.iload_n 2, 1) := by decide +kernel
theorem d_M_lies_71 : decode cX12_lies 71 = .ok (.ifCond .lt 15, 3) := by decide +kernel
theorem d_M_lies_74 : decode cX12_lies 74 = .ok (.iload 5, 2) := by decide +kernel
theorem d_M_lies_76 : decode cX12_lies 76 = .ok (.invokestatic 492, 3) := by decide +kernel
theorem d_M_lies_79 : decode cX12_lies 79 = .ok (.iload_n 2, 1) := by decide +kernel
theorem d_M_lies_80 : decode cX12_lies 80 = .ok (.invokestatic 492, 3) := by decide +kernel
theorem d_M_lies_83 : decode cX12_lies 83 = .ok (.if_icmp .ge 14, 3) := by decide +kernel
theorem d_M_lies_86 : decode cX12_lies 86 = .ok (.iload 5, 2) := by decide +kernel
theorem d_M_lies_88 : decode cX12_lies 88 = .ok (.istore_n 2, 1) := by decide +kernel
theorem d_M_lies_89 : decode cX12_lies 89 = .ok (.iconst 0, 1) := by decide +kernel
theorem d_M_lies_90 : decode cX12_lies 90 = .ok (.istore_n 3, 1) := by decide +kernel
theorem d_M_lies_91 : decode cX12_lies 91 = .ok (.aload_n 0, 1) := by decide +kernel
theorem d_M_lies_92 : decode cX12_lies 92 = .ok (.invokevirtual 489, 3) := by decide +kernel
theorem d_M_lies_95 : decode cX12_lies 95 = .ok (.istore 4, 2) := by decide +kernel
theorem d_M_lies_97 : decode cX12_lies 97 = .ok (.iinc 3 1, 3) := by decide +kernel
theorem d_M_lies_100 : decode cX12_lies 100 = .ok (.iload 4, 2) := by decide +kernel
theorem d_M_lies_102 : decode cX12_lies 102 = .ok (.iload 5, 2) := by decide +kernel
theorem d_M_lies_104 : decode cX12_lies 104 = .ok (.iand, 1) := by decide +kernel
theorem d_M_lies_105 : decode cX12_lies 105 = .ok (.istore 4, 2) := by decide +kernel
theorem d_M_lies_107 : decode cX12_lies 107 = .ok (.iinc 5 1, 3) := by decide +kernel
theorem d_M_lies_110 : decode cX12_lies 110 = .ok (.goto (-84), 3) := by decide +kernel
theorem d_M_lies_113 : decode cX12_lies 113 = .ok (.iload_n 1, 1) := by decide +kernel
theorem d_M_lies_114 : decode cX12_lies 114 = .ok (.ifCond .ne 10, 3) := by decide +kernel
theorem d_M_lies_117 : decode cX12_lies 117 = .ok (.iload_n 2, 1) := by decide +kernel
theorem d_M_lies_118 : decode cX12_lies 118 = .ok (.invokestatic 492, 3) := by decide +kernel
theorem d_M_lies_121 : decode cX12_lies 121 = .ok (.goto 23, 3) := by decide +kernel
theorem d_M_lies_124 : decode cX12_lies 124 = .ok (.iload_n 1, 1) := by decide +kernel
theorem d_M_lies_125 : decode cX12_lies 125 = .ok (.iconst 1, 1) := by decide +kernel
theorem d_M_lies_126 : decode cX12_lies 126 = .ok (.if_icmp .ne 7, 3) := by decide +kernel
theorem d_M_lies_129 : decode cX12_lies 129 = .ok (.iload_n 2, 1) := by decide +kernel
theorem d_M_lies_130 : decode cX12_lies 130 = .ok (.goto 14, 3) := by decide +kernel
theorem d_M_lies_133 : decode cX12_lies 133 = .ok (.iload_n 1, 1) := by decide +kernel
theorem d_M_lies_134 : decode cX12_lies 134 = .ok (.iconst 2, 1) := by decide +kernel
theorem d_M_lies_135 : decode cX12_lies 135 = .ok (.if_icmp .ne 7, 3) := by decide +kernel
theorem d_M_lies_138 : decode cX12_lies 138 = .ok (.iload_n 3, 1) := by decide +kernel
theorem d_M_lies_139 : decode cX12_lies 139 = .ok (.goto 5, 3) := by decide +kernel
theorem d_M_lies_142 : decode cX12_lies 142 = .ok (.iload 4, 2) := by decide +kernel
theorem d_M_lies_144 : decode cX12_lies 144 = .ok (.ireturn, 1) := by decide +kernel
noncomputable def f_M_lies (x1 : Int32) (h : mm_H) : Option (Int32 × mm_H) := mm_let (mm_pI h 261 0 0) fun h1 => (f_M_within x1 0 3).bind fun v4 => if v4 = 0 then (some ((-1), h1)) else ((mm_while (σ := (Int32 × Int32 × Int32 × Int32)) (ρ := (Int32 × Int32 × Int32)) (fun s5 => (f_M_allSecrets h1).bind fun v12 => if v12 < s5.2.2.2 then (some (Sum.inr (s5.1, s5.2.1, s5.2.2.1))) else ((mm_jp (fun (j15 : Unit) => ((f_M_allSecrets h1).bind fun v19 => (f_M_isClashing (v19 &&& (s5.2.2.2 ^^^ (-1))) h1).bind fun v21 => if v21 = 0 then ((mm_jp (fun (j24 : Unit) => ((f_M_allSecrets h1).bind fun v28 => some (s5.2.2.2, 0, v28))) fun k26 => if s5.1 < 0 then (k26 ()) else ((f_M_bits s5.2.2.2).bind fun v30 => (f_M_bits s5.1).bind fun v32 => if v32 ≤ v30 then (some (s5.1, s5.2.1, s5.2.2.1)) else (k26 ())) : Option (Int32 × Int32 × Int32)).bind fun j22 => mm_let (j22.2.1 + 1) fun y40 => mm_let (j22.2.2 &&& s5.2.2.2) fun y42 => some (j22.1, y40, y42)) else (some (s5.1, s5.2.1, s5.2.2.1)))) fun k17 => if s5.1 < 0 then (k17 ()) else ((f_M_bits s5.2.2.2).bind fun v49 => (f_M_bits s5.1).bind fun v51 => if v51 < v49 then (some (s5.1, s5.2.1, s5.2.2.1)) else (k17 ())) : Option (Int32 × Int32 × Int32)).bind fun j13 => mm_let (s5.2.2.2 + 1) fun y59 => some (Sum.inl (j13.1, j13.2.1, j13.2.2, y59)))) ((-1), 0, 0, 0)).bind fun v8 => if x1 = 0 then ((f_M_bits v8.1).bind fun v72 => some (v72, h1)) else (if x1 = 1 then (some (v8.1, h1)) else (if x1 = 2 then (some (v8.2.1, h1)) else (some (v8.2.2, h1)))))
theorem T_M_lies (V : mm_V) (l : Launch) (x1 : Int32) (h : mm_H) (r : (Int32 × mm_H)) (hf : f_M_lies x1 h = some r) : MT V l Y_M_lies 2 [.ref 261, .int x1] (fun r1 h1 => r1 = some (.int r.1) ∧ h1 = r.2) h := by
  unfold f_M_lies at hf
  refine MT.intro (pn_M rfl) [(0, .ref 261), (1, .int x1)] rfl (Nat.le_of_ble_eq_true rfl) ?_
  generalize hZ : mm_Z V _ = Z0
  refine MM.aload_n (i := 0) rfl rfl d_M_lies_0 rfl ?_
  refine MM.iconst ic_0 d_M_lies_1 rfl ?_
  obtain ⟨h1, e2, hf⟩ := mm_letE hf
  refine MM.putI e2 9 tg_261 lays_9 toks_9 pq_9_0 ww_1358 d_M_lies_2 rfl ?_
  refine MM.iload_n (i := 1) rfl rfl d_M_lies_5 rfl ?_
  refine MM.iconst ic_0 d_M_lies_6 rfl ?_
  refine MM.iconst ic_3 d_M_lies_7 rfl ?_
  obtain ⟨v4, e3, hf⟩ := mm_bind hf
  refine MM.callS1 (T_M_within V l x1 0 3 h1 _ e3) (fun _ _ q => q) cal_M_within rfl ww_1669 ww_1668 (by decide) (by simp [Value.category]) d_M_lies_8 rfl ⟨rfl, rfl⟩ rfl ?_
  obtain ⟨m77, m78⟩ := mm_ifE hf
  refine MM.if_ne (tgt := 16) d_M_lies_11 rfl rfl (fun c76 => ?_) (fun c76 => ?_)
  · replace hf := m78 c76
    refine MM.iconst ic_m1 d_M_lies_16 rfl ?_
    refine MM.istore_n (i := 2) (lv' := [(2, .int (-1)), (0, .ref 261), (1, .int x1)]) rfl rfl (Nat.le_of_ble_eq_true rfl) rfl d_M_lies_17 rfl ?_
    refine MM.iconst ic_0 d_M_lies_18 rfl ?_
    refine MM.istore_n (i := 3) (lv' := [(3, .int 0), (2, .int (-1)), (0, .ref 261), (1, .int x1)]) rfl rfl (Nat.le_of_ble_eq_true rfl) rfl d_M_lies_19 rfl ?_
    refine MM.iconst ic_0 d_M_lies_20 rfl ?_
    refine MM.istore (lv' := [(4, .int 0), (3, .int 0), (2, .int (-1)), (0, .ref 261), (1, .int x1)]) rfl (Nat.le_of_ble_eq_true rfl) rfl d_M_lies_21 rfl ?_
    refine MM.iconst ic_0 d_M_lies_23 rfl ?_
    refine MM.istore (lv' := [(5, .int 0), (4, .int 0), (3, .int 0), (2, .int (-1)), (0, .ref 261), (1, .int x1)]) rfl (Nat.le_of_ble_eq_true rfl) rfl d_M_lies_24 rfl ?_
    obtain ⟨v8, e10, hf⟩ := mm_bind hf
    have K9 : MM V l Y_M_lies 2 0 0 Z0 113 [(1, .int x1), (2, .int v8.1), (3, .int v8.2.1), (4, .int v8.2.2)] [] h1 := by
      refine MM.iload_n (i := 1) rfl rfl d_M_lies_113 rfl ?_
      obtain ⟨m74, m75⟩ := mm_ifE hf
      refine MM.if_ne (tgt := 124) d_M_lies_114 rfl rfl (fun c73 => ?_) (fun c73 => ?_)
      · replace hf := m75 c73
        refine MM.iload_n (i := 1) rfl rfl d_M_lies_124 rfl ?_
        refine MM.iconst ic_1 d_M_lies_125 rfl ?_
        obtain ⟨m69, m70⟩ := mm_ifE hf
        refine MM.icmp_ne (tgt := 133) d_M_lies_126 rfl rfl (fun c68 => ?_) (fun c68 => ?_)
        · replace hf := m70 c68
          refine MM.iload_n (i := 1) rfl rfl d_M_lies_133 rfl ?_
          refine MM.iconst ic_2 d_M_lies_134 rfl ?_
          obtain ⟨m66, m67⟩ := mm_ifE hf
          refine MM.icmp_ne (tgt := 142) d_M_lies_135 rfl rfl (fun c65 => ?_) (fun c65 => ?_)
          · replace hf := m67 c65
            refine MM.iload rfl d_M_lies_142 rfl ?_
            obtain rfl := Option.some.inj hf
            subst hZ
            exact MM.iret rfl d_M_lies_144 ⟨rfl, rfl⟩
          · replace hf := m66 c65
            refine MM.iload_n (i := 3) rfl rfl d_M_lies_138 rfl ?_
            refine MM.goto (tgt := 144) d_M_lies_139 rfl ?_
            obtain rfl := Option.some.inj hf
            subst hZ
            exact MM.iret rfl d_M_lies_144 ⟨rfl, rfl⟩
        · replace hf := m69 c68
          refine MM.iload_n (i := 2) rfl rfl d_M_lies_129 rfl ?_
          refine MM.goto (tgt := 144) d_M_lies_130 rfl ?_
          obtain rfl := Option.some.inj hf
          subst hZ
          exact MM.iret rfl d_M_lies_144 ⟨rfl, rfl⟩
      · replace hf := m74 c73
        refine MM.iload_n (i := 2) rfl rfl d_M_lies_117 rfl ?_
        obtain ⟨v72, e71, hf⟩ := mm_bind hf
        refine MM.callS1 (T_M_bits V l v8.1 h1 _ e71) (fun _ _ q => q) cal_M_bits rfl ww_1922 ww_1921 (by decide) (by simp [Value.category]) d_M_lies_118 rfl ⟨rfl, rfl⟩ rfl ?_
        refine MM.goto (tgt := 144) d_M_lies_121 rfl ?_
        obtain rfl := Option.some.inj hf
        subst hZ
        exact MM.iret rfl d_M_lies_144 ⟨rfl, rfl⟩
    clear hf
    refine MM.sub [4, 5, 3, 2, 1, 0] (by rfl) (mm_while_ind (fun s5 => MM V l Y_M_lies 2 0 0 Z0 26 [(0, .ref 261), (1, .int x1), (2, .int s5.1), (3, .int s5.2.1), (4, .int s5.2.2.1), (5, .int s5.2.2.2)] [] h1) e10 (fun s5 q6 hf hx7 => ?_))
    refine MM.iload rfl d_M_lies_26 rfl ?_
    refine MM.aload_n (i := 0) rfl rfl d_M_lies_28 rfl ?_
    obtain ⟨v12, e11, hf⟩ := mm_bind hf
    refine MM.callV1 (T_M_allSecrets V l  h1 _ e11) (fun _ _ q => q) cal_M_allSecrets rfl tg_261 ct_9 ww_94 ww_1911 ww_1909 (by decide) (by simp [Value.category]) d_M_lies_29 rfl ⟨rfl, rfl⟩ rfl ?_
    obtain ⟨m63, m64⟩ := mm_ifE hf
    refine MM.icmp_gt (tgt := 113) d_M_lies_32 rfl rfl (fun c62 => ?_) (fun c62 => ?_)
    · replace hf := m63 c62
      obtain rfl := Option.some.inj hf
      obtain rfl := Option.some.inj (mm_wxR hx7)
      exact MM.sub [1, 2, 3, 4] (by rfl) K9
    · replace hf := m64 c62
      refine MM.iload_n (i := 2) rfl rfl d_M_lies_35 rfl ?_
      obtain ⟨j13, e61, hf⟩ := mm_bind hf
      have K14 : MM V l Y_M_lies 2 0 0 Z0 107 [(0, .ref 261), (1, .int x1), (2, .int j13.1), (3, .int j13.2.1), (4, .int j13.2.2), (5, .int s5.2.2.2)] [] h1 := by
        obtain ⟨y59, e60, hf⟩ := mm_letE hf
        refine MM.iinc (k0 := 5) (lv' := [(5, .int y59), (0, .ref 261), (1, .int x1), (2, .int j13.1), (3, .int j13.2.1), (4, .int j13.2.2)]) (by rw [ic_1]; exact e60) rfl (Nat.le_of_ble_eq_true rfl) rfl d_M_lies_107 rfl ?_
        refine MM.goto (tgt := 26) d_M_lies_110 rfl ?_
        obtain rfl := Option.some.inj hf
        have h9 := mm_wxL hx7
        exact MM.sub [1, 2, 3, 4, 5, 0] (by rfl) h9
      clear hf
      have hf := e61
      clear e61
      obtain ⟨k17, e58, hf⟩ := mm_jpE hf
      have K16 : ∀ j15, k17 j15 = some j13 → MM V l Y_M_lies 2 0 0 Z0 51 [(0, .ref 261), (1, .int x1), (2, .int s5.1), (3, .int s5.2.1), (4, .int s5.2.2.1), (5, .int s5.2.2.2)] [] h1 := by
        intro j15 hf
        rw [e58] at hf
        refine MM.aload_n (i := 0) rfl rfl d_M_lies_51 rfl ?_
        refine MM.aload_n (i := 0) rfl rfl d_M_lies_52 rfl ?_
        obtain ⟨v19, e18, hf⟩ := mm_bind hf
        refine MM.callV1 (T_M_allSecrets V l  h1 _ e18) (fun _ _ q => q) cal_M_allSecrets rfl tg_261 ct_9 ww_94 ww_1911 ww_1909 (by decide) (by simp [Value.category]) d_M_lies_53 rfl ⟨rfl, rfl⟩ rfl ?_
        refine MM.iload rfl d_M_lies_56 rfl ?_
        refine MM.iconst ic_m1 d_M_lies_58 rfl ?_
        refine MM.ixor d_M_lies_59 rfl ?_
        refine MM.iand d_M_lies_60 rfl ?_
        obtain ⟨v21, e20, hf⟩ := mm_bind hf
        refine MM.callV1 (T_M_isClashing V l (v19 &&& (s5.2.2.2 ^^^ (-1))) h1 _ e20) (fun _ _ q => q) cal_M_isClashing rfl tg_261 ct_9 ww_99 ww_1958 ww_1956 (by decide) (by simp [Value.category]) d_M_lies_61 rfl ⟨rfl, rfl⟩ rfl ?_
        obtain ⟨m46, m47⟩ := mm_ifE hf
        refine MM.if_eq (tgt := 70) d_M_lies_64 rfl rfl (fun c45 => ?_) (fun c45 => ?_)
        · replace hf := m46 c45
          refine MM.iload_n (i := 2) rfl rfl d_M_lies_70 rfl ?_
          obtain ⟨j22, e44, hf⟩ := mm_bind hf
          have K23 : MM V l Y_M_lies 2 0 0 Z0 97 [(0, .ref 261), (1, .int x1), (2, .int j22.1), (3, .int j22.2.1), (4, .int j22.2.2), (5, .int s5.2.2.2)] [] h1 := by
            obtain ⟨y40, e41, hf⟩ := mm_letE hf
            refine MM.iinc (k0 := 3) (lv' := [(3, .int y40), (0, .ref 261), (1, .int x1), (2, .int j22.1), (4, .int j22.2.2), (5, .int s5.2.2.2)]) (by rw [ic_1]; exact e41) rfl (Nat.le_of_ble_eq_true rfl) rfl d_M_lies_97 rfl ?_
            refine MM.iload rfl d_M_lies_100 rfl ?_
            refine MM.iload rfl d_M_lies_102 rfl ?_
            refine MM.iand d_M_lies_104 rfl ?_
            obtain ⟨y42, e43, hf⟩ := mm_letE hf
            refine MM.istore (lv' := [(4, .int y42), (3, .int y40), (0, .ref 261), (1, .int x1), (2, .int j22.1), (5, .int s5.2.2.2)]) e43 (Nat.le_of_ble_eq_true rfl) rfl d_M_lies_105 rfl ?_
            obtain rfl := Option.some.inj hf
            exact MM.sub [2, 3, 4, 1, 0, 5] (by rfl) K14
          clear hf
          have hf := e44
          clear e44
          obtain ⟨k26, e39, hf⟩ := mm_jpE hf
          have K25 : ∀ j24, k26 j24 = some j22 → MM V l Y_M_lies 2 0 0 Z0 86 [(0, .ref 261), (1, .int x1), (5, .int s5.2.2.2)] [] h1 := by
            intro j24 hf
            rw [e39] at hf
            refine MM.iload rfl d_M_lies_86 rfl ?_
            refine MM.istore_n (i := 2) (lv' := [(2, .int s5.2.2.2), (0, .ref 261), (1, .int x1), (5, .int s5.2.2.2)]) rfl rfl (Nat.le_of_ble_eq_true rfl) rfl d_M_lies_88 rfl ?_
            refine MM.iconst ic_0 d_M_lies_89 rfl ?_
            refine MM.istore_n (i := 3) (lv' := [(3, .int 0), (2, .int s5.2.2.2), (0, .ref 261), (1, .int x1), (5, .int s5.2.2.2)]) rfl rfl (Nat.le_of_ble_eq_true rfl) rfl d_M_lies_90 rfl ?_
            refine MM.aload_n (i := 0) rfl rfl d_M_lies_91 rfl ?_
            obtain ⟨v28, e27, hf⟩ := mm_bind hf
            refine MM.callV1 (T_M_allSecrets V l  h1 _ e27) (fun _ _ q => q) cal_M_allSecrets rfl tg_261 ct_9 ww_94 ww_1911 ww_1909 (by decide) (by simp [Value.category]) d_M_lies_92 rfl ⟨rfl, rfl⟩ rfl ?_
            refine MM.istore (lv' := [(4, .int v28), (3, .int 0), (2, .int s5.2.2.2), (0, .ref 261), (1, .int x1), (5, .int s5.2.2.2)]) rfl (Nat.le_of_ble_eq_true rfl) rfl d_M_lies_95 rfl ?_
            obtain rfl := Option.some.inj hf
            exact MM.sub [3, 4, 2, 1, 0, 5] (by rfl) K23
          clear e39
          obtain ⟨m37, m38⟩ := mm_ifE hf
          refine MM.if_lt (tgt := 86) d_M_lies_71 rfl rfl (fun c36 => ?_) (fun c36 => ?_)
          · replace hf := m37 c36
            exact MM.sub [0, 1, 5] (by rfl) (K25 _ hf)
          · replace hf := m38 c36
            refine MM.iload rfl d_M_lies_74 rfl ?_
            obtain ⟨v30, e29, hf⟩ := mm_bind hf
            refine MM.callS1 (T_M_bits V l s5.2.2.2 h1 _ e29) (fun _ _ q => q) cal_M_bits rfl ww_1922 ww_1921 (by decide) (by simp [Value.category]) d_M_lies_76 rfl ⟨rfl, rfl⟩ rfl ?_
            refine MM.iload_n (i := 2) rfl rfl d_M_lies_79 rfl ?_
            obtain ⟨v32, e31, hf⟩ := mm_bind hf
            refine MM.callS1 (T_M_bits V l s5.1 h1 _ e31) (fun _ _ q => q) cal_M_bits rfl ww_1922 ww_1921 (by decide) (by simp [Value.category]) d_M_lies_80 rfl ⟨rfl, rfl⟩ rfl ?_
            obtain ⟨m34, m35⟩ := mm_ifE hf
            refine MM.icmp_ge (tgt := 97) d_M_lies_83 rfl rfl (fun c33 => ?_) (fun c33 => ?_)
            · replace hf := m34 c33
              obtain rfl := Option.some.inj hf
              exact MM.sub [0, 1, 2, 3, 4, 5] (by rfl) K23
            · replace hf := m35 c33
              exact MM.sub [0, 1, 5] (by rfl) (K25 _ hf)
        · replace hf := m47 c45
          refine MM.goto (tgt := 107) d_M_lies_67 rfl ?_
          obtain rfl := Option.some.inj hf
          exact MM.sub [0, 1, 2, 3, 4, 5] (by rfl) K14
      clear e58
      obtain ⟨m56, m57⟩ := mm_ifE hf
      refine MM.if_lt (tgt := 51) d_M_lies_36 rfl rfl (fun c55 => ?_) (fun c55 => ?_)
      · replace hf := m56 c55
        exact MM.sub [0, 1, 2, 3, 4, 5] (by rfl) (K16 _ hf)
      · replace hf := m57 c55
        refine MM.iload rfl d_M_lies_39 rfl ?_
        obtain ⟨v49, e48, hf⟩ := mm_bind hf
        refine MM.callS1 (T_M_bits V l s5.2.2.2 h1 _ e48) (fun _ _ q => q) cal_M_bits rfl ww_1922 ww_1921 (by decide) (by simp [Value.category]) d_M_lies_41 rfl ⟨rfl, rfl⟩ rfl ?_
        refine MM.iload_n (i := 2) rfl rfl d_M_lies_44 rfl ?_
        obtain ⟨v51, e50, hf⟩ := mm_bind hf
        refine MM.callS1 (T_M_bits V l s5.1 h1 _ e50) (fun _ _ q => q) cal_M_bits rfl ww_1922 ww_1921 (by decide) (by simp [Value.category]) d_M_lies_45 rfl ⟨rfl, rfl⟩ rfl ?_
        obtain ⟨m53, m54⟩ := mm_ifE hf
        refine MM.icmp_gt (tgt := 107) d_M_lies_48 rfl rfl (fun c52 => ?_) (fun c52 => ?_)
        · replace hf := m53 c52
          obtain rfl := Option.some.inj hf
          exact MM.sub [0, 1, 2, 3, 4, 5] (by rfl) K14
        · replace hf := m54 c52
          exact MM.sub [0, 1, 2, 3, 4, 5] (by rfl) (K16 _ hf)
  · replace hf := m77 c76
    refine MM.iconst ic_m1 d_M_lies_14 rfl ?_
    obtain rfl := Option.some.inj hf
    subst hZ
    exact MM.iret rfl d_M_lies_15 ⟨rfl, rfl⟩
theorem d_M_laysHears_0 : decode cX12_laysHears 0 = .ok (.iconst 0, 1) := by decide +kernel
theorem d_M_laysHears_1 : decode cX12_laysHears 1 = .ok (.istore_n 2, 1) := by decide +kernel
theorem d_M_laysHears_2 : decode cX12_laysHears 2 = .ok (.iload_n 2, 1) := by decide +kernel
theorem d_M_laysHears_3 : decode cX12_laysHears 3 = .ok (.aload_n 0, 1) := by decide +kernel
theorem d_M_laysHears_4 : decode cX12_laysHears 4 = .ok (.getfield 13, 3) := by decide +kernel
theorem d_M_laysHears_7 : decode cX12_laysHears 7 = .ok (.iconst 0, 1) := by decide +kernel
theorem d_M_laysHears_8 : decode cX12_laysHears 8 = .ok (.iaload, 1) := by decide +kernel
theorem d_M_laysHears_9 : decode cX12_laysHears 9 = .ok (.if_icmp .ge 123, 3) := by decide +kernel
theorem d_M_laysHears_12 : decode cX12_laysHears 12 = .ok (.ldc_w 517, 3) := by decide +kernel
theorem d_M_laysHears_15 : decode cX12_laysHears 15 = .ok (.istore_n 3, 1) := by decide +kernel
theorem d_M_laysHears_16 : decode cX12_laysHears 16 = .ok (.iconst 0, 1) := by decide +kernel
theorem d_M_laysHears_17 : decode cX12_laysHears 17 = .ok (.istore 4, 2) := by decide +kernel
theorem d_M_laysHears_19 : decode cX12_laysHears 19 = .ok (.iload 4, 2) := by decide +kernel
theorem d_M_laysHears_21 : decode cX12_laysHears 21 = .ok (.aload_n 0, 1) := by decide +kernel
theorem d_M_laysHears_22 : decode cX12_laysHears 22 = .ok (.getfield 13, 3) := by decide +kernel
theorem d_M_laysHears_25 : decode cX12_laysHears 25 = .ok (.iconst 0, 1) := by decide +kernel
theorem d_M_laysHears_26 : decode cX12_laysHears 26 = .ok (.iaload, 1) := by decide +kernel
theorem d_M_laysHears_27 : decode cX12_laysHears 27 = .ok (.if_icmp .ge 88, 3) := by decide +kernel
theorem d_M_laysHears_30 : decode cX12_laysHears 30 = .ok (.iload_n 1, 1) := by decide +kernel
theorem d_M_laysHears_31 : decode cX12_laysHears 31 = .ok (.iload 4, 2) := by decide +kernel
theorem d_M_laysHears_33 : decode cX12_laysHears 33 = .ok (.ishr, 1) := by decide +kernel
theorem d_M_laysHears_34 : decode cX12_laysHears 34 = .ok (.iconst 1, 1) := by decide +kernel
theorem d_M_laysHears_35 : decode cX12_laysHears 35 = .ok (.iand, 1) := by decide +kernel
theorem d_M_laysHears_36 : decode cX12_laysHears 36 = .ok (.ifCond .eq 73, 3) := by decide +kernel
theorem d_M_laysHears_39 : decode cX12_laysHears 39 = .ok (.aload_n 0, 1) := by decide +kernel
theorem d_M_laysHears_40 : decode cX12_laysHears 40 = .ok (.iload 4, 2) := by decide +kernel
theorem d_M_laysHears_42 : decode cX12_laysHears 42 = .ok (.invokevirtual 461, 3) := by decide +kernel
theorem d_M_laysHears_45 : decode cX12_laysHears 45 = .ok (.ifCond .ne 6, 3) := by decide +kernel
theorem d_M_laysHears_48 : decode cX12_laysHears 48 = .ok (.goto 61, 3) := by decide +kernel
theorem d_M_laysHears_51 : decode cX12_laysHears 51 = .ok (.iconst 0, 1) := by decide +kernel
theorem d_M_laysHears_52 : decode cX12_laysHears 52 = .ok (.istore 5, 2) := by decide +kernel
theorem d_M_laysHears_54 : decode cX12_laysHears 54 = .ok (.iload 5, 2) := by decide +kernel
theorem d_M_laysHears_56 : decode cX12_laysHears 56 = .ok (.aload_n 0, 1) := by decide +kernel
theorem d_M_laysHears_57 : decode cX12_laysHears 57 = .ok (.getfield 13, 3) := by decide +kernel
theorem d_M_laysHears_60 : decode cX12_laysHears 60 = .ok (.iconst 2, 1) := by decide +kernel
theorem d_M_laysHears_61 : decode cX12_laysHears 61 = .ok (.iaload, 1) := by decide +kernel
theorem d_M_laysHears_62 : decode cX12_laysHears 62 = .ok (.if_icmp .ge 47, 3) := by decide +kernel
theorem d_M_laysHears_65 : decode cX12_laysHears 65 = .ok (.aload_n 0, 1) := by decide +kernel
theorem d_M_laysHears_66 : decode cX12_laysHears 66 = .ok (.getfield 50, 3) := by decide +kernel
theorem d_M_laysHears_69 : decode cX12_laysHears 69 = .ok (.iload 5, 2) := by decide +kernel
theorem d_M_laysHears_71 : decode cX12_laysHears 71 = .ok (.iaload, 1) := by decide +kernel
theorem d_M_laysHears_72 : decode cX12_laysHears 72 = .ok (.iload 4, 2) := by decide +kernel
theorem d_M_laysHears_74 : decode cX12_laysHears 74 = .ok (.if_icmp .ne 29, 3) := by decide +kernel
theorem d_M_laysHears_77 : decode cX12_laysHears 77 = .ok (.aload_n 0, 1) := by decide +kernel
theorem d_M_laysHears_78 : decode cX12_laysHears 78 = .ok (.getfield 53, 3) := by decide +kernel
theorem d_M_laysHears_81 : decode cX12_laysHears 81 = .ok (.iload 5, 2) := by decide +kernel
theorem d_M_laysHears_83 : decode cX12_laysHears 83 = .ok (.iaload, 1) := by decide +kernel
theorem d_M_laysHears_84 : decode cX12_laysHears 84 = .ok (.iload_n 2, 1) := by decide +kernel
theorem d_M_laysHears_85 : decode cX12_laysHears 85 = .ok (.if_icmp .ne 18, 3) := by decide +kernel
theorem d_M_laysHears_88 : decode cX12_laysHears 88 = .ok (.iload_n 3, 1) := by decide +kernel
theorem d_M_laysHears_89 : decode cX12_laysHears 89 = .ok (.bipush 10, 2) := by decide +kernel
theorem d_M_laysHears_91 : decode cX12_laysHears 91 = .ok (.aload_n 0, 1) := by decide +kernel
theorem d_M_laysHears_92 : decode cX12_laysHears 92 = .ok (.iload 5, 2) := by decide +kernel
theorem d_M_laysHears_94 : decode cX12_laysHears 94 = .ok (.invokevirtual 454, 3) := by decide +kernel
theorem d_M_laysHears_97 : decode cX12_laysHears 97 = .ok (.isub, 1) := by decide +kernel
theorem d_M_laysHears_98 : decode cX12_laysHears 98 = .ok (.imul, 1) := by decide +kernel
theorem d_M_laysHears_99 : decode cX12_laysHears 99 = .ok (.bipush 10, 2) := by decide +kernel
theorem d_M_laysHears_101 : decode cX12_laysHears 101 = .ok (.idiv, 1) := by decide +kernel
theorem d_M_laysHears_102 : decode cX12_laysHears 102 = .ok (.istore_n 3, 1) := by decide +kernel
theorem d_M_laysHears_103 : decode cX12_laysHears 103 = .ok (.iinc 5 1, 3) := by decide +kernel
theorem d_M_laysHears_106 : decode cX12_laysHears 106 = .ok (.goto (-52), 3) := by decide +kernel
theorem d_M_laysHears_109 : decode cX12_laysHears 109 = .ok (.iinc 4 1, 3) := by decide +kernel
theorem d_M_laysHears_112 : decode cX12_laysHears 112 = .ok (.goto (-93), 3) := by decide +kernel
theorem d_M_laysHears_115 : decode cX12_laysHears 115 = .ok (.aload_n 0, 1) := by decide +kernel
theorem d_M_laysHears_116 : decode cX12_laysHears 116 = .ok (.getfield 163, 3) := by decide +kernel
theorem d_M_laysHears_119 : decode cX12_laysHears 119 = .ok (.iload_n 2, 1) := by decide +kernel
theorem d_M_laysHears_120 : decode cX12_laysHears 120 = .ok (.ldc_w 517, 3) := by decide +kernel
theorem d_M_laysHears_123 : decode cX12_laysHears 123 = .ok (.iload_n 3, 1) := by decide +kernel
theorem d_M_laysHears_124 : decode cX12_laysHears 124 = .ok (.isub, 1) := by decide +kernel
theorem d_M_laysHears_125 : decode cX12_laysHears 125 = .ok (.iastore, 1) := by decide +kernel
theorem d_M_laysHears_126 : decode cX12_laysHears 126 = .ok (.iinc 2 1, 3) := by decide +kernel
theorem d_M_laysHears_129 : decode cX12_laysHears 129 = .ok (.goto (-127), 3) := by decide +kernel
theorem d_M_laysHears_132 : decode cX12_laysHears 132 = .ok (.return_, 1) := by decide +kernel
noncomputable def f_M_laysHears (x1 : Int32) (h : mm_H) : Option mm_H := (mm_while (σ := (Int32 × mm_H)) (ρ := mm_H) (fun s1 => if (s1.2.1 263 0) ≤ s1.1 then (some (Sum.inr s1.2)) else ((mm_while (σ := (Int32 × Int32)) (ρ := Int32) (fun s7 => if (s1.2.1 263 0) ≤ s7.2 then (some (Sum.inr s7.1)) else ((if ((x1 >>> (s7.2 &&& 31)) &&& 1) = 0 then (some s7.1) else ((f_M_speaks s7.2 s1.2).bind fun v16 => if v16 = 0 then (some s7.1) else ((mm_while (σ := (Int32 × Int32)) (ρ := Int32) (fun s17 => if (s1.2.1 263 2) ≤ s17.2 then (some (Sum.inr s17.1)) else ((mm_ix s17.2 60).bind fun k23 => (if (s1.2.1 275 k23) = s7.2 then ((mm_ix s17.2 60).bind fun k27 => if (s1.2.1 276 k27) = s1.1 then ((f_M_chanceOf s17.2 s1.2).bind fun v30 => mm_let ((s17.1 * (10 - v30)) / 10) fun y31 => some y31) else (some s17.1)) else (some s17.1) : Option Int32).bind fun j25 => mm_let (s17.2 + 1) fun y39 => some (Sum.inl (j25, y39)))) (s7.1, 0)).bind fun v20 => some v20)) : Option Int32).bind fun j13 => mm_let (s7.2 + 1) fun y51 => some (Sum.inl (j13, y51)))) (1000000, 0)).bind fun v10 => (mm_ix s1.1 6).bind fun k57 => mm_let (mm_pI s1.2 312 k57 (1000000 - v10)) fun h59 => mm_let (s1.1 + 1) fun y61 => some (Sum.inl (y61, h59)))) (0, h)).bind fun v4 => some v4
theorem T_M_laysHears (V : mm_V) (l : Launch) (x1 : Int32) (h : mm_H) (r : mm_H) (hf : f_M_laysHears x1 h = some r) : MT V l Y_M_laysHears 3 [.ref 261, .int x1] (fun r1 h1 => r1 = none ∧ h1 = r) h := by
  unfold f_M_laysHears at hf
  refine MT.intro (pn_M rfl) [(0, .ref 261), (1, .int x1)] rfl (Nat.le_of_ble_eq_true rfl) ?_
  generalize hZ : mm_Z V _ = Z0
  refine MM.iconst ic_0 d_M_laysHears_0 rfl ?_
  refine MM.istore_n (i := 2) (lv' := [(2, .int 0), (0, .ref 261), (1, .int x1)]) rfl rfl (Nat.le_of_ble_eq_true rfl) rfl d_M_laysHears_1 rfl ?_
  obtain ⟨v4, e6, hf⟩ := mm_bind hf
  have K5 : MM V l Y_M_laysHears 3 0 0 Z0 132 [] [] v4 := by
    obtain rfl := Option.some.inj hf
    subst hZ
    exact MM.vret rfl d_M_laysHears_132 ⟨rfl, rfl⟩
  clear hf
  refine MM.sub [1, 2, 0] (by rfl) (mm_while_ind (fun s1 => MM V l Y_M_laysHears 3 0 0 Z0 2 [(0, .ref 261), (1, .int x1), (2, .int s1.1)] [] s1.2) e6 (fun s1 q2 hf hx3 => ?_))
  refine MM.iload_n (i := 2) rfl rfl d_M_laysHears_2 rfl ?_
  refine MM.aload_n (i := 0) rfl rfl d_M_laysHears_3 rfl ?_
  refine MM.gR 9 2 tg_261 rq_9_10 rfl lays_9 ww_1368 d_M_laysHears_4 rfl ?_
  refine MM.iconst ic_0 d_M_laysHears_7 rfl ?_
  refine MM.gI ix_0_8 al_263 d_M_laysHears_8 rfl ?_
  obtain ⟨m64, m65⟩ := mm_ifE hf
  refine MM.icmp_ge (tgt := 132) d_M_laysHears_9 rfl rfl (fun c63 => ?_) (fun c63 => ?_)
  · replace hf := m64 c63
    obtain rfl := Option.some.inj hf
    obtain rfl := Option.some.inj (mm_wxR hx3)
    exact MM.sub [] (by rfl) K5
  · replace hf := m65 c63
    refine MM.ldc_w ww_1968 d_M_laysHears_12 rfl ?_
    refine MM.istore_n (i := 3) (lv' := [(3, .int 1000000), (0, .ref 261), (1, .int x1), (2, .int s1.1)]) rfl rfl (Nat.le_of_ble_eq_true rfl) rfl d_M_laysHears_15 rfl ?_
    refine MM.iconst ic_0 d_M_laysHears_16 rfl ?_
    refine MM.istore (lv' := [(4, .int 0), (3, .int 1000000), (0, .ref 261), (1, .int x1), (2, .int s1.1)]) rfl (Nat.le_of_ble_eq_true rfl) rfl d_M_laysHears_17 rfl ?_
    obtain ⟨v10, e12, hf⟩ := mm_bind hf
    have K11 : MM V l Y_M_laysHears 3 0 0 Z0 115 [(0, .ref 261), (1, .int x1), (2, .int s1.1), (3, .int v10)] [] s1.2 := by
      refine MM.aload_n (i := 0) rfl rfl d_M_laysHears_115 rfl ?_
      refine MM.gR 9 51 tg_261 rq_9_64 rfl lays_9 ww_1422 d_M_laysHears_116 rfl ?_
      refine MM.iload_n (i := 2) rfl rfl d_M_laysHears_119 rfl ?_
      refine MM.ldc_w ww_1968 d_M_laysHears_120 rfl ?_
      refine MM.iload_n (i := 3) rfl rfl d_M_laysHears_123 rfl ?_
      refine MM.isub d_M_laysHears_124 rfl ?_
      obtain ⟨k57, e58, hf⟩ := mm_bind hf
      obtain ⟨h59, e60, hf⟩ := mm_letE hf
      refine MM.sI e58 e60 al_312 d_M_laysHears_125 rfl ?_
      obtain ⟨y61, e62, hf⟩ := mm_letE hf
      refine MM.iinc (k0 := 2) (lv' := [(2, .int y61), (0, .ref 261), (1, .int x1), (3, .int v10)]) (by rw [ic_1]; exact e62) rfl (Nat.le_of_ble_eq_true rfl) rfl d_M_laysHears_126 rfl ?_
      refine MM.goto (tgt := 2) d_M_laysHears_129 rfl ?_
      obtain rfl := Option.some.inj hf
      have h9 := mm_wxL hx3
      exact MM.sub [1, 2, 0] (by rfl) h9
    clear hf
    refine MM.sub [2, 3, 4, 1, 0] (by rfl) (mm_while_ind (fun s7 => MM V l Y_M_laysHears 3 0 0 Z0 19 [(0, .ref 261), (1, .int x1), (2, .int s1.1), (3, .int s7.1), (4, .int s7.2)] [] s1.2) e12 (fun s7 q8 hf hx9 => ?_))
    refine MM.iload rfl d_M_laysHears_19 rfl ?_
    refine MM.aload_n (i := 0) rfl rfl d_M_laysHears_21 rfl ?_
    refine MM.gR 9 2 tg_261 rq_9_10 rfl lays_9 ww_1368 d_M_laysHears_22 rfl ?_
    refine MM.iconst ic_0 d_M_laysHears_25 rfl ?_
    refine MM.gI ix_0_8 al_263 d_M_laysHears_26 rfl ?_
    obtain ⟨m55, m56⟩ := mm_ifE hf
    refine MM.icmp_ge (tgt := 115) d_M_laysHears_27 rfl rfl (fun c54 => ?_) (fun c54 => ?_)
    · replace hf := m55 c54
      obtain rfl := Option.some.inj hf
      obtain rfl := Option.some.inj (mm_wxR hx9)
      exact MM.sub [0, 1, 2, 3] (by rfl) K11
    · replace hf := m56 c54
      refine MM.iload_n (i := 1) rfl rfl d_M_laysHears_30 rfl ?_
      refine MM.iload rfl d_M_laysHears_31 rfl ?_
      refine MM.ishr d_M_laysHears_33 rfl ?_
      refine MM.iconst ic_1 d_M_laysHears_34 rfl ?_
      refine MM.iand d_M_laysHears_35 rfl ?_
      obtain ⟨j13, e53, hf⟩ := mm_bind hf
      have K14 : MM V l Y_M_laysHears 3 0 0 Z0 109 [(0, .ref 261), (1, .int x1), (2, .int s1.1), (3, .int j13), (4, .int s7.2)] [] s1.2 := by
        obtain ⟨y51, e52, hf⟩ := mm_letE hf
        refine MM.iinc (k0 := 4) (lv' := [(4, .int y51), (0, .ref 261), (1, .int x1), (2, .int s1.1), (3, .int j13)]) (by rw [ic_1]; exact e52) rfl (Nat.le_of_ble_eq_true rfl) rfl d_M_laysHears_109 rfl ?_
        refine MM.goto (tgt := 19) d_M_laysHears_112 rfl ?_
        obtain rfl := Option.some.inj hf
        have h9 := mm_wxL hx9
        exact MM.sub [1, 2, 3, 4, 0] (by rfl) h9
      clear hf
      have hf := e53
      clear e53
      obtain ⟨m49, m50⟩ := mm_ifE hf
      refine MM.if_eq (tgt := 109) d_M_laysHears_36 rfl rfl (fun c48 => ?_) (fun c48 => ?_)
      · replace hf := m49 c48
        obtain rfl := Option.some.inj hf
        exact MM.sub [0, 1, 2, 3, 4] (by rfl) K14
      · replace hf := m50 c48
        refine MM.aload_n (i := 0) rfl rfl d_M_laysHears_39 rfl ?_
        refine MM.iload rfl d_M_laysHears_40 rfl ?_
        obtain ⟨v16, e15, hf⟩ := mm_bind hf
        refine MM.callV1 (T_M_speaks V l s7.2 s1.2 _ e15) (fun _ _ q => q) cal_M_speaks rfl tg_261 ct_9 ww_86 ww_1852 ww_1850 (by decide) (by simp [Value.category]) d_M_laysHears_42 rfl ⟨rfl, rfl⟩ rfl ?_
        obtain ⟨m46, m47⟩ := mm_ifE hf
        refine MM.if_ne (tgt := 51) d_M_laysHears_45 rfl rfl (fun c45 => ?_) (fun c45 => ?_)
        · replace hf := m47 c45
          refine MM.iconst ic_0 d_M_laysHears_51 rfl ?_
          refine MM.istore (lv' := [(5, .int 0), (0, .ref 261), (1, .int x1), (2, .int s1.1), (3, .int s7.1), (4, .int s7.2)]) rfl (Nat.le_of_ble_eq_true rfl) rfl d_M_laysHears_52 rfl ?_
          obtain ⟨v20, e22, hf⟩ := mm_bind hf
          have K21 : MM V l Y_M_laysHears 3 0 0 Z0 109 [(0, .ref 261), (1, .int x1), (2, .int s1.1), (3, .int v20), (4, .int s7.2)] [] s1.2 := by
            obtain rfl := Option.some.inj hf
            exact MM.sub [0, 1, 2, 3, 4] (by rfl) K14
          clear hf
          refine MM.sub [1, 2, 3, 4, 5, 0] (by rfl) (mm_while_ind (fun s17 => MM V l Y_M_laysHears 3 0 0 Z0 54 [(0, .ref 261), (1, .int x1), (2, .int s1.1), (3, .int s17.1), (4, .int s7.2), (5, .int s17.2)] [] s1.2) e22 (fun s17 q18 hf hx19 => ?_))
          refine MM.iload rfl d_M_laysHears_54 rfl ?_
          refine MM.aload_n (i := 0) rfl rfl d_M_laysHears_56 rfl ?_
          refine MM.gR 9 2 tg_261 rq_9_10 rfl lays_9 ww_1368 d_M_laysHears_57 rfl ?_
          refine MM.iconst ic_2 d_M_laysHears_60 rfl ?_
          refine MM.gI ix_2_8 al_263 d_M_laysHears_61 rfl ?_
          obtain ⟨m43, m44⟩ := mm_ifE hf
          refine MM.icmp_ge (tgt := 109) d_M_laysHears_62 rfl rfl (fun c42 => ?_) (fun c42 => ?_)
          · replace hf := m43 c42
            obtain rfl := Option.some.inj hf
            obtain rfl := Option.some.inj (mm_wxR hx19)
            exact MM.sub [0, 1, 2, 3, 4] (by rfl) K21
          · replace hf := m44 c42
            refine MM.aload_n (i := 0) rfl rfl d_M_laysHears_65 rfl ?_
            refine MM.gR 9 14 tg_261 rq_9_22 rfl lays_9 ww_1380 d_M_laysHears_66 rfl ?_
            refine MM.iload rfl d_M_laysHears_69 rfl ?_
            obtain ⟨k23, e24, hf⟩ := mm_bind hf
            refine MM.gI e24 al_275 d_M_laysHears_71 rfl ?_
            refine MM.iload rfl d_M_laysHears_72 rfl ?_
            obtain ⟨j25, e41, hf⟩ := mm_bind hf
            have K26 : MM V l Y_M_laysHears 3 0 0 Z0 103 [(0, .ref 261), (1, .int x1), (2, .int s1.1), (3, .int j25), (4, .int s7.2), (5, .int s17.2)] [] s1.2 := by
              obtain ⟨y39, e40, hf⟩ := mm_letE hf
              refine MM.iinc (k0 := 5) (lv' := [(5, .int y39), (0, .ref 261), (1, .int x1), (2, .int s1.1), (3, .int j25), (4, .int s7.2)]) (by rw [ic_1]; exact e40) rfl (Nat.le_of_ble_eq_true rfl) rfl d_M_laysHears_103 rfl ?_
              refine MM.goto (tgt := 54) d_M_laysHears_106 rfl ?_
              obtain rfl := Option.some.inj hf
              have h9 := mm_wxL hx19
              exact MM.sub [1, 2, 3, 4, 5, 0] (by rfl) h9
            clear hf
            have hf := e41
            clear e41
            obtain ⟨m37, m38⟩ := mm_ifE hf
            refine MM.icmp_ne (tgt := 103) d_M_laysHears_74 rfl rfl (fun c36 => ?_) (fun c36 => ?_)
            · replace hf := m38 c36
              obtain rfl := Option.some.inj hf
              exact MM.sub [0, 1, 2, 3, 4, 5] (by rfl) K26
            · replace hf := m37 c36
              refine MM.aload_n (i := 0) rfl rfl d_M_laysHears_77 rfl ?_
              refine MM.gR 9 15 tg_261 rq_9_23 rfl lays_9 ww_1381 d_M_laysHears_78 rfl ?_
              refine MM.iload rfl d_M_laysHears_81 rfl ?_
              obtain ⟨k27, e28, hf⟩ := mm_bind hf
              refine MM.gI e28 al_276 d_M_laysHears_83 rfl ?_
              refine MM.iload_n (i := 2) rfl rfl d_M_laysHears_84 rfl ?_
              obtain ⟨m34, m35⟩ := mm_ifE hf
              refine MM.icmp_ne (tgt := 103) d_M_laysHears_85 rfl rfl (fun c33 => ?_) (fun c33 => ?_)
              · replace hf := m35 c33
                obtain rfl := Option.some.inj hf
                exact MM.sub [0, 1, 2, 3, 4, 5] (by rfl) K26
              · replace hf := m34 c33
                refine MM.iload_n (i := 3) rfl rfl d_M_laysHears_88 rfl ?_
                refine MM.bipush bp_10 d_M_laysHears_89 rfl ?_
                refine MM.aload_n (i := 0) rfl rfl d_M_laysHears_91 rfl ?_
                refine MM.iload rfl d_M_laysHears_92 rfl ?_
                obtain ⟨v30, e29, hf⟩ := mm_bind hf
                refine MM.callV1 (T_M_chanceOf V l s17.2 s1.2 _ e29) (fun _ _ q => q) cal_M_chanceOf rfl tg_261 ct_9 ww_84 ww_1839 ww_1837 (by decide) (by simp [Value.category]) d_M_laysHears_94 rfl ⟨rfl, rfl⟩ rfl ?_
                refine MM.isub d_M_laysHears_97 rfl ?_
                refine MM.imul d_M_laysHears_98 rfl ?_
                refine MM.bipush bp_10 d_M_laysHears_99 rfl ?_
                refine MM.idiv (by decide) d_M_laysHears_101 rfl ?_
                obtain ⟨y31, e32, hf⟩ := mm_letE hf
                refine MM.istore_n (i := 3) (lv' := [(3, .int y31), (0, .ref 261), (1, .int x1), (2, .int s1.1), (4, .int s7.2), (5, .int s17.2)]) e32 rfl (Nat.le_of_ble_eq_true rfl) rfl d_M_laysHears_102 rfl ?_
                obtain rfl := Option.some.inj hf
                exact MM.sub [1, 2, 3, 0, 4, 5] (by rfl) K26
        · replace hf := m46 c45
          refine MM.goto (tgt := 109) d_M_laysHears_48 rfl ?_
          obtain rfl := Option.some.inj hf
          exact MM.sub [0, 1, 2, 3, 4] (by rfl) K14
theorem d_M_night_0 : decode cX12_night 0 = .ok (.iconst 1, 1) := by decide +kernel
theorem d_M_night_1 : decode cX12_night 1 = .ok (.aload_n 0, 1) := by decide +kernel
theorem d_M_night_2 : decode cX12_night 2 = .ok (.getfield 13, 3) := by decide +kernel
theorem d_M_night_5 : decode cX12_night 5 = .ok (.iconst 0, 1) := by decide +kernel
theorem d_M_night_6 : decode cX12_night 6 = .ok (.iaload, 1) := by decide +kernel
theorem d_M_night_7 : decode cX12_night 7 = .ok (.ishl, 1) := by decide +kernel
theorem d_M_night_8 : decode cX12_night 8 = .ok (.iconst 1, 1) := by decide +kernel
theorem d_M_night_9 : decode cX12_night 9 = .ok (.isub, 1) := by decide +kernel
theorem d_M_night_10 : decode cX12_night 10 = .ok (.istore_n 1, 1) := by decide +kernel
theorem d_M_night_11 : decode cX12_night 11 = .ok (.iconst 0, 1) := by decide +kernel
theorem d_M_night_12 : decode cX12_night 12 = .ok (.istore_n 2, 1) := by decide +kernel
theorem d_M_night_13 : decode cX12_night 13 = .ok (.iload_n 2, 1) := by decide +kernel
theorem d_M_night_14 : decode cX12_night 14 = .ok (.bipush 64, 2) := by decide +kernel
theorem d_M_night_16 : decode cX12_night 16 = .ok (.if_icmp .ge 16, 3) := by decide +kernel
theorem d_M_night_19 : decode cX12_night 19 = .ok (.aload_n 0, 1) := by decide +kernel
theorem d_M_night_20 : decode cX12_night 20 = .ok (.getfield 160, 3) := by decide +kernel
theorem d_M_night_23 : decode cX12_night 23 = .ok (.iload_n 2, 1) := by decide +kernel
theorem d_M_night_24 : decode cX12_night 24 = .ok (.iconst 0, 1) := by decide +kernel
theorem d_M_night_25 : decode cX12_night 25 = .ok (.iastore, 1) := by decide +kernel
theorem d_M_night_26 : decode cX12_night 26 = .ok (.iinc 2 1, 3) := by decide +kernel
theorem d_M_night_29 : decode cX12_night 29 = .ok (.goto (-16), 3) := by decide +kernel
theorem d_M_night_32 : decode cX12_night 32 = .ok (.iconst 0, 1) := by decide +kernel
theorem d_M_night_33 : decode cX12_night 33 = .ok (.istore_n 2, 1) := by decide +kernel
theorem d_M_night_34 : decode cX12_night 34 = .ok (.iload_n 2, 1) := by decide +kernel
theorem d_M_night_35 : decode cX12_night 35 = .ok (.iload_n 1, 1) := by decide +kernel
theorem d_M_night_36 : decode cX12_night 36 = .ok (.if_icmp .gt 149, 3) := by decide +kernel
theorem d_M_night_39 : decode cX12_night 39 = .ok (.aload_n 0, 1) := by decide +kernel
theorem d_M_night_40 : decode cX12_night 40 = .ok (.getfield 157, 3) := by decide +kernel
theorem d_M_night_43 : decode cX12_night 43 = .ok (.iload_n 2, 1) := by decide +kernel
theorem d_M_night_44 : decode cX12_night 44 = .ok (.iaload, 1) := by decide +kernel
theorem d_M_night_45 : decode cX12_night 45 = .ok (.ifCond .ne 6, 3) := by decide +kernel
theorem d_M_night_48 : decode cX12_night 48 = .ok (.goto 131, 3) := by decide +kernel
theorem d_M_night_51 : decode cX12_night 51 = .ok (.aload_n 0, 1) := by decide +kernel
theorem d_M_night_52 : decode cX12_night 52 = .ok (.iload_n 2, 1) := by decide +kernel
theorem d_M_night_53 : decode cX12_night 53 = .ok (.invokevirtual 518, 3) := by decide +kernel
theorem d_M_night_56 : decode cX12_night 56 = .ok (.iload_n 2, 1) := by decide +kernel
theorem d_M_night_57 : decode cX12_night 57 = .ok (.istore_n 3, 1) := by decide +kernel
theorem d_M_night_58 : decode cX12_night 58 = .ok (.iload_n 3, 1) := by decide +kernel
theorem d_M_night_59 : decode cX12_night 59 = .ok (.iload_n 1, 1) := by decide +kernel
theorem d_M_night_60 : decode cX12_night 60 = .ok (.if_icmp .gt 119, 3) := by decide +kernel
theorem d_M_night_63 : decode cX12_night 63 = .ok (.iload_n 2, 1) := by decide +kernel
theorem d_M_night_64 : decode cX12_night 64 = .ok (.iload_n 3, 1) := by decide +kernel
theorem d_M_night_65 : decode cX12_night 65 = .ok (.iconst (-1), 1) := by decide +kernel
theorem d_M_night_66 : decode cX12_night 66 = .ok (.ixor, 1) := by decide +kernel
theorem d_M_night_67 : decode cX12_night 67 = .ok (.iand, 1) := by decide +kernel
theorem d_M_night_68 : decode cX12_night 68 = .ok (.ifCond .eq 6, 3) := by decide +kernel
theorem d_M_night_71 : decode cX12_night 71 = .ok (.goto 102, 3) := by decide +kernel
theorem d_M_night_74 : decode cX12_night 74 = .ok (.ldc2_w 521, 3) := by decide +kernel
theorem d_M_night_77 : decode cX12_night 77 = .ok (.lstore 4, 2) := by decide +kernel
theorem d_M_night_79 : decode cX12_night 79 = .ok (.iconst 0, 1) := by decide +kernel
theorem d_M_night_80 : decode cX12_night 80 = .ok (.istore 6, 2) := by decide +kernel
theorem d_M_night_82 : decode cX12_night 82 = .ok (.iload 6, 2) := by decide +kernel
theorem d_M_night_84 : decode cX12_night 84 = .ok (.aload_n 0, 1) := by decide +kernel
theorem d_M_night_85 : decode cX12_night 85 = .ok (.getfield 13, 3) := by decide +kernel
theorem d_M_night_88 : decode cX12_night 88 = .ok (.iconst 0, 1) := by decide +kernel
theorem d_M_night_89 : decode cX12_night 89 = .ok (.iaload, 1) := by decide +kernel
theorem d_M_night_90 : decode cX12_night 90 = .ok (.if_icmp .ge 59, 3) := by decide +kernel
theorem d_M_night_93 : decode cX12_night 93 = .ok (.iload_n 2, 1) := by decide +kernel
theorem d_M_night_94 : decode cX12_night 94 = .ok (.iload 6, 2) := by decide +kernel
theorem d_M_night_96 : decode cX12_night 96 = .ok (.ishr, 1) := by decide +kernel
theorem d_M_night_97 : decode cX12_night 97 = .ok (.iconst 1, 1) := by decide +kernel
theorem d_M_night_98 : decode cX12_night 98 = .ok (.iand, 1) := by decide +kernel
theorem d_M_night_99 : decode cX12_night 99 = .ok (.ifCond .ne 44, 3) := by decide +kernel
theorem d_M_night_102 : decode cX12_night 102 = .ok (.lload 4, 2) := by decide +kernel
theorem d_M_night_104 : decode cX12_night 104 = .ok (.iload_n 3, 1) := by decide +kernel
theorem d_M_night_105 : decode cX12_night 105 = .ok (.iload 6, 2) := by decide +kernel
theorem d_M_night_107 : decode cX12_night 107 = .ok (.ishr, 1) := by decide +kernel
theorem d_M_night_108 : decode cX12_night 108 = .ok (.iconst 1, 1) := by decide +kernel
theorem d_M_night_109 : decode cX12_night 109 = .ok (.iand, 1) := by decide +kernel
theorem d_M_night_110 : decode cX12_night 110 = .ok (.iconst 1, 1) := by decide +kernel
theorem d_M_night_111 : decode cX12_night 111 = .ok (.if_icmp .ne 13, 3) := by decide +kernel
theorem d_M_night_114 : decode cX12_night 114 = .ok (.aload_n 0, 1) := by decide +kernel
theorem d_M_night_115 : decode cX12_night 115 = .ok (.getfield 163, 3) := by decide +kernel
theorem d_M_night_118 : decode cX12_night 118 = .ok (.iload 6, 2) := by decide +kernel
theorem d_M_night_120 : decode cX12_night 120 = .ok (.iaload, 1) := by decide +kernel
theorem d_M_night_121 : decode cX12_night 121 = .ok (.goto 14, 3) := by decide +kernel
theorem d_M_night_124 : decode cX12_night 124 = .ok (.ldc_w 517, 3) := by decide +kernel
theorem d_M_night_127 : decode cX12_night 127 = .ok (.aload_n 0, 1) := by decide +kernel
theorem d_M_night_128 : decode cX12_night 128 = .ok (.getfield 163, 3) := by decide +kernel
theorem d_M_night_131 : decode cX12_night 131 = .ok (.iload 6, 2) := by decide +kernel
theorem d_M_night_133 : decode cX12_night 133 = .ok (.iaload, 1) := by decide +kernel
theorem d_M_night_134 : decode cX12_night 134 = .ok (.isub, 1) := by decide +kernel
theorem d_M_night_135 : decode cX12_night 135 = .ok (.i2l, 1) := by decide +kernel
theorem d_M_night_136 : decode cX12_night 136 = .ok (.lmul, 1) := by decide +kernel
theorem d_M_night_137 : decode cX12_night 137 = .ok (.ldc2_w 521, 3) := by decide +kernel
theorem d_M_night_140 : decode cX12_night 140 = .ok (.ldiv, 1) := by decide +kernel
theorem d_M_night_141 : decode cX12_night 141 = .ok (.lstore 4, 2) := by decide +kernel
theorem d_M_night_143 : decode cX12_night 143 = .ok (.iinc 6 1, 3) := by decide +kernel
theorem d_M_night_146 : decode cX12_night 146 = .ok (.goto (-64), 3) := by decide +kernel
theorem d_M_night_149 : decode cX12_night 149 = .ok (.aload_n 0, 1) := by decide +kernel
theorem d_M_night_150 : decode cX12_night 150 = .ok (.getfield 160, 3) := by decide +kernel
theorem d_M_night_153 : decode cX12_night 153 = .ok (.iload_n 3, 1) := by decide +kernel
theorem d_M_night_154 : decode cX12_night 154 = .ok (.dup2, 1) := by decide +kernel
theorem d_M_night_155 : decode cX12_night 155 = .ok (.iaload, 1) := by decide +kernel
theorem d_M_night_156 : decode cX12_night 156 = .ok (.lload 4, 2) := by decide +kernel
theorem d_M_night_158 : decode cX12_night 158 = .ok (.aload_n 0, 1) := by decide +kernel
theorem d_M_night_159 : decode cX12_night 159 = .ok (.getfield 157, 3) := by decide +kernel
theorem d_M_night_162 : decode cX12_night 162 = .ok (.iload_n 2, 1) := by decide +kernel
theorem d_M_night_163 : decode cX12_night 163 = .ok (.iaload, 1) := by decide +kernel
theorem d_M_night_164 : decode cX12_night 164 = .ok (.i2l, 1) := by decide +kernel
theorem d_M_night_165 : decode cX12_night 165 = .ok (.lmul, 1) := by decide +kernel
theorem d_M_night_166 : decode cX12_night 166 = .ok (.ldc2_w 521, 3) := by decide +kernel
theorem d_M_night_169 : decode cX12_night 169 = .ok (.ldiv, 1) := by decide +kernel
theorem d_M_night_170 : decode cX12_night 170 = .ok (.l2i, 1) := by decide +kernel
theorem d_M_night_171 : decode cX12_night 171 = .ok (.iadd, 1) := by decide +kernel
theorem d_M_night_172 : decode cX12_night 172 = .ok (.iastore, 1) := by decide +kernel
theorem d_M_night_173 : decode cX12_night 173 = .ok (.iinc 3 1, 3) := by decide +kernel
theorem d_M_night_176 : decode cX12_night 176 = .ok (.goto (-118), 3) := by decide +kernel
theorem d_M_night_179 : decode cX12_night 179 = .ok (.iinc 2 1, 3) := by decide +kernel
theorem d_M_night_182 : decode cX12_night 182 = .ok (.goto (-148), 3) := by decide +kernel
theorem d_M_night_185 : decode cX12_night 185 = .ok (.iconst 0, 1) := by decide +kernel
theorem d_M_night_186 : decode cX12_night 186 = .ok (.istore_n 2, 1) := by decide +kernel
theorem d_M_night_187 : decode cX12_night 187 = .ok (.iload_n 2, 1) := by decide +kernel
theorem d_M_night_188 : decode cX12_night 188 = .ok (.bipush 64, 2) := by decide +kernel
theorem d_M_night_190 : decode cX12_night 190 = .ok (.if_icmp .ge 21, 3) := by decide +kernel
theorem d_M_night_193 : decode cX12_night 193 = .ok (.aload_n 0, 1) := by decide +kernel
theorem d_M_night_194 : decode cX12_night 194 = .ok (.getfield 157, 3) := by decide +kernel
theorem d_M_night_197 : decode cX12_night 197 = .ok (.iload_n 2, 1) := by decide +kernel
theorem d_M_night_198 : decode cX12_night 198 = .ok (.aload_n 0, 1) := by decide +kernel
theorem d_M_night_199 : decode cX12_night 199 = .ok (.getfield 160, 3) := by decide +kernel
theorem d_M_night_202 : decode cX12_night 202 = .ok (.iload_n 2, 1) := by decide +kernel
theorem d_M_night_203 : decode cX12_night 203 = .ok (.iaload, 1) := by decide +kernel
theorem d_M_night_204 : decode cX12_night 204 = .ok (.iastore, 1) := by decide +kernel
theorem d_M_night_205 : decode cX12_night 205 = .ok (.iinc 2 1, 3) := by decide +kernel
theorem d_M_night_208 : decode cX12_night 208 = .ok (.goto (-21), 3) := by decide +kernel
theorem d_M_night_211 : decode cX12_night 211 = .ok (.return_, 1) := by decide +kernel
noncomputable def f_M_night (h : mm_H) : Option mm_H := mm_let (((1 : Int32) <<< ((h.1 263 0) &&& 31)) - 1) fun y1 => (mm_while (σ := (Int32 × mm_H)) (ρ := mm_H) (fun s3 => if 64 ≤ s3.1 then (some (Sum.inr s3.2)) else ((mm_ix s3.1 64).bind fun k9 => mm_let (mm_pI s3.2 311 k9 0) fun h11 => mm_let (s3.1 + 1) fun y13 => some (Sum.inl (y13, h11)))) (0, h)).bind fun v6 => (mm_while (σ := (Int32 × mm_H)) (ρ := mm_H) (fun s18 => if y1 < s18.1 then (some (Sum.inr s18.2)) else ((mm_ix s18.1 64).bind fun k24 => (if (s18.2.1 310 k24) = 0 then (some s18.2) else ((f_M_laysHears s18.1 s18.2).bind fun v29 => (mm_while (σ := (Int32 × mm_H)) (ρ := mm_H) (fun s30 => if y1 < s30.1 then (some (Sum.inr s30.2)) else ((if (s18.1 &&& (s30.1 ^^^ (-1))) = 0 then ((mm_while (σ := (Int64 × Int32)) (ρ := Int64) (fun s38 => if (s30.2.1 263 0) ≤ s38.2 then (some (Sum.inr s38.1)) else ((if ((s18.1 >>> (s38.2 &&& 31)) &&& 1) = 0 then ((if ((s30.1 >>> (s38.2 &&& 31)) &&& 1) = 1 then ((mm_ix s38.2 6).bind fun k50 => some (s30.2.1 312 k50)) else ((mm_ix s38.2 6).bind fun k48 => some (1000000 - (s30.2.1 312 k48))) : Option Int32).bind fun j46 => mm_let ((s38.1 * (Int32.toInt64 j46)) / 1000000) fun y55 => some y55) else (some s38.1) : Option Int64).bind fun j44 => mm_let (s38.2 + 1) fun y61 => some (Sum.inl (j44, y61)))) (1000000, 0)).bind fun v41 => (mm_ix s30.1 64).bind fun k67 => (mm_ix s18.1 64).bind fun k69 => (mm_ix s30.1 64).bind fun k71 => mm_let (mm_pI s30.2 311 k71 ((s30.2.1 311 k67) + (Int64.toInt32 ((v41 * (Int32.toInt64 (s30.2.1 310 k69))) / 1000000)))) fun h73 => some h73) else (some s30.2) : Option mm_H).bind fun j36 => mm_let (s30.1 + 1) fun y78 => some (Sum.inl (y78, j36)))) (s18.1, v29)).bind fun v33 => some v33) : Option mm_H).bind fun j26 => mm_let (s18.1 + 1) fun y87 => some (Sum.inl (y87, j26)))) (0, v6)).bind fun v21 => (mm_while (σ := (Int32 × mm_H)) (ρ := mm_H) (fun s93 => if 64 ≤ s93.1 then (some (Sum.inr s93.2)) else ((mm_ix s93.1 64).bind fun k99 => (mm_ix s93.1 64).bind fun k101 => mm_let (mm_pI s93.2 310 k101 (s93.2.1 311 k99)) fun h103 => mm_let (s93.1 + 1) fun y105 => some (Sum.inl (y105, h103)))) (0, v21)).bind fun v96 => some v96
theorem T_M_night (V : mm_V) (l : Launch) (h : mm_H) (r : mm_H) (hf : f_M_night h = some r) : MT V l Y_M_night 4 [.ref 261] (fun r1 h1 => r1 = none ∧ h1 = r) h := by
  unfold f_M_night at hf
  refine MT.intro (pn_M rfl) [(0, .ref 261)] rfl (Nat.le_of_ble_eq_true rfl) ?_
  generalize hZ : mm_Z V _ = Z0
  refine MM.iconst ic_1 d_M_night_0 rfl ?_
  refine MM.aload_n (i := 0) rfl rfl d_M_night_1 rfl ?_
  refine MM.gR 9 2 tg_261 rq_9_10 rfl lays_9 ww_1368 d_M_night_2 rfl ?_
  refine MM.iconst ic_0 d_M_night_5 rfl ?_
  refine MM.gI ix_0_8 al_263 d_M_night_6 rfl ?_
  refine MM.ishl d_M_night_7 rfl ?_
  refine MM.iconst ic_1 d_M_night_8 rfl ?_
  refine MM.isub d_M_night_9 rfl ?_
  obtain ⟨y1, e2, hf⟩ := mm_letE hf
  refine MM.istore_n (i := 1) (lv' := [(1, .int y1), (0, .ref 261)]) e2 rfl (Nat.le_of_ble_eq_true rfl) rfl d_M_night_10 rfl ?_
  refine MM.iconst ic_0 d_M_night_11 rfl ?_
  refine MM.istore_n (i := 2) (lv' := [(2, .int 0), (1, .int y1), (0, .ref 261)]) rfl rfl (Nat.le_of_ble_eq_true rfl) rfl d_M_night_12 rfl ?_
  obtain ⟨v6, e8, hf⟩ := mm_bind hf
  have K7 : MM V l Y_M_night 4 0 0 Z0 32 [(0, .ref 261), (1, .int y1)] [] v6 := by
    refine MM.iconst ic_0 d_M_night_32 rfl ?_
    refine MM.istore_n (i := 2) (lv' := [(2, .int 0), (0, .ref 261), (1, .int y1)]) rfl rfl (Nat.le_of_ble_eq_true rfl) rfl d_M_night_33 rfl ?_
    obtain ⟨v21, e23, hf⟩ := mm_bind hf
    have K22 : MM V l Y_M_night 4 0 0 Z0 185 [(0, .ref 261)] [] v21 := by
      refine MM.iconst ic_0 d_M_night_185 rfl ?_
      refine MM.istore_n (i := 2) (lv' := [(2, .int 0), (0, .ref 261)]) rfl rfl (Nat.le_of_ble_eq_true rfl) rfl d_M_night_186 rfl ?_
      obtain ⟨v96, e98, hf⟩ := mm_bind hf
      have K97 : MM V l Y_M_night 4 0 0 Z0 211 [] [] v96 := by
        obtain rfl := Option.some.inj hf
        subst hZ
        exact MM.vret rfl d_M_night_211 ⟨rfl, rfl⟩
      clear hf
      refine MM.sub [1, 0] (by rfl) (mm_while_ind (fun s93 => MM V l Y_M_night 4 0 0 Z0 187 [(0, .ref 261), (2, .int s93.1)] [] s93.2) e98 (fun s93 q94 hf hx95 => ?_))
      refine MM.iload_n (i := 2) rfl rfl d_M_night_187 rfl ?_
      refine MM.bipush bp_64 d_M_night_188 rfl ?_
      obtain ⟨m108, m109⟩ := mm_ifE hf
      refine MM.icmp_ge (tgt := 211) d_M_night_190 rfl rfl (fun c107 => ?_) (fun c107 => ?_)
      · replace hf := m108 c107
        obtain rfl := Option.some.inj hf
        obtain rfl := Option.some.inj (mm_wxR hx95)
        exact MM.sub [] (by rfl) K97
      · replace hf := m109 c107
        refine MM.aload_n (i := 0) rfl rfl d_M_night_193 rfl ?_
        refine MM.gR 9 49 tg_261 rq_9_62 rfl lays_9 ww_1420 d_M_night_194 rfl ?_
        refine MM.iload_n (i := 2) rfl rfl d_M_night_197 rfl ?_
        refine MM.aload_n (i := 0) rfl rfl d_M_night_198 rfl ?_
        refine MM.gR 9 50 tg_261 rq_9_63 rfl lays_9 ww_1421 d_M_night_199 rfl ?_
        refine MM.iload_n (i := 2) rfl rfl d_M_night_202 rfl ?_
        obtain ⟨k99, e100, hf⟩ := mm_bind hf
        refine MM.gI e100 al_311 d_M_night_203 rfl ?_
        obtain ⟨k101, e102, hf⟩ := mm_bind hf
        obtain ⟨h103, e104, hf⟩ := mm_letE hf
        refine MM.sI e102 e104 al_310 d_M_night_204 rfl ?_
        obtain ⟨y105, e106, hf⟩ := mm_letE hf
        refine MM.iinc (k0 := 1) (lv' := [(2, .int y105), (0, .ref 261)]) (by rw [ic_1]; exact e106) rfl (Nat.le_of_ble_eq_true rfl) rfl d_M_night_205 rfl ?_
        refine MM.goto (tgt := 187) d_M_night_208 rfl ?_
        obtain rfl := Option.some.inj hf
        have h9 := mm_wxL hx95
        exact MM.sub [1, 0] (by rfl) h9
    clear hf
    refine MM.sub [1, 2, 0] (by rfl) (mm_while_ind (fun s18 => MM V l Y_M_night 4 0 0 Z0 34 [(0, .ref 261), (1, .int y1), (2, .int s18.1)] [] s18.2) e23 (fun s18 q19 hf hx20 => ?_))
    refine MM.iload_n (i := 2) rfl rfl d_M_night_34 rfl ?_
    refine MM.iload_n (i := 1) rfl rfl d_M_night_35 rfl ?_
    obtain ⟨m91, m92⟩ := mm_ifE hf
    refine MM.icmp_gt (tgt := 185) d_M_night_36 rfl rfl (fun c90 => ?_) (fun c90 => ?_)
    · replace hf := m91 c90
      obtain rfl := Option.some.inj hf
      obtain rfl := Option.some.inj (mm_wxR hx20)
      exact MM.sub [0] (by rfl) K22
    · replace hf := m92 c90
      refine MM.aload_n (i := 0) rfl rfl d_M_night_39 rfl ?_
      refine MM.gR 9 49 tg_261 rq_9_62 rfl lays_9 ww_1420 d_M_night_40 rfl ?_
      refine MM.iload_n (i := 2) rfl rfl d_M_night_43 rfl ?_
      obtain ⟨k24, e25, hf⟩ := mm_bind hf
      refine MM.gI e25 al_310 d_M_night_44 rfl ?_
      obtain ⟨j26, e89, hf⟩ := mm_bind hf
      have K27 : MM V l Y_M_night 4 0 0 Z0 179 [(0, .ref 261), (1, .int y1), (2, .int s18.1)] [] j26 := by
        obtain ⟨y87, e88, hf⟩ := mm_letE hf
        refine MM.iinc (k0 := 2) (lv' := [(2, .int y87), (0, .ref 261), (1, .int y1)]) (by rw [ic_1]; exact e88) rfl (Nat.le_of_ble_eq_true rfl) rfl d_M_night_179 rfl ?_
        refine MM.goto (tgt := 34) d_M_night_182 rfl ?_
        obtain rfl := Option.some.inj hf
        have h9 := mm_wxL hx20
        exact MM.sub [1, 2, 0] (by rfl) h9
      clear hf
      have hf := e89
      clear e89
      obtain ⟨m85, m86⟩ := mm_ifE hf
      refine MM.if_ne (tgt := 51) d_M_night_45 rfl rfl (fun c84 => ?_) (fun c84 => ?_)
      · replace hf := m86 c84
        refine MM.aload_n (i := 0) rfl rfl d_M_night_51 rfl ?_
        refine MM.iload_n (i := 2) rfl rfl d_M_night_52 rfl ?_
        obtain ⟨v29, e28, hf⟩ := mm_bind hf
        refine MM.callV0 (T_M_laysHears V l s18.1 s18.2 _ e28) (fun _ _ q => q) cal_M_laysHears rfl tg_261 ct_9 ww_102 ww_1975 ww_1973 (by decide) (by simp [Value.category]) d_M_night_53 rfl ⟨rfl, rfl⟩ rfl ?_
        refine MM.iload_n (i := 2) rfl rfl d_M_night_56 rfl ?_
        refine MM.istore_n (i := 3) (lv' := [(3, .int s18.1), (0, .ref 261), (1, .int y1), (2, .int s18.1)]) rfl rfl (Nat.le_of_ble_eq_true rfl) rfl d_M_night_57 rfl ?_
        obtain ⟨v33, e35, hf⟩ := mm_bind hf
        have K34 : MM V l Y_M_night 4 0 0 Z0 179 [(0, .ref 261), (1, .int y1), (2, .int s18.1)] [] v33 := by
          obtain rfl := Option.some.inj hf
          exact MM.sub [0, 1, 2] (by rfl) K27
        clear hf
        refine MM.sub [1, 2, 3, 0] (by rfl) (mm_while_ind (fun s30 => MM V l Y_M_night 4 0 0 Z0 58 [(0, .ref 261), (1, .int y1), (2, .int s18.1), (3, .int s30.1)] [] s30.2) e35 (fun s30 q31 hf hx32 => ?_))
        refine MM.iload_n (i := 3) rfl rfl d_M_night_58 rfl ?_
        refine MM.iload_n (i := 1) rfl rfl d_M_night_59 rfl ?_
        obtain ⟨m82, m83⟩ := mm_ifE hf
        refine MM.icmp_gt (tgt := 179) d_M_night_60 rfl rfl (fun c81 => ?_) (fun c81 => ?_)
        · replace hf := m82 c81
          obtain rfl := Option.some.inj hf
          obtain rfl := Option.some.inj (mm_wxR hx32)
          exact MM.sub [0, 1, 2] (by rfl) K34
        · replace hf := m83 c81
          refine MM.iload_n (i := 2) rfl rfl d_M_night_63 rfl ?_
          refine MM.iload_n (i := 3) rfl rfl d_M_night_64 rfl ?_
          refine MM.iconst ic_m1 d_M_night_65 rfl ?_
          refine MM.ixor d_M_night_66 rfl ?_
          refine MM.iand d_M_night_67 rfl ?_
          obtain ⟨j36, e80, hf⟩ := mm_bind hf
          have K37 : MM V l Y_M_night 4 0 0 Z0 173 [(0, .ref 261), (1, .int y1), (2, .int s18.1), (3, .int s30.1)] [] j36 := by
            obtain ⟨y78, e79, hf⟩ := mm_letE hf
            refine MM.iinc (k0 := 3) (lv' := [(3, .int y78), (0, .ref 261), (1, .int y1), (2, .int s18.1)]) (by rw [ic_1]; exact e79) rfl (Nat.le_of_ble_eq_true rfl) rfl d_M_night_173 rfl ?_
            refine MM.goto (tgt := 58) d_M_night_176 rfl ?_
            obtain rfl := Option.some.inj hf
            have h9 := mm_wxL hx32
            exact MM.sub [1, 2, 3, 0] (by rfl) h9
          clear hf
          have hf := e80
          clear e80
          obtain ⟨m76, m77⟩ := mm_ifE hf
          refine MM.if_eq (tgt := 74) d_M_night_68 rfl rfl (fun c75 => ?_) (fun c75 => ?_)
          · replace hf := m76 c75
            refine MM.ldc2 ww_1977 d_M_night_74 rfl ?_
            refine MM.lstore (lv' := [(4, .long 1000000), (0, .ref 261), (1, .int y1), (2, .int s18.1), (3, .int s30.1)]) rfl (Nat.le_of_ble_eq_true rfl) rfl d_M_night_77 rfl ?_
            refine MM.iconst ic_0 d_M_night_79 rfl ?_
            refine MM.istore (lv' := [(6, .int 0), (4, .long 1000000), (0, .ref 261), (1, .int y1), (2, .int s18.1), (3, .int s30.1)]) rfl (Nat.le_of_ble_eq_true rfl) rfl d_M_night_80 rfl ?_
            obtain ⟨v41, e43, hf⟩ := mm_bind hf
            have K42 : MM V l Y_M_night 4 0 0 Z0 149 [(0, .ref 261), (1, .int y1), (2, .int s18.1), (3, .int s30.1), (4, .long v41)] [] s30.2 := by
              refine MM.aload_n (i := 0) rfl rfl d_M_night_149 rfl ?_
              refine MM.gR 9 50 tg_261 rq_9_63 rfl lays_9 ww_1421 d_M_night_150 rfl ?_
              refine MM.iload_n (i := 3) rfl rfl d_M_night_153 rfl ?_
              refine MM.dup2 rfl rfl d_M_night_154 rfl ?_
              obtain ⟨k67, e68, hf⟩ := mm_bind hf
              refine MM.gI e68 al_311 d_M_night_155 rfl ?_
              refine MM.lload rfl d_M_night_156 rfl ?_
              refine MM.aload_n (i := 0) rfl rfl d_M_night_158 rfl ?_
              refine MM.gR 9 49 tg_261 rq_9_62 rfl lays_9 ww_1420 d_M_night_159 rfl ?_
              refine MM.iload_n (i := 2) rfl rfl d_M_night_162 rfl ?_
              obtain ⟨k69, e70, hf⟩ := mm_bind hf
              refine MM.gI e70 al_310 d_M_night_163 rfl ?_
              refine MM.i2l d_M_night_164 rfl ?_
              refine MM.lmul d_M_night_165 rfl ?_
              refine MM.ldc2 ww_1977 d_M_night_166 rfl ?_
              refine MM.ldiv (by decide) d_M_night_169 rfl ?_
              refine MM.l2i d_M_night_170 rfl ?_
              refine MM.iadd d_M_night_171 rfl ?_
              obtain ⟨k71, e72, hf⟩ := mm_bind hf
              obtain ⟨h73, e74, hf⟩ := mm_letE hf
              refine MM.sI e72 e74 al_311 d_M_night_172 rfl ?_
              obtain rfl := Option.some.inj hf
              exact MM.sub [0, 1, 2, 3] (by rfl) K37
            clear hf
            refine MM.sub [2, 3, 4, 5, 1, 0] (by rfl) (mm_while_ind (fun s38 => MM V l Y_M_night 4 0 0 Z0 82 [(0, .ref 261), (1, .int y1), (2, .int s18.1), (3, .int s30.1), (4, .long s38.1), (6, .int s38.2)] [] s30.2) e43 (fun s38 q39 hf hx40 => ?_))
            refine MM.iload rfl d_M_night_82 rfl ?_
            refine MM.aload_n (i := 0) rfl rfl d_M_night_84 rfl ?_
            refine MM.gR 9 2 tg_261 rq_9_10 rfl lays_9 ww_1368 d_M_night_85 rfl ?_
            refine MM.iconst ic_0 d_M_night_88 rfl ?_
            refine MM.gI ix_0_8 al_263 d_M_night_89 rfl ?_
            obtain ⟨m65, m66⟩ := mm_ifE hf
            refine MM.icmp_ge (tgt := 149) d_M_night_90 rfl rfl (fun c64 => ?_) (fun c64 => ?_)
            · replace hf := m65 c64
              obtain rfl := Option.some.inj hf
              obtain rfl := Option.some.inj (mm_wxR hx40)
              exact MM.sub [0, 1, 2, 3, 4] (by rfl) K42
            · replace hf := m66 c64
              refine MM.iload_n (i := 2) rfl rfl d_M_night_93 rfl ?_
              refine MM.iload rfl d_M_night_94 rfl ?_
              refine MM.ishr d_M_night_96 rfl ?_
              refine MM.iconst ic_1 d_M_night_97 rfl ?_
              refine MM.iand d_M_night_98 rfl ?_
              obtain ⟨j44, e63, hf⟩ := mm_bind hf
              have K45 : MM V l Y_M_night 4 0 0 Z0 143 [(0, .ref 261), (1, .int y1), (2, .int s18.1), (3, .int s30.1), (4, .long j44), (6, .int s38.2)] [] s30.2 := by
                obtain ⟨y61, e62, hf⟩ := mm_letE hf
                refine MM.iinc (k0 := 5) (lv' := [(6, .int y61), (0, .ref 261), (1, .int y1), (2, .int s18.1), (3, .int s30.1), (4, .long j44)]) (by rw [ic_1]; exact e62) rfl (Nat.le_of_ble_eq_true rfl) rfl d_M_night_143 rfl ?_
                refine MM.goto (tgt := 82) d_M_night_146 rfl ?_
                obtain rfl := Option.some.inj hf
                have h9 := mm_wxL hx40
                exact MM.sub [1, 2, 3, 4, 5, 0] (by rfl) h9
              clear hf
              have hf := e63
              clear e63
              obtain ⟨m59, m60⟩ := mm_ifE hf
              refine MM.if_ne (tgt := 143) d_M_night_99 rfl rfl (fun c58 => ?_) (fun c58 => ?_)
              · replace hf := m60 c58
                obtain rfl := Option.some.inj hf
                exact MM.sub [0, 1, 2, 3, 4, 5] (by rfl) K45
              · replace hf := m59 c58
                refine MM.lload rfl d_M_night_102 rfl ?_
                refine MM.iload_n (i := 3) rfl rfl d_M_night_104 rfl ?_
                refine MM.iload rfl d_M_night_105 rfl ?_
                refine MM.ishr d_M_night_107 rfl ?_
                refine MM.iconst ic_1 d_M_night_108 rfl ?_
                refine MM.iand d_M_night_109 rfl ?_
                refine MM.iconst ic_1 d_M_night_110 rfl ?_
                obtain ⟨j46, e57, hf⟩ := mm_bind hf
                have K47 : MM V l Y_M_night 4 0 0 Z0 135 [(0, .ref 261), (1, .int y1), (2, .int s18.1), (3, .int s30.1), (6, .int s38.2)] [.int j46, .long s38.1] s30.2 := by
                  refine MM.i2l d_M_night_135 rfl ?_
                  refine MM.lmul d_M_night_136 rfl ?_
                  refine MM.ldc2 ww_1977 d_M_night_137 rfl ?_
                  refine MM.ldiv (by decide) d_M_night_140 rfl ?_
                  obtain ⟨y55, e56, hf⟩ := mm_letE hf
                  refine MM.lstore (lv' := [(4, .long y55), (0, .ref 261), (1, .int y1), (2, .int s18.1), (3, .int s30.1), (6, .int s38.2)]) e56 (Nat.le_of_ble_eq_true rfl) rfl d_M_night_141 rfl ?_
                  obtain rfl := Option.some.inj hf
                  exact MM.sub [1, 2, 3, 4, 0, 5] (by rfl) K45
                clear hf
                have hf := e57
                clear e57
                obtain ⟨m53, m54⟩ := mm_ifE hf
                refine MM.icmp_ne (tgt := 124) d_M_night_111 rfl rfl (fun c52 => ?_) (fun c52 => ?_)
                · replace hf := m54 c52
                  refine MM.ldc_w ww_1968 d_M_night_124 rfl ?_
                  refine MM.aload_n (i := 0) rfl rfl d_M_night_127 rfl ?_
                  refine MM.gR 9 51 tg_261 rq_9_64 rfl lays_9 ww_1422 d_M_night_128 rfl ?_
                  refine MM.iload rfl d_M_night_131 rfl ?_
                  obtain ⟨k48, e49, hf⟩ := mm_bind hf
                  refine MM.gI e49 al_312 d_M_night_133 rfl ?_
                  refine MM.isub d_M_night_134 rfl ?_
                  obtain rfl := Option.some.inj hf
                  exact MM.sub [0, 1, 2, 3, 5] (by rfl) K47
                · replace hf := m53 c52
                  refine MM.aload_n (i := 0) rfl rfl d_M_night_114 rfl ?_
                  refine MM.gR 9 51 tg_261 rq_9_64 rfl lays_9 ww_1422 d_M_night_115 rfl ?_
                  refine MM.iload rfl d_M_night_118 rfl ?_
                  obtain ⟨k50, e51, hf⟩ := mm_bind hf
                  refine MM.gI e51 al_312 d_M_night_120 rfl ?_
                  refine MM.goto (tgt := 135) d_M_night_121 rfl ?_
                  obtain rfl := Option.some.inj hf
                  exact MM.sub [0, 1, 2, 3, 5] (by rfl) K47
          · replace hf := m77 c75
            refine MM.goto (tgt := 173) d_M_night_71 rfl ?_
            obtain rfl := Option.some.inj hf
            exact MM.sub [0, 1, 2, 3] (by rfl) K37
      · replace hf := m85 c84
        refine MM.goto (tgt := 179) d_M_night_48 rfl ?_
        obtain rfl := Option.some.inj hf
        exact MM.sub [0, 1, 2] (by rfl) K27
  clear hf
  refine MM.sub [2, 1, 0] (by rfl) (mm_while_ind (fun s3 => MM V l Y_M_night 4 0 0 Z0 13 [(0, .ref 261), (1, .int y1), (2, .int s3.1)] [] s3.2) e8 (fun s3 q4 hf hx5 => ?_))
  refine MM.iload_n (i := 2) rfl rfl d_M_night_13 rfl ?_
  refine MM.bipush bp_64 d_M_night_14 rfl ?_
  obtain ⟨m16, m17⟩ := mm_ifE hf
  refine MM.icmp_ge (tgt := 32) d_M_night_16 rfl rfl (fun c15 => ?_) (fun c15 => ?_)
  · replace hf := m16 c15
    obtain rfl := Option.some.inj hf
    obtain rfl := Option.some.inj (mm_wxR hx5)
    exact MM.sub [0, 1] (by rfl) K7
  · replace hf := m17 c15
    refine MM.aload_n (i := 0) rfl rfl d_M_night_19 rfl ?_
    refine MM.gR 9 50 tg_261 rq_9_63 rfl lays_9 ww_1421 d_M_night_20 rfl ?_
    refine MM.iload_n (i := 2) rfl rfl d_M_night_23 rfl ?_
    refine MM.iconst ic_0 d_M_night_24 rfl ?_
    obtain ⟨k9, e10, hf⟩ := mm_bind hf
    obtain ⟨h11, e12, hf⟩ := mm_letE hf
    refine MM.sI e10 e12 al_311 d_M_night_25 rfl ?_
    obtain ⟨y13, e14, hf⟩ := mm_letE hf
    refine MM.iinc (k0 := 2) (lv' := [(2, .int y13), (0, .ref 261), (1, .int y1)]) (by rw [ic_1]; exact e14) rfl (Nat.le_of_ble_eq_true rfl) rfl d_M_night_26 rfl ?_
    refine MM.goto (tgt := 13) d_M_night_29 rfl ?_
    obtain rfl := Option.some.inj hf
    have h9 := mm_wxL hx5
    exact MM.sub [1, 2, 0] (by rfl) h9
theorem d_M_nights_0 : decode cX12_nights 0 = .ok (.iconst 0, 1) := by decide +kernel
theorem d_M_nights_1 : decode cX12_nights 1 = .ok (.istore_n 3, 1) := by decide +kernel
theorem d_M_nights_2 : decode cX12_nights 2 = .ok (.iload_n 3, 1) := by decide +kernel
theorem d_M_nights_3 : decode cX12_nights 3 = .ok (.bipush 64, 2) := by decide +kernel
theorem d_M_nights_5 : decode cX12_nights 5 = .ok (.if_icmp .ge 16, 3) := by decide +kernel
theorem d_M_nights_8 : decode cX12_nights 8 = .ok (.aload_n 0, 1) := by decide +kernel
theorem d_M_nights_9 : decode cX12_nights 9 = .ok (.getfield 157, 3) := by decide +kernel
theorem d_M_nights_12 : decode cX12_nights 12 = .ok (.iload_n 3, 1) := by decide +kernel
theorem d_M_nights_13 : decode cX12_nights 13 = .ok (.iconst 0, 1) := by decide +kernel
theorem d_M_nights_14 : decode cX12_nights 14 = .ok (.iastore, 1) := by decide +kernel
theorem d_M_nights_15 : decode cX12_nights 15 = .ok (.iinc 3 1, 3) := by decide +kernel
theorem d_M_nights_18 : decode cX12_nights 18 = .ok (.goto (-16), 3) := by decide +kernel
theorem d_M_nights_21 : decode cX12_nights 21 = .ok (.aload_n 0, 1) := by decide +kernel
theorem d_M_nights_22 : decode cX12_nights 22 = .ok (.getfield 157, 3) := by decide +kernel
theorem d_M_nights_25 : decode cX12_nights 25 = .ok (.aload_n 0, 1) := by decide +kernel
theorem d_M_nights_26 : decode cX12_nights 26 = .ok (.getfield 129, 3) := by decide +kernel
theorem d_M_nights_29 : decode cX12_nights 29 = .ok (.iload_n 1, 1) := by decide +kernel
theorem d_M_nights_30 : decode cX12_nights 30 = .ok (.iaload, 1) := by decide +kernel
theorem d_M_nights_31 : decode cX12_nights 31 = .ok (.ldc_w 517, 3) := by decide +kernel
theorem d_M_nights_34 : decode cX12_nights 34 = .ok (.iastore, 1) := by decide +kernel
theorem d_M_nights_35 : decode cX12_nights 35 = .ok (.iconst 0, 1) := by decide +kernel
theorem d_M_nights_36 : decode cX12_nights 36 = .ok (.istore_n 3, 1) := by decide +kernel
theorem d_M_nights_37 : decode cX12_nights 37 = .ok (.iload_n 3, 1) := by decide +kernel
theorem d_M_nights_38 : decode cX12_nights 38 = .ok (.iload_n 2, 1) := by decide +kernel
theorem d_M_nights_39 : decode cX12_nights 39 = .ok (.if_icmp .ge 13, 3) := by decide +kernel
theorem d_M_nights_42 : decode cX12_nights 42 = .ok (.aload_n 0, 1) := by decide +kernel
theorem d_M_nights_43 : decode cX12_nights 43 = .ok (.invokevirtual 523, 3) := by decide +kernel
theorem d_M_nights_46 : decode cX12_nights 46 = .ok (.iinc 3 1, 3) := by decide +kernel
theorem d_M_nights_49 : decode cX12_nights 49 = .ok (.goto (-12), 3) := by decide +kernel
theorem d_M_nights_52 : decode cX12_nights 52 = .ok (.return_, 1) := by decide +kernel
noncomputable def f_M_nights (x1 : Int32) (x2 : Int32) (h : mm_H) : Option mm_H := (mm_while (σ := (Int32 × mm_H)) (ρ := mm_H) (fun s1 => if 64 ≤ s1.1 then (some (Sum.inr s1.2)) else ((mm_ix s1.1 64).bind fun k7 => mm_let (mm_pI s1.2 310 k7 0) fun h9 => mm_let (s1.1 + 1) fun y11 => some (Sum.inl (y11, h9)))) (0, h)).bind fun v4 => (mm_ix x1 123).bind fun k16 => (mm_ix (v4.1 301 k16) 64).bind fun k18 => mm_let (mm_pI v4 310 k18 1000000) fun h20 => (mm_while (σ := (Int32 × mm_H)) (ρ := mm_H) (fun s22 => if x2 ≤ s22.1 then (some (Sum.inr s22.2)) else ((f_M_night s22.2).bind fun v29 => mm_let (s22.1 + 1) fun y30 => some (Sum.inl (y30, v29)))) (0, h20)).bind fun v25 => some v25
theorem T_M_nights (V : mm_V) (l : Launch) (x1 : Int32) (x2 : Int32) (h : mm_H) (r : mm_H) (hf : f_M_nights x1 x2 h = some r) : MT V l Y_M_nights 5 [.ref 261, .int x1, .int x2] (fun r1 h1 => r1 = none ∧ h1 = r) h := by
  unfold f_M_nights at hf
  refine MT.intro (pn_M rfl) [(0, .ref 261), (1, .int x1), (2, .int x2)] rfl (Nat.le_of_ble_eq_true rfl) ?_
  generalize hZ : mm_Z V _ = Z0
  refine MM.iconst ic_0 d_M_nights_0 rfl ?_
  refine MM.istore_n (i := 3) (lv' := [(3, .int 0), (0, .ref 261), (1, .int x1), (2, .int x2)]) rfl rfl (Nat.le_of_ble_eq_true rfl) rfl d_M_nights_1 rfl ?_
  obtain ⟨v4, e6, hf⟩ := mm_bind hf
  have K5 : MM V l Y_M_nights 5 0 0 Z0 21 [(0, .ref 261), (1, .int x1), (2, .int x2)] [] v4 := by
    refine MM.aload_n (i := 0) rfl rfl d_M_nights_21 rfl ?_
    refine MM.gR 9 49 tg_261 rq_9_62 rfl lays_9 ww_1420 d_M_nights_22 rfl ?_
    refine MM.aload_n (i := 0) rfl rfl d_M_nights_25 rfl ?_
    refine MM.gR 9 40 tg_261 rq_9_50 rfl lays_9 ww_1408 d_M_nights_26 rfl ?_
    refine MM.iload_n (i := 1) rfl rfl d_M_nights_29 rfl ?_
    obtain ⟨k16, e17, hf⟩ := mm_bind hf
    refine MM.gI e17 al_301 d_M_nights_30 rfl ?_
    refine MM.ldc_w ww_1968 d_M_nights_31 rfl ?_
    obtain ⟨k18, e19, hf⟩ := mm_bind hf
    obtain ⟨h20, e21, hf⟩ := mm_letE hf
    refine MM.sI e19 e21 al_310 d_M_nights_34 rfl ?_
    refine MM.iconst ic_0 d_M_nights_35 rfl ?_
    refine MM.istore_n (i := 3) (lv' := [(3, .int 0), (0, .ref 261), (1, .int x1), (2, .int x2)]) rfl rfl (Nat.le_of_ble_eq_true rfl) rfl d_M_nights_36 rfl ?_
    obtain ⟨v25, e27, hf⟩ := mm_bind hf
    have K26 : MM V l Y_M_nights 5 0 0 Z0 52 [] [] v25 := by
      obtain rfl := Option.some.inj hf
      subst hZ
      exact MM.vret rfl d_M_nights_52 ⟨rfl, rfl⟩
    clear hf
    refine MM.sub [1, 3, 0] (by rfl) (mm_while_ind (fun s22 => MM V l Y_M_nights 5 0 0 Z0 37 [(0, .ref 261), (2, .int x2), (3, .int s22.1)] [] s22.2) e27 (fun s22 q23 hf hx24 => ?_))
    refine MM.iload_n (i := 3) rfl rfl d_M_nights_37 rfl ?_
    refine MM.iload_n (i := 2) rfl rfl d_M_nights_38 rfl ?_
    obtain ⟨m33, m34⟩ := mm_ifE hf
    refine MM.icmp_ge (tgt := 52) d_M_nights_39 rfl rfl (fun c32 => ?_) (fun c32 => ?_)
    · replace hf := m33 c32
      obtain rfl := Option.some.inj hf
      obtain rfl := Option.some.inj (mm_wxR hx24)
      exact MM.sub [] (by rfl) K26
    · replace hf := m34 c32
      refine MM.aload_n (i := 0) rfl rfl d_M_nights_42 rfl ?_
      obtain ⟨v29, e28, hf⟩ := mm_bind hf
      refine MM.callV0 (T_M_night V l  s22.2 _ e28) (fun _ _ q => q) cal_M_night rfl tg_261 ct_9 ww_101 ww_1971 ww_1969 (by decide) (by simp [Value.category]) d_M_nights_43 rfl ⟨rfl, rfl⟩ rfl ?_
      obtain ⟨y30, e31, hf⟩ := mm_letE hf
      refine MM.iinc (k0 := 2) (lv' := [(3, .int y30), (0, .ref 261), (2, .int x2)]) (by rw [ic_1]; exact e31) rfl (Nat.le_of_ble_eq_true rfl) rfl d_M_nights_46 rfl ?_
      refine MM.goto (tgt := 37) d_M_nights_49 rfl ?_
      obtain rfl := Option.some.inj hf
      have h9 := mm_wxL hx24
      exact MM.sub [1, 2, 0] (by rfl) h9
  clear hf
  refine MM.sub [1, 2, 3, 0] (by rfl) (mm_while_ind (fun s1 => MM V l Y_M_nights 5 0 0 Z0 2 [(0, .ref 261), (1, .int x1), (2, .int x2), (3, .int s1.1)] [] s1.2) e6 (fun s1 q2 hf hx3 => ?_))
  refine MM.iload_n (i := 3) rfl rfl d_M_nights_2 rfl ?_
  refine MM.bipush bp_64 d_M_nights_3 rfl ?_
  obtain ⟨m14, m15⟩ := mm_ifE hf
  refine MM.icmp_ge (tgt := 21) d_M_nights_5 rfl rfl (fun c13 => ?_) (fun c13 => ?_)
  · replace hf := m14 c13
    obtain rfl := Option.some.inj hf
    obtain rfl := Option.some.inj (mm_wxR hx3)
    exact MM.sub [0, 1, 2] (by rfl) K5
  · replace hf := m15 c13
    refine MM.aload_n (i := 0) rfl rfl d_M_nights_8 rfl ?_
    refine MM.gR 9 49 tg_261 rq_9_62 rfl lays_9 ww_1420 d_M_nights_9 rfl ?_
    refine MM.iload_n (i := 3) rfl rfl d_M_nights_12 rfl ?_
    refine MM.iconst ic_0 d_M_nights_13 rfl ?_
    obtain ⟨k7, e8, hf⟩ := mm_bind hf
    obtain ⟨h9, e10, hf⟩ := mm_letE hf
    refine MM.sI e8 e10 al_310 d_M_nights_14 rfl ?_
    obtain ⟨y11, e12, hf⟩ := mm_letE hf
    refine MM.iinc (k0 := 3) (lv' := [(3, .int y11), (0, .ref 261), (1, .int x1), (2, .int x2)]) (by rw [ic_1]; exact e12) rfl (Nat.le_of_ble_eq_true rfl) rfl d_M_nights_15 rfl ?_
    refine MM.goto (tgt := 2) d_M_nights_18 rfl ?_
    obtain rfl := Option.some.inj hf
    have h9 := mm_wxL hx3
    exact MM.sub [1, 2, 3, 0] (by rfl) h9
theorem d_M_mean_0 : decode cX12_mean 0 = .ok (.aload_n 0, 1) := by decide +kernel
theorem d_M_mean_1 : decode cX12_mean 1 = .ok (.iconst 0, 1) := by decide +kernel
theorem d_M_mean_2 : decode cX12_mean 2 = .ok (.putfield 175, 3) := by decide +kernel
theorem d_M_mean_5 : decode cX12_mean 5 = .ok (.aload_n 0, 1) := by decide +kernel
theorem d_M_mean_6 : decode cX12_mean 6 = .ok (.iload_n 1, 1) := by decide +kernel
theorem d_M_mean_7 : decode cX12_mean 7 = .ok (.invokevirtual 445, 3) := by decide +kernel
theorem d_M_mean_10 : decode cX12_mean 10 = .ok (.ifCond .eq 13, 3) := by decide +kernel
theorem d_M_mean_13 : decode cX12_mean 13 = .ok (.iload_n 2, 1) := by decide +kernel
theorem d_M_mean_14 : decode cX12_mean 14 = .ok (.iconst 0, 1) := by decide +kernel
theorem d_M_mean_15 : decode cX12_mean 15 = .ok (.bipush 30, 2) := by decide +kernel
theorem d_M_mean_17 : decode cX12_mean 17 = .ok (.invokestatic 308, 3) := by decide +kernel
theorem d_M_mean_20 : decode cX12_mean 20 = .ok (.ifCond .ne 5, 3) := by decide +kernel
theorem d_M_mean_23 : decode cX12_mean 23 = .ok (.iconst (-1), 1) := by decide +kernel
theorem d_M_mean_24 : decode cX12_mean 24 = .ok (.ireturn, 1) := by decide +kernel
theorem d_M_mean_25 : decode cX12_mean 25 = .ok (.aload_n 0, 1) := by decide +kernel
theorem d_M_mean_26 : decode cX12_mean 26 = .ok (.iload_n 1, 1) := by decide +kernel
theorem d_M_mean_27 : decode cX12_mean 27 = .ok (.iload_n 2, 1) := by decide +kernel
theorem d_M_mean_28 : decode cX12_mean 28 = .ok (.invokevirtual 526, 3) := by decide +kernel
theorem d_M_mean_31 : decode cX12_mean 31 = .ok (.lconst 0, 1) := by decide +kernel
theorem d_M_mean_32 : decode cX12_mean 32 = .ok (.lstore_n 3, 1) := by decide +kernel
theorem d_M_mean_33 : decode cX12_mean 33 = .ok (.iconst 0, 1) := by decide +kernel
theorem d_M_mean_34 : decode cX12_mean 34 = .ok (.istore 5, 2) := by decide +kernel
theorem d_M_mean_36 : decode cX12_mean 36 = .ok (.iload 5, 2) := by decide +kernel
theorem d_M_mean_38 : decode cX12_mean 38 = .ok (.bipush 64, 2) := by decide +kernel
theorem d_M_mean_40 : decode cX12_mean 40 = .ok (.if_icmp .ge 39, 3) := by decide +kernel
theorem d_M_mean_43 : decode cX12_mean 43 = .ok (.aload_n 0, 1) := by decide +kernel
theorem d_M_mean_44 : decode cX12_mean 44 = .ok (.getfield 157, 3) := by decide +kernel
theorem d_M_mean_47 : decode cX12_mean 47 = .ok (.iload 5, 2) := by decide +kernel
theorem d_M_mean_49 : decode cX12_mean 49 = .ok (.iaload, 1) := by decide +kernel
theorem d_M_mean_50 : decode cX12_mean 50 = .ok (.ifCond .le 23, 3) := by decide +kernel
theorem d_M_mean_53 : decode cX12_mean 53 = .ok (.lload_n 3, 1) := by decide +kernel
theorem d_M_mean_54 : decode cX12_mean 54 = .ok (.aload_n 0, 1) := by decide +kernel
theorem d_M_mean_55 : decode cX12_mean 55 = .ok (.getfield 157, 3) := by decide +kernel
theorem d_M_mean_58 : decode cX12_mean 58 = .ok (.iload 5, 2) := by decide +kernel
theorem d_M_mean_60 : decode cX12_mean 60 = .ok (.iaload, 1) := by decide +kernel
theorem d_M_mean_61 : decode cX12_mean 61 = .ok (.i2l, 1) := by decide +kernel
theorem d_M_mean_62 : decode cX12_mean 62 = .ok (.aload_n 0, 1) := by decide +kernel
theorem d_M_mean_63 : decode cX12_mean 63 = .ok (.iload_n 1, 1) := by decide +kernel
theorem d_M_mean_64 : decode cX12_mean 64 = .ok (.iload 5, 2) := by decide +kernel
theorem d_M_mean_66 : decode cX12_mean 66 = .ok (.invokevirtual 424, 3) := by decide +kernel
theorem d_M_mean_69 : decode cX12_mean 69 = .ok (.i2l, 1) := by decide +kernel
theorem d_M_mean_70 : decode cX12_mean 70 = .ok (.lmul, 1) := by decide +kernel
theorem d_M_mean_71 : decode cX12_mean 71 = .ok (.ladd, 1) := by decide +kernel
theorem d_M_mean_72 : decode cX12_mean 72 = .ok (.lstore_n 3, 1) := by decide +kernel
theorem d_M_mean_73 : decode cX12_mean 73 = .ok (.iinc 5 1, 3) := by decide +kernel
theorem d_M_mean_76 : decode cX12_mean 76 = .ok (.goto (-40), 3) := by decide +kernel
theorem d_M_mean_79 : decode cX12_mean 79 = .ok (.lload_n 3, 1) := by decide +kernel
theorem d_M_mean_80 : decode cX12_mean 80 = .ok (.ldc2_w 529, 3) := by decide +kernel
theorem d_M_mean_83 : decode cX12_mean 83 = .ok (.ldiv, 1) := by decide +kernel
theorem d_M_mean_84 : decode cX12_mean 84 = .ok (.l2i, 1) := by decide +kernel
theorem d_M_mean_85 : decode cX12_mean 85 = .ok (.ireturn, 1) := by decide +kernel
noncomputable def f_M_mean (x1 : Int32) (x2 : Int32) (h : mm_H) : Option (Int32 × mm_H) := mm_let (mm_pI h 261 0 0) fun h1 => (f_M_isSecret x1 h1).bind fun v4 => if v4 = 0 then (some ((-1), h1)) else ((f_M_within x2 0 30).bind fun v6 => if v6 = 0 then (some ((-1), h1)) else ((f_M_nights x1 x2 h1).bind fun v8 => (mm_while (σ := (Int64 × Int32 × mm_H)) (ρ := (Int64 × mm_H)) (fun s9 => if 64 ≤ s9.2.1 then (some (Sum.inr (s9.1, s9.2.2))) else ((mm_ix s9.2.1 64).bind fun k15 => (if (s9.2.2.1 310 k15) ≤ 0 then (some (s9.1, s9.2.2)) else ((mm_ix s9.2.1 64).bind fun k19 => (f_M_baseOf x1 s9.2.1 s9.2.2).bind fun v22 => mm_let (s9.1 + ((Int32.toInt64 (s9.2.2.1 310 k19)) * (Int32.toInt64 v22.1))) fun y23 => some (y23, v22.2)) : Option (Int64 × mm_H)).bind fun j17 => mm_let (s9.2.1 + 1) fun y28 => some (Sum.inl (j17.1, y28, j17.2)))) (0, 0, v8)).bind fun v12 => some ((Int64.toInt32 (v12.1 / 1000)), v12.2)))
theorem T_M_mean (V : mm_V) (l : Launch) (x1 : Int32) (x2 : Int32) (h : mm_H) (r : (Int32 × mm_H)) (hf : f_M_mean x1 x2 h = some r) : MT V l Y_M_mean 6 [.ref 261, .int x1, .int x2] (fun r1 h1 => r1 = some (.int r.1) ∧ h1 = r.2) h := by
  unfold f_M_mean at hf
  refine MT.intro (pn_M rfl) [(0, .ref 261), (1, .int x1), (2, .int x2)] rfl (Nat.le_of_ble_eq_true rfl) ?_
  generalize hZ : mm_Z V _ = Z0
  refine MM.aload_n (i := 0) rfl rfl d_M_mean_0 rfl ?_
  refine MM.iconst ic_0 d_M_mean_1 rfl ?_
  obtain ⟨h1, e2, hf⟩ := mm_letE hf
  refine MM.putI e2 9 tg_261 lays_9 toks_9 pq_9_0 ww_1358 d_M_mean_2 rfl ?_
  refine MM.aload_n (i := 0) rfl rfl d_M_mean_5 rfl ?_
  refine MM.iload_n (i := 1) rfl rfl d_M_mean_6 rfl ?_
  obtain ⟨v4, e3, hf⟩ := mm_bind hf
  refine MM.callV1 (T_M_isSecret V l x1 h1 _ e3) (fun _ _ q => q) cal_M_isSecret rfl tg_261 ct_9 ww_82 ww_1823 ww_1821 (by decide) (by simp [Value.category]) d_M_mean_7 rfl ⟨rfl, rfl⟩ rfl ?_
  obtain ⟨m38, m39⟩ := mm_ifE hf
  refine MM.if_eq (tgt := 23) d_M_mean_10 rfl rfl (fun c37 => ?_) (fun c37 => ?_)
  · replace hf := m38 c37
    refine MM.iconst ic_m1 d_M_mean_23 rfl ?_
    obtain rfl := Option.some.inj hf
    subst hZ
    exact MM.iret rfl d_M_mean_24 ⟨rfl, rfl⟩
  · replace hf := m39 c37
    refine MM.iload_n (i := 2) rfl rfl d_M_mean_13 rfl ?_
    refine MM.iconst ic_0 d_M_mean_14 rfl ?_
    refine MM.bipush bp_30 d_M_mean_15 rfl ?_
    obtain ⟨v6, e5, hf⟩ := mm_bind hf
    refine MM.callS1 (T_M_within V l x2 0 30 h1 _ e5) (fun _ _ q => q) cal_M_within rfl ww_1669 ww_1668 (by decide) (by simp [Value.category]) d_M_mean_17 rfl ⟨rfl, rfl⟩ rfl ?_
    obtain ⟨m35, m36⟩ := mm_ifE hf
    refine MM.if_ne (tgt := 25) d_M_mean_20 rfl rfl (fun c34 => ?_) (fun c34 => ?_)
    · replace hf := m36 c34
      refine MM.aload_n (i := 0) rfl rfl d_M_mean_25 rfl ?_
      refine MM.iload_n (i := 1) rfl rfl d_M_mean_26 rfl ?_
      refine MM.iload_n (i := 2) rfl rfl d_M_mean_27 rfl ?_
      obtain ⟨v8, e7, hf⟩ := mm_bind hf
      refine MM.callV0 (T_M_nights V l x1 x2 h1 _ e7) (fun _ _ q => q) cal_M_nights rfl tg_261 ct_9 ww_100 ww_1966 ww_1964 (by decide) (by simp [Value.category]) d_M_mean_28 rfl ⟨rfl, rfl⟩ rfl ?_
      refine MM.lconst (v := 0) rfl d_M_mean_31 rfl ?_
      refine MM.lstore_n (i := 3) (lv' := [(3, .long 0), (0, .ref 261), (1, .int x1), (2, .int x2)]) rfl rfl (Nat.le_of_ble_eq_true rfl) rfl d_M_mean_32 rfl ?_
      refine MM.iconst ic_0 d_M_mean_33 rfl ?_
      refine MM.istore (lv' := [(5, .int 0), (3, .long 0), (0, .ref 261), (1, .int x1), (2, .int x2)]) rfl (Nat.le_of_ble_eq_true rfl) rfl d_M_mean_34 rfl ?_
      obtain ⟨v12, e14, hf⟩ := mm_bind hf
      have K13 : MM V l Y_M_mean 6 0 0 Z0 79 [(3, .long v12.1)] [] v12.2 := by
        refine MM.lload_n (i := 3) rfl rfl d_M_mean_79 rfl ?_
        refine MM.ldc2 ww_1978 d_M_mean_80 rfl ?_
        refine MM.ldiv (by decide) d_M_mean_83 rfl ?_
        refine MM.l2i d_M_mean_84 rfl ?_
        obtain rfl := Option.some.inj hf
        subst hZ
        exact MM.iret rfl d_M_mean_85 ⟨rfl, rfl⟩
      clear hf
      refine MM.sub [2, 3, 1, 0] (by rfl) (mm_while_ind (fun s9 => MM V l Y_M_mean 6 0 0 Z0 36 [(0, .ref 261), (1, .int x1), (3, .long s9.1), (5, .int s9.2.1)] [] s9.2.2) e14 (fun s9 q10 hf hx11 => ?_))
      refine MM.iload rfl d_M_mean_36 rfl ?_
      refine MM.bipush bp_64 d_M_mean_38 rfl ?_
      obtain ⟨m32, m33⟩ := mm_ifE hf
      refine MM.icmp_ge (tgt := 79) d_M_mean_40 rfl rfl (fun c31 => ?_) (fun c31 => ?_)
      · replace hf := m32 c31
        obtain rfl := Option.some.inj hf
        obtain rfl := Option.some.inj (mm_wxR hx11)
        exact MM.sub [2] (by rfl) K13
      · replace hf := m33 c31
        refine MM.aload_n (i := 0) rfl rfl d_M_mean_43 rfl ?_
        refine MM.gR 9 49 tg_261 rq_9_62 rfl lays_9 ww_1420 d_M_mean_44 rfl ?_
        refine MM.iload rfl d_M_mean_47 rfl ?_
        obtain ⟨k15, e16, hf⟩ := mm_bind hf
        refine MM.gI e16 al_310 d_M_mean_49 rfl ?_
        obtain ⟨j17, e30, hf⟩ := mm_bind hf
        have K18 : MM V l Y_M_mean 6 0 0 Z0 73 [(0, .ref 261), (1, .int x1), (3, .long j17.1), (5, .int s9.2.1)] [] j17.2 := by
          obtain ⟨y28, e29, hf⟩ := mm_letE hf
          refine MM.iinc (k0 := 3) (lv' := [(5, .int y28), (0, .ref 261), (1, .int x1), (3, .long j17.1)]) (by rw [ic_1]; exact e29) rfl (Nat.le_of_ble_eq_true rfl) rfl d_M_mean_73 rfl ?_
          refine MM.goto (tgt := 36) d_M_mean_76 rfl ?_
          obtain rfl := Option.some.inj hf
          have h9 := mm_wxL hx11
          exact MM.sub [1, 2, 3, 0] (by rfl) h9
        clear hf
        have hf := e30
        clear e30
        obtain ⟨m26, m27⟩ := mm_ifE hf
        refine MM.if_le (tgt := 73) d_M_mean_50 rfl rfl (fun c25 => ?_) (fun c25 => ?_)
        · replace hf := m26 c25
          obtain rfl := Option.some.inj hf
          exact MM.sub [0, 1, 2, 3] (by rfl) K18
        · replace hf := m27 c25
          refine MM.lload_n (i := 3) rfl rfl d_M_mean_53 rfl ?_
          refine MM.aload_n (i := 0) rfl rfl d_M_mean_54 rfl ?_
          refine MM.gR 9 49 tg_261 rq_9_62 rfl lays_9 ww_1420 d_M_mean_55 rfl ?_
          refine MM.iload rfl d_M_mean_58 rfl ?_
          obtain ⟨k19, e20, hf⟩ := mm_bind hf
          refine MM.gI e20 al_310 d_M_mean_60 rfl ?_
          refine MM.i2l d_M_mean_61 rfl ?_
          refine MM.aload_n (i := 0) rfl rfl d_M_mean_62 rfl ?_
          refine MM.iload_n (i := 1) rfl rfl d_M_mean_63 rfl ?_
          refine MM.iload rfl d_M_mean_64 rfl ?_
          obtain ⟨v22, e21, hf⟩ := mm_bind hf
          refine MM.callV1 (T_M_baseOf V l x1 s9.2.1 s9.2.2 _ e21) (fun _ _ q => q) cal_M_baseOf rfl tg_261 ct_9 ww_75 ww_1787 ww_1785 (by decide) (by simp [Value.category]) d_M_mean_66 rfl ⟨rfl, rfl⟩ rfl ?_
          refine MM.i2l d_M_mean_69 rfl ?_
          refine MM.lmul d_M_mean_70 rfl ?_
          refine MM.ladd d_M_mean_71 rfl ?_
          obtain ⟨y23, e24, hf⟩ := mm_letE hf
          refine MM.lstore_n (i := 3) (lv' := [(3, .long y23), (0, .ref 261), (1, .int x1), (5, .int s9.2.1)]) e24 rfl (Nat.le_of_ble_eq_true rfl) rfl d_M_mean_72 rfl ?_
          obtain rfl := Option.some.inj hf
          exact MM.sub [1, 2, 0, 3] (by rfl) K18
    · replace hf := m35 c34
      refine MM.iconst ic_m1 d_M_mean_23 rfl ?_
      obtain rfl := Option.some.inj hf
      subst hZ
      exact MM.iret rfl d_M_mean_24 ⟨rfl, rfl⟩
