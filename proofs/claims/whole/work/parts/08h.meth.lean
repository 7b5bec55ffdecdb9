/-! methods: X_findLies, X_lies, Ni_listen, Ni_share, Ni_spread, Ni_passOne, Ni_pass, Ni_weighCounts, X_passNights, Ni_expected, X_mean, Ni_surety, X_holds, Co_fewestPayments, X_settle, Fe_invite, Fe_mayChoose, Fe_choose -/
theorem d_X_findLies_0 : decode cX11_findLies 0 = .ok (.aload_n 0, 1) := by decide +kernel
theorem d_X_findLies_1 : decode cX11_findLies 1 = .ok (.getfield 75, 3) := by decide +kernel
theorem d_X_findLies_4 : decode cX11_findLies 4 = .ok (.iconst 0, 1) := by decide +kernel
theorem d_X_findLies_5 : decode cX11_findLies 5 = .ok (.bipush 11, 2) := by decide +kernel
theorem d_X_findLies_7 : decode cX11_findLies 7 = .ok (.iastore, 1) := by decide +kernel
theorem d_X_findLies_8 : decode cX11_findLies 8 = .ok (.iconst 0, 1) := by decide +kernel
theorem d_X_findLies_9 : decode cX11_findLies 9 = .ok (.istore_n 1, 1) := by decide +kernel
theorem d_X_findLies_10 : decode cX11_findLies 10 = .ok (.iload_n 1, 1) := by decide +kernel
theorem d_X_findLies_11 : decode cX11_findLies 11 = .ok (.iconst 1, 1) := by decide +kernel
theorem d_X_findLies_12 : decode cX11_findLies 12 = .ok (.aload_n 0, 1) := by decide +kernel
theorem d_X_findLies_13 : decode cX11_findLies 13 = .ok (.getfield 81, 3) := by decide +kernel
theorem d_X_findLies_16 : decode cX11_findLies 16 = .ok (.getfield 319, 3) := by decide +kernel
theorem d_X_findLies_19 : decode cX11_findLies 19 = .ok (.ishl, 1) := by decide +kernel
theorem d_X_findLies_20 : decode cX11_findLies 20 = .ok (.if_icmp .ge 96, 3) := by decide +kernel
theorem d_X_findLies_23 : decode cX11_findLies 23 = .ok (.iload_n 1, 1) := by decide +kernel
theorem d_X_findLies_24 : decode cX11_findLies 24 = .ok (.invokestatic 299, 3) := by decide +kernel
theorem d_X_findLies_27 : decode cX11_findLies 27 = .ok (.istore_n 2, 1) := by decide +kernel
theorem d_X_findLies_28 : decode cX11_findLies 28 = .ok (.iload_n 2, 1) := by decide +kernel
theorem d_X_findLies_29 : decode cX11_findLies 29 = .ok (.aload_n 0, 1) := by decide +kernel
theorem d_X_findLies_30 : decode cX11_findLies 30 = .ok (.getfield 75, 3) := by decide +kernel
theorem d_X_findLies_33 : decode cX11_findLies 33 = .ok (.iconst 0, 1) := by decide +kernel
theorem d_X_findLies_34 : decode cX11_findLies 34 = .ok (.iaload, 1) := by decide +kernel
theorem d_X_findLies_35 : decode cX11_findLies 35 = .ok (.if_icmp .gt 75, 3) := by decide +kernel
theorem d_X_findLies_38 : decode cX11_findLies 38 = .ok (.aload_n 0, 1) := by decide +kernel
theorem d_X_findLies_39 : decode cX11_findLies 39 = .ok (.getfield 81, 3) := by decide +kernel
theorem d_X_findLies_42 : decode cX11_findLies 42 = .ok (.iload_n 1, 1) := by decide +kernel
theorem d_X_findLies_43 : decode cX11_findLies 43 = .ok (.invokevirtual 397, 3) := by decide +kernel
theorem d_X_findLies_46 : decode cX11_findLies 46 = .ok (.ifCond .ne 6, 3) := by decide +kernel
theorem d_X_findLies_49 : decode cX11_findLies 49 = .ok (.goto 61, 3) := by decide +kernel
theorem d_X_findLies_52 : decode cX11_findLies 52 = .ok (.iload_n 2, 1) := by decide +kernel
theorem d_X_findLies_53 : decode cX11_findLies 53 = .ok (.aload_n 0, 1) := by decide +kernel
theorem d_X_findLies_54 : decode cX11_findLies 54 = .ok (.getfield 75, 3) := by decide +kernel
theorem d_X_findLies_57 : decode cX11_findLies 57 = .ok (.iconst 0, 1) := by decide +kernel
theorem d_X_findLies_58 : decode cX11_findLies 58 = .ok (.iaload, 1) := by decide +kernel
theorem d_X_findLies_59 : decode cX11_findLies 59 = .ok (.if_icmp .ge 31, 3) := by decide +kernel
theorem d_X_findLies_62 : decode cX11_findLies 62 = .ok (.aload_n 0, 1) := by decide +kernel
theorem d_X_findLies_63 : decode cX11_findLies 63 = .ok (.getfield 75, 3) := by decide +kernel
theorem d_X_findLies_66 : decode cX11_findLies 66 = .ok (.iconst 0, 1) := by decide +kernel
theorem d_X_findLies_67 : decode cX11_findLies 67 = .ok (.iload_n 2, 1) := by decide +kernel
theorem d_X_findLies_68 : decode cX11_findLies 68 = .ok (.iastore, 1) := by decide +kernel
theorem d_X_findLies_69 : decode cX11_findLies 69 = .ok (.aload_n 0, 1) := by decide +kernel
theorem d_X_findLies_70 : decode cX11_findLies 70 = .ok (.getfield 75, 3) := by decide +kernel
theorem d_X_findLies_73 : decode cX11_findLies 73 = .ok (.iconst 1, 1) := by decide +kernel
theorem d_X_findLies_74 : decode cX11_findLies 74 = .ok (.iload_n 1, 1) := by decide +kernel
theorem d_X_findLies_75 : decode cX11_findLies 75 = .ok (.iastore, 1) := by decide +kernel
theorem d_X_findLies_76 : decode cX11_findLies 76 = .ok (.aload_n 0, 1) := by decide +kernel
theorem d_X_findLies_77 : decode cX11_findLies 77 = .ok (.getfield 75, 3) := by decide +kernel
theorem d_X_findLies_80 : decode cX11_findLies 80 = .ok (.iconst 2, 1) := by decide +kernel
theorem d_X_findLies_81 : decode cX11_findLies 81 = .ok (.iconst 0, 1) := by decide +kernel
theorem d_X_findLies_82 : decode cX11_findLies 82 = .ok (.iastore, 1) := by decide +kernel
theorem d_X_findLies_83 : decode cX11_findLies 83 = .ok (.aload_n 0, 1) := by decide +kernel
theorem d_X_findLies_84 : decode cX11_findLies 84 = .ok (.getfield 75, 3) := by decide +kernel
theorem d_X_findLies_87 : decode cX11_findLies 87 = .ok (.iconst 3, 1) := by decide +kernel
theorem d_X_findLies_88 : decode cX11_findLies 88 = .ok (.iload_n 1, 1) := by decide +kernel
theorem d_X_findLies_89 : decode cX11_findLies 89 = .ok (.iastore, 1) := by decide +kernel
theorem d_X_findLies_90 : decode cX11_findLies 90 = .ok (.aload_n 0, 1) := by decide +kernel
theorem d_X_findLies_91 : decode cX11_findLies 91 = .ok (.getfield 75, 3) := by decide +kernel
theorem d_X_findLies_94 : decode cX11_findLies 94 = .ok (.iconst 2, 1) := by decide +kernel
theorem d_X_findLies_95 : decode cX11_findLies 95 = .ok (.dup2, 1) := by decide +kernel
theorem d_X_findLies_96 : decode cX11_findLies 96 = .ok (.iaload, 1) := by decide +kernel
theorem d_X_findLies_97 : decode cX11_findLies 97 = .ok (.iconst 1, 1) := by decide +kernel
theorem d_X_findLies_98 : decode cX11_findLies 98 = .ok (.iadd, 1) := by decide +kernel
theorem d_X_findLies_99 : decode cX11_findLies 99 = .ok (.iastore, 1) := by decide +kernel
theorem d_X_findLies_100 : decode cX11_findLies 100 = .ok (.aload_n 0, 1) := by decide +kernel
theorem d_X_findLies_101 : decode cX11_findLies 101 = .ok (.getfield 75, 3) := by decide +kernel
theorem d_X_findLies_104 : decode cX11_findLies 104 = .ok (.iconst 3, 1) := by decide +kernel
theorem d_X_findLies_105 : decode cX11_findLies 105 = .ok (.dup2, 1) := by decide +kernel
theorem d_X_findLies_106 : decode cX11_findLies 106 = .ok (.iaload, 1) := by decide +kernel
theorem d_X_findLies_107 : decode cX11_findLies 107 = .ok (.iload_n 1, 1) := by decide +kernel
theorem d_X_findLies_108 : decode cX11_findLies 108 = .ok (.iand, 1) := by decide +kernel
theorem d_X_findLies_109 : decode cX11_findLies 109 = .ok (.iastore, 1) := by decide +kernel
theorem d_X_findLies_110 : decode cX11_findLies 110 = .ok (.iinc 1 1, 3) := by decide +kernel
theorem d_X_findLies_113 : decode cX11_findLies 113 = .ok (.goto (-103), 3) := by decide +kernel
theorem d_X_findLies_116 : decode cX11_findLies 116 = .ok (.return_, 1) := by decide +kernel
noncomputable def f_X_findLies (h : mm_H) : Option mm_H := mm_let (mm_pI h 78 0 11) fun h1 => (mm_while (σ := (Int32 × mm_H)) (ρ := mm_H) (fun s3 => (mm_gT s3.2 14).bind fun t9 => if ((1 : Int32) <<< ((s3.2.1 t9 6) &&& 31)) ≤ s3.1 then (some (Sum.inr s3.2)) else ((f_JI_bitCount s3.1).bind fun v12 => (if (s3.2.1 78 0) < v12 then (some s3.2) else ((mm_gT s3.2 14).bind fun t15 => (f_To_agrees t15 s3.1 s3.2).bind fun v18 => if v18 = 0 then (some s3.2) else ((if (s3.2.1 78 0) ≤ v12 then (some s3.2) else (mm_let (mm_pI s3.2 78 0 v12) fun h21 => mm_let (mm_pI h21 78 1 s3.1) fun h23 => mm_let (mm_pI h23 78 2 0) fun h25 => mm_let (mm_pI h25 78 3 s3.1) fun h27 => some h27) : Option mm_H).bind fun j19 => mm_let (mm_pI j19 78 2 ((j19.1 78 2) + 1)) fun h32 => mm_let (mm_pI h32 78 3 ((h32.1 78 3) &&& s3.1)) fun h34 => some h34)) : Option mm_H).bind fun j13 => mm_let (s3.1 + 1) fun y43 => some (Sum.inl (y43, j13)))) (0, h1)).bind fun v6 => some v6
theorem T_X_findLies (V : mm_V) (l : Launch) (h : mm_H) (r : mm_H) (hf : f_X_findLies h = some r) : MT V l Y_X_findLies 3 [.ref 32] (fun r1 h1 => r1 = none ∧ h1 = r) h := by
  unfold f_X_findLies at hf
  refine MT.intro (pn_X rfl) [(0, .ref 32)] rfl (Nat.le_of_ble_eq_true rfl) ?_
  generalize hZ : mm_Z V _ = Z0
  refine MM.aload_n (i := 0) rfl rfl d_X_findLies_0 rfl ?_
  refine MM.gR 8 46 tg_32 rq_8_13 rfl lays_8 ww_485 d_X_findLies_1 rfl ?_
  refine MM.iconst ic_0 d_X_findLies_4 rfl ?_
  refine MM.bipush bp_11 d_X_findLies_5 rfl ?_
  obtain ⟨h1, e2, hf⟩ := mm_letE hf
  refine MM.sI ix_0_4 e2 al_78 d_X_findLies_7 rfl ?_
  refine MM.iconst ic_0 d_X_findLies_8 rfl ?_
  refine MM.istore_n (i := 1) (lv' := [(1, .int 0), (0, .ref 32)]) rfl rfl (Nat.le_of_ble_eq_true rfl) rfl d_X_findLies_9 rfl ?_
  obtain ⟨v6, e8, hf⟩ := mm_bind hf
  have K7 : MM V l Y_X_findLies 3 0 0 Z0 116 [] [] v6 := by
    obtain rfl := Option.some.inj hf
    subst hZ
    exact MM.vret rfl d_X_findLies_116 ⟨rfl, rfl⟩
  clear hf
  refine MM.sub [1, 0] (by rfl) (mm_while_ind (fun s3 => MM V l Y_X_findLies 3 0 0 Z0 10 [(0, .ref 32), (1, .int s3.1)] [] s3.2) e8 (fun s3 q4 hf hx5 => ?_))
  refine MM.iload_n (i := 1) rfl rfl d_X_findLies_10 rfl ?_
  refine MM.iconst ic_1 d_X_findLies_11 rfl ?_
  refine MM.aload_n (i := 0) rfl rfl d_X_findLies_12 rfl ?_
  obtain ⟨t9, e10, hf⟩ := mm_bind hf
  obtain ⟨e10, t_t9⟩ := mm_gTE e10
  refine MM.gT e10 tg_32 tq_14 lays_8 ww_486 d_X_findLies_13 rfl ?_
  refine MM.getI 7 t_t9 lays_7 gq_7_6 ww_389 d_X_findLies_16 rfl ?_
  refine MM.ishl d_X_findLies_19 rfl ?_
  obtain ⟨m47, m48⟩ := mm_ifE hf
  refine MM.icmp_ge (tgt := 116) d_X_findLies_20 rfl rfl (fun c46 => ?_) (fun c46 => ?_)
  · replace hf := m47 c46
    obtain rfl := Option.some.inj hf
    obtain rfl := Option.some.inj (mm_wxR hx5)
    exact MM.sub [] (by rfl) K7
  · replace hf := m48 c46
    refine MM.iload_n (i := 1) rfl rfl d_X_findLies_23 rfl ?_
    obtain ⟨v12, e11, hf⟩ := mm_bind hf
    refine MM.callS1 (T_JI_bitCount V l s3.1 s3.2 _ e11) (fun _ _ q => q) cal_JI_bitCount rfl ww_893 ww_1040 (by decide) (by simp [Value.category]) d_X_findLies_24 rfl ⟨rfl, rfl⟩ rfl ?_
    refine MM.istore_n (i := 2) (lv' := [(2, .int v12), (0, .ref 32), (1, .int s3.1)]) rfl rfl (Nat.le_of_ble_eq_true rfl) rfl d_X_findLies_27 rfl ?_
    refine MM.iload_n (i := 2) rfl rfl d_X_findLies_28 rfl ?_
    refine MM.aload_n (i := 0) rfl rfl d_X_findLies_29 rfl ?_
    refine MM.gR 8 46 tg_32 rq_8_13 rfl lays_8 ww_485 d_X_findLies_30 rfl ?_
    refine MM.iconst ic_0 d_X_findLies_33 rfl ?_
    refine MM.gI ix_0_4 al_78 d_X_findLies_34 rfl ?_
    obtain ⟨j13, e45, hf⟩ := mm_bind hf
    have K14 : MM V l Y_X_findLies 3 0 0 Z0 110 [(0, .ref 32), (1, .int s3.1)] [] j13 := by
      obtain ⟨y43, e44, hf⟩ := mm_letE hf
      refine MM.iinc (k0 := 1) (lv' := [(1, .int y43), (0, .ref 32)]) (by rw [ic_1]; exact e44) rfl (Nat.le_of_ble_eq_true rfl) rfl d_X_findLies_110 rfl ?_
      refine MM.goto (tgt := 10) d_X_findLies_113 rfl ?_
      obtain rfl := Option.some.inj hf
      have h9 := mm_wxL hx5
      exact MM.sub [1, 0] (by rfl) h9
    clear hf
    have hf := e45
    clear e45
    obtain ⟨m41, m42⟩ := mm_ifE hf
    refine MM.icmp_gt (tgt := 110) d_X_findLies_35 rfl rfl (fun c40 => ?_) (fun c40 => ?_)
    · replace hf := m41 c40
      obtain rfl := Option.some.inj hf
      exact MM.sub [1, 2] (by rfl) K14
    · replace hf := m42 c40
      refine MM.aload_n (i := 0) rfl rfl d_X_findLies_38 rfl ?_
      obtain ⟨t15, e16, hf⟩ := mm_bind hf
      obtain ⟨e16, t_t15⟩ := mm_gTE e16
      refine MM.gT e16 tg_32 tq_14 lays_8 ww_486 d_X_findLies_39 rfl ?_
      refine MM.iload_n (i := 1) rfl rfl d_X_findLies_42 rfl ?_
      obtain ⟨v18, e17, hf⟩ := mm_bind hf
      refine MM.callV1 (T_To_agrees V l t15 s3.1 s3.2 _ e17) (fun _ _ q => q) cal_To_agrees rfl t_t15 ct_7 ww_1112 ww_1111 ww_1110 (by decide) (by simp [Value.category]) d_X_findLies_43 rfl ⟨rfl, rfl⟩ rfl ?_
      obtain ⟨m38, m39⟩ := mm_ifE hf
      refine MM.if_ne (tgt := 52) d_X_findLies_46 rfl rfl (fun c37 => ?_) (fun c37 => ?_)
      · replace hf := m39 c37
        refine MM.iload_n (i := 2) rfl rfl d_X_findLies_52 rfl ?_
        refine MM.aload_n (i := 0) rfl rfl d_X_findLies_53 rfl ?_
        refine MM.gR 8 46 tg_32 rq_8_13 rfl lays_8 ww_485 d_X_findLies_54 rfl ?_
        refine MM.iconst ic_0 d_X_findLies_57 rfl ?_
        refine MM.gI ix_0_4 al_78 d_X_findLies_58 rfl ?_
        obtain ⟨j19, e36, hf⟩ := mm_bind hf
        have K20 : MM V l Y_X_findLies 3 0 0 Z0 90 [(0, .ref 32), (1, .int s3.1)] [] j19 := by
          refine MM.aload_n (i := 0) rfl rfl d_X_findLies_90 rfl ?_
          refine MM.gR 8 46 tg_32 rq_8_13 rfl lays_8 ww_485 d_X_findLies_91 rfl ?_
          refine MM.iconst ic_2 d_X_findLies_94 rfl ?_
          refine MM.dup2 rfl rfl d_X_findLies_95 rfl ?_
          refine MM.gI ix_2_4 al_78 d_X_findLies_96 rfl ?_
          refine MM.iconst ic_1 d_X_findLies_97 rfl ?_
          refine MM.iadd d_X_findLies_98 rfl ?_
          obtain ⟨h32, e33, hf⟩ := mm_letE hf
          refine MM.sI ix_2_4 e33 al_78 d_X_findLies_99 rfl ?_
          refine MM.aload_n (i := 0) rfl rfl d_X_findLies_100 rfl ?_
          refine MM.gR 8 46 tg_32 rq_8_13 rfl lays_8 ww_485 d_X_findLies_101 rfl ?_
          refine MM.iconst ic_3 d_X_findLies_104 rfl ?_
          refine MM.dup2 rfl rfl d_X_findLies_105 rfl ?_
          refine MM.gI ix_3_4 al_78 d_X_findLies_106 rfl ?_
          refine MM.iload_n (i := 1) rfl rfl d_X_findLies_107 rfl ?_
          refine MM.iand d_X_findLies_108 rfl ?_
          obtain ⟨h34, e35, hf⟩ := mm_letE hf
          refine MM.sI ix_3_4 e35 al_78 d_X_findLies_109 rfl ?_
          obtain rfl := Option.some.inj hf
          exact MM.sub [0, 1] (by rfl) K14
        clear hf
        have hf := e36
        clear e36
        obtain ⟨m30, m31⟩ := mm_ifE hf
        refine MM.icmp_ge (tgt := 90) d_X_findLies_59 rfl rfl (fun c29 => ?_) (fun c29 => ?_)
        · replace hf := m30 c29
          obtain rfl := Option.some.inj hf
          exact MM.sub [1, 2] (by rfl) K20
        · replace hf := m31 c29
          refine MM.aload_n (i := 0) rfl rfl d_X_findLies_62 rfl ?_
          refine MM.gR 8 46 tg_32 rq_8_13 rfl lays_8 ww_485 d_X_findLies_63 rfl ?_
          refine MM.iconst ic_0 d_X_findLies_66 rfl ?_
          refine MM.iload_n (i := 2) rfl rfl d_X_findLies_67 rfl ?_
          obtain ⟨h21, e22, hf⟩ := mm_letE hf
          refine MM.sI ix_0_4 e22 al_78 d_X_findLies_68 rfl ?_
          refine MM.aload_n (i := 0) rfl rfl d_X_findLies_69 rfl ?_
          refine MM.gR 8 46 tg_32 rq_8_13 rfl lays_8 ww_485 d_X_findLies_70 rfl ?_
          refine MM.iconst ic_1 d_X_findLies_73 rfl ?_
          refine MM.iload_n (i := 1) rfl rfl d_X_findLies_74 rfl ?_
          obtain ⟨h23, e24, hf⟩ := mm_letE hf
          refine MM.sI ix_1_4 e24 al_78 d_X_findLies_75 rfl ?_
          refine MM.aload_n (i := 0) rfl rfl d_X_findLies_76 rfl ?_
          refine MM.gR 8 46 tg_32 rq_8_13 rfl lays_8 ww_485 d_X_findLies_77 rfl ?_
          refine MM.iconst ic_2 d_X_findLies_80 rfl ?_
          refine MM.iconst ic_0 d_X_findLies_81 rfl ?_
          obtain ⟨h25, e26, hf⟩ := mm_letE hf
          refine MM.sI ix_2_4 e26 al_78 d_X_findLies_82 rfl ?_
          refine MM.aload_n (i := 0) rfl rfl d_X_findLies_83 rfl ?_
          refine MM.gR 8 46 tg_32 rq_8_13 rfl lays_8 ww_485 d_X_findLies_84 rfl ?_
          refine MM.iconst ic_3 d_X_findLies_87 rfl ?_
          refine MM.iload_n (i := 1) rfl rfl d_X_findLies_88 rfl ?_
          obtain ⟨h27, e28, hf⟩ := mm_letE hf
          refine MM.sI ix_3_4 e28 al_78 d_X_findLies_89 rfl ?_
          obtain rfl := Option.some.inj hf
          exact MM.sub [1, 2] (by rfl) K20
      · replace hf := m38 c37
        refine MM.goto (tgt := 110) d_X_findLies_49 rfl ?_
        obtain rfl := Option.some.inj hf
        exact MM.sub [1, 2] (by rfl) K14
theorem d_X_lies_0 : decode cX11_lies 0 = .ok (.iload_n 1, 1) := by decide +kernel
theorem d_X_lies_1 : decode cX11_lies 1 = .ok (.ifCond .lt 8, 3) := by decide +kernel
theorem d_X_lies_4 : decode cX11_lies 4 = .ok (.iload_n 1, 1) := by decide +kernel
theorem d_X_lies_5 : decode cX11_lies 5 = .ok (.iconst 3, 1) := by decide +kernel
theorem d_X_lies_6 : decode cX11_lies 6 = .ok (.if_icmp .le 5, 3) := by decide +kernel
theorem d_X_lies_9 : decode cX11_lies 9 = .ok (.iconst (-1), 1) := by decide +kernel
theorem d_X_lies_10 : decode cX11_lies 10 = .ok (.ireturn, 1) := by decide +kernel
theorem d_X_lies_11 : decode cX11_lies 11 = .ok (.aload_n 0, 1) := by decide +kernel
theorem d_X_lies_12 : decode cX11_lies 12 = .ok (.invokevirtual 280, 3) := by decide +kernel
theorem d_X_lies_15 : decode cX11_lies 15 = .ok (.aload_n 0, 1) := by decide +kernel
theorem d_X_lies_16 : decode cX11_lies 16 = .ok (.getfield 75, 3) := by decide +kernel
theorem d_X_lies_19 : decode cX11_lies 19 = .ok (.iload_n 1, 1) := by decide +kernel
theorem d_X_lies_20 : decode cX11_lies 20 = .ok (.iaload, 1) := by decide +kernel
theorem d_X_lies_21 : decode cX11_lies 21 = .ok (.ireturn, 1) := by decide +kernel
noncomputable def f_X_lies (x1 : Int32) (h : mm_H) : Option (Int32 × mm_H) := if x1 < 0 then (some ((-1), h)) else (if x1 ≤ 3 then ((f_X_findLies h).bind fun v2 => (mm_ix x1 4).bind fun k3 => some ((v2.1 78 k3), v2)) else (some ((-1), h)))
theorem T_X_lies (V : mm_V) (l : Launch) (x1 : Int32) (h : mm_H) (r : (Int32 × mm_H)) (hf : f_X_lies x1 h = some r) : MT V l Y_X_lies 4 [.ref 32, .int x1] (fun r1 h1 => r1 = some (.int r.1) ∧ h1 = r.2) h := by
  unfold f_X_lies at hf
  refine MT.intro (pn_X rfl) [(0, .ref 32), (1, .int x1)] rfl (Nat.le_of_ble_eq_true rfl) ?_
  generalize hZ : mm_Z V _ = Z0
  refine MM.iload_n (i := 1) rfl rfl d_X_lies_0 rfl ?_
  obtain ⟨m9, m10⟩ := mm_ifE hf
  refine MM.if_lt (tgt := 9) d_X_lies_1 rfl rfl (fun c8 => ?_) (fun c8 => ?_)
  · replace hf := m9 c8
    refine MM.iconst ic_m1 d_X_lies_9 rfl ?_
    obtain rfl := Option.some.inj hf
    subst hZ
    exact MM.iret rfl d_X_lies_10 ⟨rfl, rfl⟩
  · replace hf := m10 c8
    refine MM.iload_n (i := 1) rfl rfl d_X_lies_4 rfl ?_
    refine MM.iconst ic_3 d_X_lies_5 rfl ?_
    obtain ⟨m6, m7⟩ := mm_ifE hf
    refine MM.icmp_le (tgt := 11) d_X_lies_6 rfl rfl (fun c5 => ?_) (fun c5 => ?_)
    · replace hf := m6 c5
      refine MM.aload_n (i := 0) rfl rfl d_X_lies_11 rfl ?_
      obtain ⟨v2, e1, hf⟩ := mm_bind hf
      refine MM.callV0 (T_X_findLies V l  h _ e1) (fun _ _ q => q) cal_X_findLies rfl tg_32 ct_8 ww_16 ww_1108 ww_1106 (by decide) (by simp [Value.category]) d_X_lies_12 rfl ⟨rfl, rfl⟩ rfl ?_
      refine MM.aload_n (i := 0) rfl rfl d_X_lies_15 rfl ?_
      refine MM.gR 8 46 tg_32 rq_8_13 rfl lays_8 ww_485 d_X_lies_16 rfl ?_
      refine MM.iload_n (i := 1) rfl rfl d_X_lies_19 rfl ?_
      obtain ⟨k3, e4, hf⟩ := mm_bind hf
      refine MM.gI e4 al_78 d_X_lies_20 rfl ?_
      obtain rfl := Option.some.inj hf
      subst hZ
      exact MM.iret rfl d_X_lies_21 ⟨rfl, rfl⟩
    · replace hf := m7 c5
      refine MM.iconst ic_m1 d_X_lies_9 rfl ?_
      obtain rfl := Option.some.inj hf
      subst hZ
      exact MM.iret rfl d_X_lies_10 ⟨rfl, rfl⟩
theorem d_Ni_listen_0 : decode cX4_listen 0 = .ok (.iconst 0, 1) := by decide +kernel
theorem d_Ni_listen_1 : decode cX4_listen 1 = .ok (.istore_n 3, 1) := by decide +kernel
theorem d_Ni_listen_2 : decode cX4_listen 2 = .ok (.iload_n 3, 1) := by decide +kernel
theorem d_Ni_listen_3 : decode cX4_listen 3 = .ok (.aload_n 1, 1) := by decide +kernel
theorem d_Ni_listen_4 : decode cX4_listen 4 = .ok (.getfield 37, 3) := by decide +kernel
theorem d_Ni_listen_7 : decode cX4_listen 7 = .ok (.if_icmp .ge 93, 3) := by decide +kernel
theorem d_Ni_listen_10 : decode cX4_listen 10 = .ok (.ldc2_w 31, 3) := by decide +kernel
theorem d_Ni_listen_13 : decode cX4_listen 13 = .ok (.lstore 4, 2) := by decide +kernel
theorem d_Ni_listen_15 : decode cX4_listen 15 = .ok (.iconst 0, 1) := by decide +kernel
theorem d_Ni_listen_16 : decode cX4_listen 16 = .ok (.istore 6, 2) := by decide +kernel
theorem d_Ni_listen_18 : decode cX4_listen 18 = .ok (.iload 6, 2) := by decide +kernel
theorem d_Ni_listen_20 : decode cX4_listen 20 = .ok (.aload_n 1, 1) := by decide +kernel
theorem d_Ni_listen_21 : decode cX4_listen 21 = .ok (.getfield 37, 3) := by decide +kernel
theorem d_Ni_listen_24 : decode cX4_listen 24 = .ok (.if_icmp .ge 58, 3) := by decide +kernel
theorem d_Ni_listen_27 : decode cX4_listen 27 = .ok (.iload_n 2, 1) := by decide +kernel
theorem d_Ni_listen_28 : decode cX4_listen 28 = .ok (.iload 6, 2) := by decide +kernel
theorem d_Ni_listen_30 : decode cX4_listen 30 = .ok (.invokestatic 57, 3) := by decide +kernel
theorem d_Ni_listen_33 : decode cX4_listen 33 = .ok (.iconst 1, 1) := by decide +kernel
theorem d_Ni_listen_34 : decode cX4_listen 34 = .ok (.if_icmp .ne 42, 3) := by decide +kernel
theorem d_Ni_listen_37 : decode cX4_listen 37 = .ok (.iload 6, 2) := by decide +kernel
theorem d_Ni_listen_39 : decode cX4_listen 39 = .ok (.iload_n 3, 1) := by decide +kernel
theorem d_Ni_listen_40 : decode cX4_listen 40 = .ok (.if_icmp .eq 36, 3) := by decide +kernel
theorem d_Ni_listen_43 : decode cX4_listen 43 = .ok (.aload_n 1, 1) := by decide +kernel
theorem d_Ni_listen_44 : decode cX4_listen 44 = .ok (.iload 6, 2) := by decide +kernel
theorem d_Ni_listen_46 : decode cX4_listen 46 = .ok (.invokevirtual 61, 3) := by decide +kernel
theorem d_Ni_listen_49 : decode cX4_listen 49 = .ok (.ifCond .eq 27, 3) := by decide +kernel
theorem d_Ni_listen_52 : decode cX4_listen 52 = .ok (.lload 4, 2) := by decide +kernel
theorem d_Ni_listen_54 : decode cX4_listen 54 = .ok (.bipush 10, 2) := by decide +kernel
theorem d_Ni_listen_56 : decode cX4_listen 56 = .ok (.iconst 0, 1) := by decide +kernel
theorem d_Ni_listen_57 : decode cX4_listen 57 = .ok (.aload_n 1, 1) := by decide +kernel
theorem d_Ni_listen_58 : decode cX4_listen 58 = .ok (.iload 6, 2) := by decide +kernel
theorem d_Ni_listen_60 : decode cX4_listen 60 = .ok (.iload_n 3, 1) := by decide +kernel
theorem d_Ni_listen_61 : decode cX4_listen 61 = .ok (.invokevirtual 65, 3) := by decide +kernel
theorem d_Ni_listen_64 : decode cX4_listen 64 = .ok (.invokestatic 68, 3) := by decide +kernel
theorem d_Ni_listen_67 : decode cX4_listen 67 = .ok (.isub, 1) := by decide +kernel
theorem d_Ni_listen_68 : decode cX4_listen 68 = .ok (.i2l, 1) := by decide +kernel
theorem d_Ni_listen_69 : decode cX4_listen 69 = .ok (.lmul, 1) := by decide +kernel
theorem d_Ni_listen_70 : decode cX4_listen 70 = .ok (.ldc2_w 73, 3) := by decide +kernel
theorem d_Ni_listen_73 : decode cX4_listen 73 = .ok (.ldiv, 1) := by decide +kernel
theorem d_Ni_listen_74 : decode cX4_listen 74 = .ok (.lstore 4, 2) := by decide +kernel
theorem d_Ni_listen_76 : decode cX4_listen 76 = .ok (.iinc 6 1, 3) := by decide +kernel
theorem d_Ni_listen_79 : decode cX4_listen 79 = .ok (.goto (-61), 3) := by decide +kernel
theorem d_Ni_listen_82 : decode cX4_listen 82 = .ok (.aload_n 0, 1) := by decide +kernel
theorem d_Ni_listen_83 : decode cX4_listen 83 = .ok (.getfield 18, 3) := by decide +kernel
theorem d_Ni_listen_86 : decode cX4_listen 86 = .ok (.iload_n 3, 1) := by decide +kernel
theorem d_Ni_listen_87 : decode cX4_listen 87 = .ok (.ldc2_w 31, 3) := by decide +kernel
theorem d_Ni_listen_90 : decode cX4_listen 90 = .ok (.lload 4, 2) := by decide +kernel
theorem d_Ni_listen_92 : decode cX4_listen 92 = .ok (.lsub, 1) := by decide +kernel
theorem d_Ni_listen_93 : decode cX4_listen 93 = .ok (.lastore, 1) := by decide +kernel
theorem d_Ni_listen_94 : decode cX4_listen 94 = .ok (.iinc 3 1, 3) := by decide +kernel
theorem d_Ni_listen_97 : decode cX4_listen 97 = .ok (.goto (-95), 3) := by decide +kernel
theorem d_Ni_listen_100 : decode cX4_listen 100 = .ok (.return_, 1) := by decide +kernel
noncomputable def f_Ni_listen (a1 : Nat) (x2 : Int32) (h : mm_H) : Option mm_H := if mm_tg a1 = 7 then ((mm_while (σ := (Int32 × mm_H)) (ρ := mm_H) (fun s1 => if (s1.2.1 a1 0) ≤ s1.1 then (some (Sum.inr s1.2)) else ((mm_while (σ := (Int64 × Int32)) (ρ := Int64) (fun s7 => if (s1.2.1 a1 0) ≤ s7.2 then (some (Sum.inr s7.1)) else ((f_X_bit x2 s7.2).bind fun v14 => (if v14 = 1 then (if s7.2 = s1.1 then (some s7.1) else ((f_To_speaks a1 s7.2 s1.2).bind fun v18 => if v18 = 0 then (some s7.1) else ((f_To_chance a1 s7.2 s1.1 s1.2).bind fun v20 => (f_JM_max 0 v20).bind fun v22 => mm_let ((s7.1 * (Int32.toInt64 (10 - v22))) / 10) fun y23 => some y23))) else (some s7.1) : Option Int64).bind fun j15 => mm_let (s7.2 + 1) fun y34 => some (Sum.inl (j15, y34)))) (1000000, 0)).bind fun v10 => (mm_ix s1.1 6).bind fun k40 => mm_let (mm_pL s1.2 74 k40 (1000000 - v10)) fun h42 => mm_let (s1.1 + 1) fun y44 => some (Sum.inl (y44, h42)))) (0, h)).bind fun v4 => some v4) else none
theorem T_Ni_listen (V : mm_V) (l : Launch) (a1 : Nat) (x2 : Int32) (h : mm_H) (r : mm_H) (hf : f_Ni_listen a1 x2 h = some r) : MT V l Y_Ni_listen 3 [.ref 71, .ref a1, .int x2] (fun r1 h1 => r1 = none ∧ h1 = r) h := by
  unfold f_Ni_listen at hf
  obtain ⟨t_a1, hf⟩ := mm_chkE hf
  refine MT.intro (pn_Ni rfl) [(0, .ref 71), (1, .ref a1), (2, .int x2)] rfl (Nat.le_of_ble_eq_true rfl) ?_
  generalize hZ : mm_Z V _ = Z0
  refine MM.iconst ic_0 d_Ni_listen_0 rfl ?_
  refine MM.istore_n (i := 3) (lv' := [(3, .int 0), (0, .ref 71), (1, .ref a1), (2, .int x2)]) rfl rfl (Nat.le_of_ble_eq_true rfl) rfl d_Ni_listen_1 rfl ?_
  obtain ⟨v4, e6, hf⟩ := mm_bind hf
  have K5 : MM V l Y_Ni_listen 3 0 0 Z0 100 [] [] v4 := by
    obtain rfl := Option.some.inj hf
    subst hZ
    exact MM.vret rfl d_Ni_listen_100 ⟨rfl, rfl⟩
  clear hf
  refine MM.sub [1, 2, 3, 0] (by rfl) (mm_while_ind (fun s1 => MM V l Y_Ni_listen 3 0 0 Z0 2 [(0, .ref 71), (1, .ref a1), (2, .int x2), (3, .int s1.1)] [] s1.2) e6 (fun s1 q2 hf hx3 => ?_))
  refine MM.iload_n (i := 3) rfl rfl d_Ni_listen_2 rfl ?_
  refine MM.aload_n (i := 1) rfl rfl d_Ni_listen_3 rfl ?_
  refine MM.getI 7 t_a1 lays_7 gq_7_0 ww_365 d_Ni_listen_4 rfl ?_
  obtain ⟨m47, m48⟩ := mm_ifE hf
  refine MM.icmp_ge (tgt := 100) d_Ni_listen_7 rfl rfl (fun c46 => ?_) (fun c46 => ?_)
  · replace hf := m47 c46
    obtain rfl := Option.some.inj hf
    obtain rfl := Option.some.inj (mm_wxR hx3)
    exact MM.sub [] (by rfl) K5
  · replace hf := m48 c46
    refine MM.ldc2 ww_1127 d_Ni_listen_10 rfl ?_
    refine MM.lstore (lv' := [(4, .long 1000000), (0, .ref 71), (1, .ref a1), (2, .int x2), (3, .int s1.1)]) rfl (Nat.le_of_ble_eq_true rfl) rfl d_Ni_listen_13 rfl ?_
    refine MM.iconst ic_0 d_Ni_listen_15 rfl ?_
    refine MM.istore (lv' := [(6, .int 0), (4, .long 1000000), (0, .ref 71), (1, .ref a1), (2, .int x2), (3, .int s1.1)]) rfl (Nat.le_of_ble_eq_true rfl) rfl d_Ni_listen_16 rfl ?_
    obtain ⟨v10, e12, hf⟩ := mm_bind hf
    have K11 : MM V l Y_Ni_listen 3 0 0 Z0 82 [(0, .ref 71), (1, .ref a1), (2, .int x2), (3, .int s1.1), (4, .long v10)] [] s1.2 := by
      refine MM.aload_n (i := 0) rfl rfl d_Ni_listen_82 rfl ?_
      refine MM.gR 3 3 tg_71 rq_3_2 rfl lays_3 ww_327 d_Ni_listen_83 rfl ?_
      refine MM.iload_n (i := 3) rfl rfl d_Ni_listen_86 rfl ?_
      refine MM.ldc2 ww_1127 d_Ni_listen_87 rfl ?_
      refine MM.lload rfl d_Ni_listen_90 rfl ?_
      refine MM.lsub d_Ni_listen_92 rfl ?_
      obtain ⟨k40, e41, hf⟩ := mm_bind hf
      obtain ⟨h42, e43, hf⟩ := mm_letE hf
      refine MM.sL e41 e43 al_74 d_Ni_listen_93 rfl ?_
      obtain ⟨y44, e45, hf⟩ := mm_letE hf
      refine MM.iinc (k0 := 3) (lv' := [(3, .int y44), (0, .ref 71), (1, .ref a1), (2, .int x2), (4, .long v10)]) (by rw [ic_1]; exact e45) rfl (Nat.le_of_ble_eq_true rfl) rfl d_Ni_listen_94 rfl ?_
      refine MM.goto (tgt := 2) d_Ni_listen_97 rfl ?_
      obtain rfl := Option.some.inj hf
      have h9 := mm_wxL hx3
      exact MM.sub [1, 2, 3, 0] (by rfl) h9
    clear hf
    refine MM.sub [2, 3, 4, 5, 1, 0] (by rfl) (mm_while_ind (fun s7 => MM V l Y_Ni_listen 3 0 0 Z0 18 [(0, .ref 71), (1, .ref a1), (2, .int x2), (3, .int s1.1), (4, .long s7.1), (6, .int s7.2)] [] s1.2) e12 (fun s7 q8 hf hx9 => ?_))
    refine MM.iload rfl d_Ni_listen_18 rfl ?_
    refine MM.aload_n (i := 1) rfl rfl d_Ni_listen_20 rfl ?_
    refine MM.getI 7 t_a1 lays_7 gq_7_0 ww_365 d_Ni_listen_21 rfl ?_
    obtain ⟨m38, m39⟩ := mm_ifE hf
    refine MM.icmp_ge (tgt := 82) d_Ni_listen_24 rfl rfl (fun c37 => ?_) (fun c37 => ?_)
    · replace hf := m38 c37
      obtain rfl := Option.some.inj hf
      obtain rfl := Option.some.inj (mm_wxR hx9)
      exact MM.sub [0, 1, 2, 3, 4] (by rfl) K11
    · replace hf := m39 c37
      refine MM.iload_n (i := 2) rfl rfl d_Ni_listen_27 rfl ?_
      refine MM.iload rfl d_Ni_listen_28 rfl ?_
      obtain ⟨v14, e13, hf⟩ := mm_bind hf
      refine MM.callSN1 (T_X_bit V l x2 s7.2 s1.2 _ e13) (fun _ _ q => q) cal_X_bit rfl ww_763 ww_1136n (by decide) (by simp [Value.category]) d_Ni_listen_30 rfl ⟨rfl, rfl⟩ rfl ?_
      refine MM.iconst ic_1 d_Ni_listen_33 rfl ?_
      obtain ⟨j15, e36, hf⟩ := mm_bind hf
      have K16 : MM V l Y_Ni_listen 3 0 0 Z0 76 [(0, .ref 71), (1, .ref a1), (2, .int x2), (3, .int s1.1), (4, .long j15), (6, .int s7.2)] [] s1.2 := by
        obtain ⟨y34, e35, hf⟩ := mm_letE hf
        refine MM.iinc (k0 := 5) (lv' := [(6, .int y34), (0, .ref 71), (1, .ref a1), (2, .int x2), (3, .int s1.1), (4, .long j15)]) (by rw [ic_1]; exact e35) rfl (Nat.le_of_ble_eq_true rfl) rfl d_Ni_listen_76 rfl ?_
        refine MM.goto (tgt := 18) d_Ni_listen_79 rfl ?_
        obtain rfl := Option.some.inj hf
        have h9 := mm_wxL hx9
        exact MM.sub [1, 2, 3, 4, 5, 0] (by rfl) h9
      clear hf
      have hf := e36
      clear e36
      obtain ⟨m32, m33⟩ := mm_ifE hf
      refine MM.icmp_ne (tgt := 76) d_Ni_listen_34 rfl rfl (fun c31 => ?_) (fun c31 => ?_)
      · replace hf := m33 c31
        obtain rfl := Option.some.inj hf
        exact MM.sub [0, 1, 2, 3, 4, 5] (by rfl) K16
      · replace hf := m32 c31
        refine MM.iload rfl d_Ni_listen_37 rfl ?_
        refine MM.iload_n (i := 3) rfl rfl d_Ni_listen_39 rfl ?_
        obtain ⟨m29, m30⟩ := mm_ifE hf
        refine MM.icmp_eq (tgt := 76) d_Ni_listen_40 rfl rfl (fun c28 => ?_) (fun c28 => ?_)
        · replace hf := m29 c28
          obtain rfl := Option.some.inj hf
          exact MM.sub [0, 1, 2, 3, 4, 5] (by rfl) K16
        · replace hf := m30 c28
          refine MM.aload_n (i := 1) rfl rfl d_Ni_listen_43 rfl ?_
          refine MM.iload rfl d_Ni_listen_44 rfl ?_
          obtain ⟨v18, e17, hf⟩ := mm_bind hf
          refine MM.callV1 (T_To_speaks V l a1 s7.2 s1.2 _ e17) (fun _ _ q => q) cal_To_speaks rfl t_a1 ct_7 ww_961 ww_960 ww_1137 (by decide) (by simp [Value.category]) d_Ni_listen_46 rfl ⟨rfl, rfl⟩ rfl ?_
          obtain ⟨m26, m27⟩ := mm_ifE hf
          refine MM.if_eq (tgt := 76) d_Ni_listen_49 rfl rfl (fun c25 => ?_) (fun c25 => ?_)
          · replace hf := m26 c25
            obtain rfl := Option.some.inj hf
            exact MM.sub [0, 1, 2, 3, 4, 5] (by rfl) K16
          · replace hf := m27 c25
            refine MM.lload rfl d_Ni_listen_52 rfl ?_
            refine MM.bipush bp_10 d_Ni_listen_54 rfl ?_
            refine MM.iconst ic_0 d_Ni_listen_56 rfl ?_
            refine MM.aload_n (i := 1) rfl rfl d_Ni_listen_57 rfl ?_
            refine MM.iload rfl d_Ni_listen_58 rfl ?_
            refine MM.iload_n (i := 3) rfl rfl d_Ni_listen_60 rfl ?_
            obtain ⟨v20, e19, hf⟩ := mm_bind hf
            refine MM.callV1 (T_To_chance V l a1 s7.2 s1.1 s1.2 _ e19) (fun _ _ q => q) cal_To_chance rfl t_a1 ct_7 ww_946 ww_945 ww_1138 (by decide) (by simp [Value.category]) d_Ni_listen_61 rfl ⟨rfl, rfl⟩ rfl ?_
            obtain ⟨v22, e21, hf⟩ := mm_bind hf
            refine MM.callS1 (T_JM_max V l 0 v20 s1.2 _ e21) (fun _ _ q => q) cal_JM_max rfl ww_604 ww_1139 (by decide) (by simp [Value.category]) d_Ni_listen_64 rfl ⟨rfl, rfl⟩ rfl ?_
            refine MM.isub d_Ni_listen_67 rfl ?_
            refine MM.i2l d_Ni_listen_68 rfl ?_
            refine MM.lmul d_Ni_listen_69 rfl ?_
            refine MM.ldc2 ww_1140 d_Ni_listen_70 rfl ?_
            refine MM.ldiv (by decide) d_Ni_listen_73 rfl ?_
            obtain ⟨y23, e24, hf⟩ := mm_letE hf
            refine MM.lstore (lv' := [(4, .long y23), (0, .ref 71), (1, .ref a1), (2, .int x2), (3, .int s1.1), (6, .int s7.2)]) e24 (Nat.le_of_ble_eq_true rfl) rfl d_Ni_listen_74 rfl ?_
            obtain rfl := Option.some.inj hf
            exact MM.sub [1, 2, 3, 4, 0, 5] (by rfl) K16
theorem d_Ni_share_0 : decode cX4_share 0 = .ok (.ldc2_w 31, 3) := by decide +kernel
theorem d_Ni_share_3 : decode cX4_share 3 = .ok (.lstore 4, 2) := by decide +kernel
theorem d_Ni_share_5 : decode cX4_share 5 = .ok (.iconst 0, 1) := by decide +kernel
theorem d_Ni_share_6 : decode cX4_share 6 = .ok (.istore 6, 2) := by decide +kernel
theorem d_Ni_share_8 : decode cX4_share 8 = .ok (.iload 6, 2) := by decide +kernel
theorem d_Ni_share_10 : decode cX4_share 10 = .ok (.aload_n 1, 1) := by decide +kernel
theorem d_Ni_share_11 : decode cX4_share 11 = .ok (.getfield 37, 3) := by decide +kernel
theorem d_Ni_share_14 : decode cX4_share 14 = .ok (.if_icmp .ge 62, 3) := by decide +kernel
theorem d_Ni_share_17 : decode cX4_share 17 = .ok (.iload_n 2, 1) := by decide +kernel
theorem d_Ni_share_18 : decode cX4_share 18 = .ok (.iload 6, 2) := by decide +kernel
theorem d_Ni_share_20 : decode cX4_share 20 = .ok (.invokestatic 57, 3) := by decide +kernel
theorem d_Ni_share_23 : decode cX4_share 23 = .ok (.ifCond .ne 47, 3) := by decide +kernel
theorem d_Ni_share_26 : decode cX4_share 26 = .ok (.iload_n 3, 1) := by decide +kernel
theorem d_Ni_share_27 : decode cX4_share 27 = .ok (.iload 6, 2) := by decide +kernel
theorem d_Ni_share_29 : decode cX4_share 29 = .ok (.invokestatic 57, 3) := by decide +kernel
theorem d_Ni_share_32 : decode cX4_share 32 = .ok (.iconst 1, 1) := by decide +kernel
theorem d_Ni_share_33 : decode cX4_share 33 = .ok (.if_icmp .ne 13, 3) := by decide +kernel
theorem d_Ni_share_36 : decode cX4_share 36 = .ok (.aload_n 0, 1) := by decide +kernel
theorem d_Ni_share_37 : decode cX4_share 37 = .ok (.getfield 18, 3) := by decide +kernel
theorem d_Ni_share_40 : decode cX4_share 40 = .ok (.iload 6, 2) := by decide +kernel
theorem d_Ni_share_42 : decode cX4_share 42 = .ok (.laload, 1) := by decide +kernel
theorem d_Ni_share_43 : decode cX4_share 43 = .ok (.goto 14, 3) := by decide +kernel
theorem d_Ni_share_46 : decode cX4_share 46 = .ok (.ldc2_w 31, 3) := by decide +kernel
theorem d_Ni_share_49 : decode cX4_share 49 = .ok (.aload_n 0, 1) := by decide +kernel
theorem d_Ni_share_50 : decode cX4_share 50 = .ok (.getfield 18, 3) := by decide +kernel
theorem d_Ni_share_53 : decode cX4_share 53 = .ok (.iload 6, 2) := by decide +kernel
theorem d_Ni_share_55 : decode cX4_share 55 = .ok (.laload, 1) := by decide +kernel
theorem d_Ni_share_56 : decode cX4_share 56 = .ok (.lsub, 1) := by decide +kernel
theorem d_Ni_share_57 : decode cX4_share 57 = .ok (.lstore 7, 2) := by decide +kernel
theorem d_Ni_share_59 : decode cX4_share 59 = .ok (.lload 4, 2) := by decide +kernel
theorem d_Ni_share_61 : decode cX4_share 61 = .ok (.lload 7, 2) := by decide +kernel
theorem d_Ni_share_63 : decode cX4_share 63 = .ok (.lmul, 1) := by decide +kernel
theorem d_Ni_share_64 : decode cX4_share 64 = .ok (.ldc2_w 31, 3) := by decide +kernel
theorem d_Ni_share_67 : decode cX4_share 67 = .ok (.ldiv, 1) := by decide +kernel
theorem d_Ni_share_68 : decode cX4_share 68 = .ok (.lstore 4, 2) := by decide +kernel
theorem d_Ni_share_70 : decode cX4_share 70 = .ok (.iinc 6 1, 3) := by decide +kernel
theorem d_Ni_share_73 : decode cX4_share 73 = .ok (.goto (-65), 3) := by decide +kernel
theorem d_Ni_share_76 : decode cX4_share 76 = .ok (.lload 4, 2) := by decide +kernel
theorem d_Ni_share_78 : decode cX4_share 78 = .ok (.lreturn, 1) := by decide +kernel
noncomputable def f_Ni_share (a1 : Nat) (x2 : Int32) (x3 : Int32) (h : mm_H) : Option Int64 := if mm_tg a1 = 7 then ((mm_while (σ := (Int64 × Int32)) (ρ := Int64) (fun s1 => if (h.1 a1 0) ≤ s1.2 then (some (Sum.inr s1.1)) else ((f_X_bit x2 s1.2).bind fun v8 => (if v8 = 0 then ((f_X_bit x3 s1.2).bind fun v12 => (if v12 = 1 then ((mm_ix s1.2 6).bind fun k17 => some (h.2.1 74 k17)) else ((mm_ix s1.2 6).bind fun k15 => some (1000000 - (h.2.1 74 k15))) : Option Int64).bind fun j13 => mm_let ((s1.1 * j13) / 1000000) fun y22 => some y22) else (some s1.1) : Option Int64).bind fun j9 => mm_let (s1.2 + 1) fun y28 => some (Sum.inl (j9, y28)))) (1000000, 0)).bind fun v4 => some v4) else none
theorem T_Ni_share (V : mm_V) (l : Launch) (a1 : Nat) (x2 : Int32) (x3 : Int32) (h : mm_H) (r : Int64) (hf : f_Ni_share a1 x2 x3 h = some r) : MT V l Y_Ni_share 2 [.ref 71, .ref a1, .int x2, .int x3] (fun r1 h1 => r1 = some (.long r) ∧ h1 = h) h := by
  unfold f_Ni_share at hf
  obtain ⟨t_a1, hf⟩ := mm_chkE hf
  refine MT.intro (pn_Ni rfl) [(0, .ref 71), (1, .ref a1), (2, .int x2), (3, .int x3)] rfl (Nat.le_of_ble_eq_true rfl) ?_
  generalize hZ : mm_Z V _ = Z0
  refine MM.ldc2 ww_1127 d_Ni_share_0 rfl ?_
  refine MM.lstore (lv' := [(4, .long 1000000), (0, .ref 71), (1, .ref a1), (2, .int x2), (3, .int x3)]) rfl (Nat.le_of_ble_eq_true rfl) rfl d_Ni_share_3 rfl ?_
  refine MM.iconst ic_0 d_Ni_share_5 rfl ?_
  refine MM.istore (lv' := [(6, .int 0), (4, .long 1000000), (0, .ref 71), (1, .ref a1), (2, .int x2), (3, .int x3)]) rfl (Nat.le_of_ble_eq_true rfl) rfl d_Ni_share_6 rfl ?_
  obtain ⟨v4, e6, hf⟩ := mm_bind hf
  have K5 : MM V l Y_Ni_share 2 0 0 Z0 76 [(4, .long v4)] [] h := by
    refine MM.lload rfl d_Ni_share_76 rfl ?_
    obtain rfl := Option.some.inj hf
    subst hZ
    exact MM.lret rfl d_Ni_share_78 ⟨rfl, rfl⟩
  clear hf
  refine MM.sub [2, 3, 4, 5, 1, 0] (by rfl) (mm_while_ind (fun s1 => MM V l Y_Ni_share 2 0 0 Z0 8 [(0, .ref 71), (1, .ref a1), (2, .int x2), (3, .int x3), (4, .long s1.1), (6, .int s1.2)] [] h) e6 (fun s1 q2 hf hx3 => ?_))
  refine MM.iload rfl d_Ni_share_8 rfl ?_
  refine MM.aload_n (i := 1) rfl rfl d_Ni_share_10 rfl ?_
  refine MM.getI 7 t_a1 lays_7 gq_7_0 ww_365 d_Ni_share_11 rfl ?_
  obtain ⟨m32, m33⟩ := mm_ifE hf
  refine MM.icmp_ge (tgt := 76) d_Ni_share_14 rfl rfl (fun c31 => ?_) (fun c31 => ?_)
  · replace hf := m32 c31
    obtain rfl := Option.some.inj hf
    obtain rfl := Option.some.inj (mm_wxR hx3)
    exact MM.sub [4] (by rfl) K5
  · replace hf := m33 c31
    refine MM.iload_n (i := 2) rfl rfl d_Ni_share_17 rfl ?_
    refine MM.iload rfl d_Ni_share_18 rfl ?_
    obtain ⟨v8, e7, hf⟩ := mm_bind hf
    refine MM.callSN1 (T_X_bit V l x2 s1.2 h _ e7) (fun _ _ q => q) cal_X_bit rfl ww_763 ww_1136n (by decide) (by simp [Value.category]) d_Ni_share_20 rfl ⟨rfl, rfl⟩ rfl ?_
    obtain ⟨j9, e30, hf⟩ := mm_bind hf
    have K10 : MM V l Y_Ni_share 2 0 0 Z0 70 [(0, .ref 71), (1, .ref a1), (2, .int x2), (3, .int x3), (4, .long j9), (6, .int s1.2)] [] h := by
      obtain ⟨y28, e29, hf⟩ := mm_letE hf
      refine MM.iinc (k0 := 5) (lv' := [(6, .int y28), (0, .ref 71), (1, .ref a1), (2, .int x2), (3, .int x3), (4, .long j9)]) (by rw [ic_1]; exact e29) rfl (Nat.le_of_ble_eq_true rfl) rfl d_Ni_share_70 rfl ?_
      refine MM.goto (tgt := 8) d_Ni_share_73 rfl ?_
      obtain rfl := Option.some.inj hf
      have h9 := mm_wxL hx3
      exact MM.sub [1, 2, 3, 4, 5, 0] (by rfl) h9
    clear hf
    have hf := e30
    clear e30
    obtain ⟨m26, m27⟩ := mm_ifE hf
    refine MM.if_ne (tgt := 70) d_Ni_share_23 rfl rfl (fun c25 => ?_) (fun c25 => ?_)
    · replace hf := m27 c25
      obtain rfl := Option.some.inj hf
      exact MM.sub [0, 1, 2, 3, 4, 5] (by rfl) K10
    · replace hf := m26 c25
      refine MM.iload_n (i := 3) rfl rfl d_Ni_share_26 rfl ?_
      refine MM.iload rfl d_Ni_share_27 rfl ?_
      obtain ⟨v12, e11, hf⟩ := mm_bind hf
      refine MM.callSN1 (T_X_bit V l x3 s1.2 h _ e11) (fun _ _ q => q) cal_X_bit rfl ww_763 ww_1136n (by decide) (by simp [Value.category]) d_Ni_share_29 rfl ⟨rfl, rfl⟩ rfl ?_
      refine MM.iconst ic_1 d_Ni_share_32 rfl ?_
      obtain ⟨j13, e24, hf⟩ := mm_bind hf
      have K14 : MM V l Y_Ni_share 2 0 0 Z0 57 [(0, .ref 71), (1, .ref a1), (2, .int x2), (3, .int x3), (4, .long s1.1), (6, .int s1.2)] [.long j13] h := by
        refine MM.lstore (lv' := [(7, .long j13), (0, .ref 71), (1, .ref a1), (2, .int x2), (3, .int x3), (4, .long s1.1), (6, .int s1.2)]) rfl (Nat.le_of_ble_eq_true rfl) rfl d_Ni_share_57 rfl ?_
        refine MM.lload rfl d_Ni_share_59 rfl ?_
        refine MM.lload rfl d_Ni_share_61 rfl ?_
        refine MM.lmul d_Ni_share_63 rfl ?_
        refine MM.ldc2 ww_1127 d_Ni_share_64 rfl ?_
        refine MM.ldiv (by decide) d_Ni_share_67 rfl ?_
        obtain ⟨y22, e23, hf⟩ := mm_letE hf
        refine MM.lstore (lv' := [(4, .long y22), (7, .long j13), (0, .ref 71), (1, .ref a1), (2, .int x2), (3, .int x3), (6, .int s1.2)]) e23 (Nat.le_of_ble_eq_true rfl) rfl d_Ni_share_68 rfl ?_
        obtain rfl := Option.some.inj hf
        exact MM.sub [2, 3, 4, 5, 0, 6] (by rfl) K10
      clear hf
      have hf := e24
      clear e24
      obtain ⟨m20, m21⟩ := mm_ifE hf
      refine MM.icmp_ne (tgt := 46) d_Ni_share_33 rfl rfl (fun c19 => ?_) (fun c19 => ?_)
      · replace hf := m21 c19
        refine MM.ldc2 ww_1127 d_Ni_share_46 rfl ?_
        refine MM.aload_n (i := 0) rfl rfl d_Ni_share_49 rfl ?_
        refine MM.gR 3 3 tg_71 rq_3_2 rfl lays_3 ww_327 d_Ni_share_50 rfl ?_
        refine MM.iload rfl d_Ni_share_53 rfl ?_
        obtain ⟨k15, e16, hf⟩ := mm_bind hf
        refine MM.gL e16 al_74 d_Ni_share_55 rfl ?_
        refine MM.lsub d_Ni_share_56 rfl ?_
        obtain rfl := Option.some.inj hf
        exact MM.sub [0, 1, 2, 3, 4, 5] (by rfl) K14
      · replace hf := m20 c19
        refine MM.aload_n (i := 0) rfl rfl d_Ni_share_36 rfl ?_
        refine MM.gR 3 3 tg_71 rq_3_2 rfl lays_3 ww_327 d_Ni_share_37 rfl ?_
        refine MM.iload rfl d_Ni_share_40 rfl ?_
        obtain ⟨k17, e18, hf⟩ := mm_bind hf
        refine MM.gL e18 al_74 d_Ni_share_42 rfl ?_
        refine MM.goto (tgt := 57) d_Ni_share_43 rfl ?_
        obtain rfl := Option.some.inj hf
        exact MM.sub [0, 1, 2, 3, 4, 5] (by rfl) K14
theorem d_Ni_spread_0 : decode cX4_spread 0 = .ok (.iload_n 2, 1) := by decide +kernel
theorem d_Ni_spread_1 : decode cX4_spread 1 = .ok (.istore 4, 2) := by decide +kernel
theorem d_Ni_spread_3 : decode cX4_spread 3 = .ok (.iload 4, 2) := by decide +kernel
theorem d_Ni_spread_5 : decode cX4_spread 5 = .ok (.iload_n 3, 1) := by decide +kernel
theorem d_Ni_spread_6 : decode cX4_spread 6 = .ok (.if_icmp .ge 46, 3) := by decide +kernel
theorem d_Ni_spread_9 : decode cX4_spread 9 = .ok (.iload 4, 2) := by decide +kernel
theorem d_Ni_spread_11 : decode cX4_spread 11 = .ok (.iload_n 2, 1) := by decide +kernel
theorem d_Ni_spread_12 : decode cX4_spread 12 = .ok (.iand, 1) := by decide +kernel
theorem d_Ni_spread_13 : decode cX4_spread 13 = .ok (.iload_n 2, 1) := by decide +kernel
theorem d_Ni_spread_14 : decode cX4_spread 14 = .ok (.if_icmp .ne 32, 3) := by decide +kernel
theorem d_Ni_spread_17 : decode cX4_spread 17 = .ok (.aload_n 0, 1) := by decide +kernel
theorem d_Ni_spread_18 : decode cX4_spread 18 = .ok (.getfield 15, 3) := by decide +kernel
theorem d_Ni_spread_21 : decode cX4_spread 21 = .ok (.iload 4, 2) := by decide +kernel
theorem d_Ni_spread_23 : decode cX4_spread 23 = .ok (.dup2, 1) := by decide +kernel
theorem d_Ni_spread_24 : decode cX4_spread 24 = .ok (.laload, 1) := by decide +kernel
theorem d_Ni_spread_25 : decode cX4_spread 25 = .ok (.aload_n 0, 1) := by decide +kernel
theorem d_Ni_spread_26 : decode cX4_spread 26 = .ok (.aload_n 1, 1) := by decide +kernel
theorem d_Ni_spread_27 : decode cX4_spread 27 = .ok (.iload_n 2, 1) := by decide +kernel
theorem d_Ni_spread_28 : decode cX4_spread 28 = .ok (.iload 4, 2) := by decide +kernel
theorem d_Ni_spread_30 : decode cX4_spread 30 = .ok (.invokevirtual 75, 3) := by decide +kernel
theorem d_Ni_spread_33 : decode cX4_spread 33 = .ok (.aload_n 0, 1) := by decide +kernel
theorem d_Ni_spread_34 : decode cX4_spread 34 = .ok (.getfield 9, 3) := by decide +kernel
theorem d_Ni_spread_37 : decode cX4_spread 37 = .ok (.iload_n 2, 1) := by decide +kernel
theorem d_Ni_spread_38 : decode cX4_spread 38 = .ok (.laload, 1) := by decide +kernel
theorem d_Ni_spread_39 : decode cX4_spread 39 = .ok (.lmul, 1) := by decide +kernel
theorem d_Ni_spread_40 : decode cX4_spread 40 = .ok (.ldc2_w 31, 3) := by decide +kernel
theorem d_Ni_spread_43 : decode cX4_spread 43 = .ok (.ldiv, 1) := by decide +kernel
theorem d_Ni_spread_44 : decode cX4_spread 44 = .ok (.ladd, 1) := by decide +kernel
theorem d_Ni_spread_45 : decode cX4_spread 45 = .ok (.lastore, 1) := by decide +kernel
theorem d_Ni_spread_46 : decode cX4_spread 46 = .ok (.iinc 4 1, 3) := by decide +kernel
theorem d_Ni_spread_49 : decode cX4_spread 49 = .ok (.goto (-46), 3) := by decide +kernel
theorem d_Ni_spread_52 : decode cX4_spread 52 = .ok (.return_, 1) := by decide +kernel
noncomputable def f_Ni_spread (a1 : Nat) (x2 : Int32) (x3 : Int32) (h : mm_H) : Option mm_H := if mm_tg a1 = 7 then ((mm_while (σ := (Int32 × mm_H)) (ρ := mm_H) (fun s1 => if x3 ≤ s1.1 then (some (Sum.inr s1.2)) else ((if (s1.1 &&& x2) = x2 then ((mm_ix s1.1 64).bind fun k9 => (f_Ni_share a1 x2 s1.1 s1.2).bind fun v12 => (mm_ix x2 64).bind fun k13 => (mm_ix s1.1 64).bind fun k15 => mm_let (mm_pL s1.2 73 k15 ((s1.2.2.1 73 k9) + ((v12 * (s1.2.2.1 72 k13)) / 1000000))) fun h17 => some h17) else (some s1.2) : Option mm_H).bind fun j7 => mm_let (s1.1 + 1) fun y22 => some (Sum.inl (y22, j7)))) (x2, h)).bind fun v4 => some v4) else none
theorem T_Ni_spread (V : mm_V) (l : Launch) (a1 : Nat) (x2 : Int32) (x3 : Int32) (h : mm_H) (r : mm_H) (hf : f_Ni_spread a1 x2 x3 h = some r) : MT V l Y_Ni_spread 3 [.ref 71, .ref a1, .int x2, .int x3] (fun r1 h1 => r1 = none ∧ h1 = r) h := by
  unfold f_Ni_spread at hf
  obtain ⟨t_a1, hf⟩ := mm_chkE hf
  refine MT.intro (pn_Ni rfl) [(0, .ref 71), (1, .ref a1), (2, .int x2), (3, .int x3)] rfl (Nat.le_of_ble_eq_true rfl) ?_
  generalize hZ : mm_Z V _ = Z0
  refine MM.iload_n (i := 2) rfl rfl d_Ni_spread_0 rfl ?_
  refine MM.istore (lv' := [(4, .int x2), (0, .ref 71), (1, .ref a1), (2, .int x2), (3, .int x3)]) rfl (Nat.le_of_ble_eq_true rfl) rfl d_Ni_spread_1 rfl ?_
  obtain ⟨v4, e6, hf⟩ := mm_bind hf
  have K5 : MM V l Y_Ni_spread 3 0 0 Z0 52 [] [] v4 := by
    obtain rfl := Option.some.inj hf
    subst hZ
    exact MM.vret rfl d_Ni_spread_52 ⟨rfl, rfl⟩
  clear hf
  refine MM.sub [1, 2, 3, 4, 0] (by rfl) (mm_while_ind (fun s1 => MM V l Y_Ni_spread 3 0 0 Z0 3 [(0, .ref 71), (1, .ref a1), (2, .int x2), (3, .int x3), (4, .int s1.1)] [] s1.2) e6 (fun s1 q2 hf hx3 => ?_))
  refine MM.iload rfl d_Ni_spread_3 rfl ?_
  refine MM.iload_n (i := 3) rfl rfl d_Ni_spread_5 rfl ?_
  obtain ⟨m26, m27⟩ := mm_ifE hf
  refine MM.icmp_ge (tgt := 52) d_Ni_spread_6 rfl rfl (fun c25 => ?_) (fun c25 => ?_)
  · replace hf := m26 c25
    obtain rfl := Option.some.inj hf
    obtain rfl := Option.some.inj (mm_wxR hx3)
    exact MM.sub [] (by rfl) K5
  · replace hf := m27 c25
    refine MM.iload rfl d_Ni_spread_9 rfl ?_
    refine MM.iload_n (i := 2) rfl rfl d_Ni_spread_11 rfl ?_
    refine MM.iand d_Ni_spread_12 rfl ?_
    refine MM.iload_n (i := 2) rfl rfl d_Ni_spread_13 rfl ?_
    obtain ⟨j7, e24, hf⟩ := mm_bind hf
    have K8 : MM V l Y_Ni_spread 3 0 0 Z0 46 [(0, .ref 71), (1, .ref a1), (2, .int x2), (3, .int x3), (4, .int s1.1)] [] j7 := by
      obtain ⟨y22, e23, hf⟩ := mm_letE hf
      refine MM.iinc (k0 := 4) (lv' := [(4, .int y22), (0, .ref 71), (1, .ref a1), (2, .int x2), (3, .int x3)]) (by rw [ic_1]; exact e23) rfl (Nat.le_of_ble_eq_true rfl) rfl d_Ni_spread_46 rfl ?_
      refine MM.goto (tgt := 3) d_Ni_spread_49 rfl ?_
      obtain rfl := Option.some.inj hf
      have h9 := mm_wxL hx3
      exact MM.sub [1, 2, 3, 4, 0] (by rfl) h9
    clear hf
    have hf := e24
    clear e24
    obtain ⟨m20, m21⟩ := mm_ifE hf
    refine MM.icmp_ne (tgt := 46) d_Ni_spread_14 rfl rfl (fun c19 => ?_) (fun c19 => ?_)
    · replace hf := m21 c19
      obtain rfl := Option.some.inj hf
      exact MM.sub [0, 1, 2, 3, 4] (by rfl) K8
    · replace hf := m20 c19
      refine MM.aload_n (i := 0) rfl rfl d_Ni_spread_17 rfl ?_
      refine MM.gR 3 2 tg_71 rq_3_1 rfl lays_3 ww_326 d_Ni_spread_18 rfl ?_
      refine MM.iload rfl d_Ni_spread_21 rfl ?_
      refine MM.dup2 rfl rfl d_Ni_spread_23 rfl ?_
      obtain ⟨k9, e10, hf⟩ := mm_bind hf
      refine MM.gL e10 al_73 d_Ni_spread_24 rfl ?_
      refine MM.aload_n (i := 0) rfl rfl d_Ni_spread_25 rfl ?_
      refine MM.aload_n (i := 1) rfl rfl d_Ni_spread_26 rfl ?_
      refine MM.iload_n (i := 2) rfl rfl d_Ni_spread_27 rfl ?_
      refine MM.iload rfl d_Ni_spread_28 rfl ?_
      obtain ⟨v12, e11, hf⟩ := mm_bind hf
      refine MM.callV1 (T_Ni_share V l a1 x2 s1.1 s1.2 _ e11) (fun _ _ q => q) cal_Ni_share rfl tg_71 ct_3 ww_21 ww_1147 ww_1145 (by decide) (by simp [Value.category]) d_Ni_spread_30 rfl ⟨rfl, rfl⟩ rfl ?_
      refine MM.aload_n (i := 0) rfl rfl d_Ni_spread_33 rfl ?_
      refine MM.gR 3 1 tg_71 rq_3_0 rfl lays_3 ww_325 d_Ni_spread_34 rfl ?_
      refine MM.iload_n (i := 2) rfl rfl d_Ni_spread_37 rfl ?_
      obtain ⟨k13, e14, hf⟩ := mm_bind hf
      refine MM.gL e14 al_72 d_Ni_spread_38 rfl ?_
      refine MM.lmul d_Ni_spread_39 rfl ?_
      refine MM.ldc2 ww_1127 d_Ni_spread_40 rfl ?_
      refine MM.ldiv (by decide) d_Ni_spread_43 rfl ?_
      refine MM.ladd d_Ni_spread_44 rfl ?_
      obtain ⟨k15, e16, hf⟩ := mm_bind hf
      obtain ⟨h17, e18, hf⟩ := mm_letE hf
      refine MM.sL e16 e18 al_73 d_Ni_spread_45 rfl ?_
      obtain rfl := Option.some.inj hf
      exact MM.sub [0, 1, 2, 3, 4] (by rfl) K8
theorem d_Ni_passOne_0 : decode cX4_passOne 0 = .ok (.iconst 1, 1) := by decide +kernel
theorem d_Ni_passOne_1 : decode cX4_passOne 1 = .ok (.aload_n 1, 1) := by decide +kernel
theorem d_Ni_passOne_2 : decode cX4_passOne 2 = .ok (.getfield 37, 3) := by decide +kernel
theorem d_Ni_passOne_5 : decode cX4_passOne 5 = .ok (.ishl, 1) := by decide +kernel
theorem d_Ni_passOne_6 : decode cX4_passOne 6 = .ok (.istore_n 2, 1) := by decide +kernel
theorem d_Ni_passOne_7 : decode cX4_passOne 7 = .ok (.aload_n 0, 1) := by decide +kernel
theorem d_Ni_passOne_8 : decode cX4_passOne 8 = .ok (.getfield 15, 3) := by decide +kernel
theorem d_Ni_passOne_11 : decode cX4_passOne 11 = .ok (.lconst 0, 1) := by decide +kernel
theorem d_Ni_passOne_12 : decode cX4_passOne 12 = .ok (.invokestatic 25, 3) := by decide +kernel
theorem d_Ni_passOne_15 : decode cX4_passOne 15 = .ok (.iconst 0, 1) := by decide +kernel
theorem d_Ni_passOne_16 : decode cX4_passOne 16 = .ok (.istore_n 3, 1) := by decide +kernel
theorem d_Ni_passOne_17 : decode cX4_passOne 17 = .ok (.iload_n 3, 1) := by decide +kernel
theorem d_Ni_passOne_18 : decode cX4_passOne 18 = .ok (.iload_n 2, 1) := by decide +kernel
theorem d_Ni_passOne_19 : decode cX4_passOne 19 = .ok (.if_icmp .ge 33, 3) := by decide +kernel
theorem d_Ni_passOne_22 : decode cX4_passOne 22 = .ok (.aload_n 0, 1) := by decide +kernel
theorem d_Ni_passOne_23 : decode cX4_passOne 23 = .ok (.getfield 9, 3) := by decide +kernel
theorem d_Ni_passOne_26 : decode cX4_passOne 26 = .ok (.iload_n 3, 1) := by decide +kernel
theorem d_Ni_passOne_27 : decode cX4_passOne 27 = .ok (.laload, 1) := by decide +kernel
theorem d_Ni_passOne_28 : decode cX4_passOne 28 = .ok (.lconst 0, 1) := by decide +kernel
theorem d_Ni_passOne_29 : decode cX4_passOne 29 = .ok (.lcmp, 1) := by decide +kernel
theorem d_Ni_passOne_30 : decode cX4_passOne 30 = .ok (.ifCond .le 16, 3) := by decide +kernel
theorem d_Ni_passOne_33 : decode cX4_passOne 33 = .ok (.aload_n 0, 1) := by decide +kernel
theorem d_Ni_passOne_34 : decode cX4_passOne 34 = .ok (.aload_n 1, 1) := by decide +kernel
theorem d_Ni_passOne_35 : decode cX4_passOne 35 = .ok (.iload_n 3, 1) := by decide +kernel
theorem d_Ni_passOne_36 : decode cX4_passOne 36 = .ok (.invokevirtual 43, 3) := by decide +kernel
theorem d_Ni_passOne_39 : decode cX4_passOne 39 = .ok (.aload_n 0, 1) := by decide +kernel
theorem d_Ni_passOne_40 : decode cX4_passOne 40 = .ok (.aload_n 1, 1) := by decide +kernel
theorem d_Ni_passOne_41 : decode cX4_passOne 41 = .ok (.iload_n 3, 1) := by decide +kernel
theorem d_Ni_passOne_42 : decode cX4_passOne 42 = .ok (.iload_n 2, 1) := by decide +kernel
theorem d_Ni_passOne_43 : decode cX4_passOne 43 = .ok (.invokevirtual 47, 3) := by decide +kernel
theorem d_Ni_passOne_46 : decode cX4_passOne 46 = .ok (.iinc 3 1, 3) := by decide +kernel
theorem d_Ni_passOne_49 : decode cX4_passOne 49 = .ok (.goto (-32), 3) := by decide +kernel
theorem d_Ni_passOne_52 : decode cX4_passOne 52 = .ok (.aload_n 0, 1) := by decide +kernel
theorem d_Ni_passOne_53 : decode cX4_passOne 53 = .ok (.getfield 15, 3) := by decide +kernel
theorem d_Ni_passOne_56 : decode cX4_passOne 56 = .ok (.iconst 0, 1) := by decide +kernel
theorem d_Ni_passOne_57 : decode cX4_passOne 57 = .ok (.aload_n 0, 1) := by decide +kernel
theorem d_Ni_passOne_58 : decode cX4_passOne 58 = .ok (.getfield 9, 3) := by decide +kernel
theorem d_Ni_passOne_61 : decode cX4_passOne 61 = .ok (.iconst 0, 1) := by decide +kernel
theorem d_Ni_passOne_62 : decode cX4_passOne 62 = .ok (.bipush 64, 2) := by decide +kernel
theorem d_Ni_passOne_64 : decode cX4_passOne 64 = .ok (.invokestatic 51, 3) := by decide +kernel
theorem d_Ni_passOne_67 : decode cX4_passOne 67 = .ok (.return_, 1) := by decide +kernel
noncomputable def f_Ni_passOne (a1 : Nat) (h : mm_H) : Option mm_H := if mm_tg a1 = 7 then (mm_let ((1 : Int32) <<< ((h.1 a1 0) &&& 31)) fun y1 => (f_JA_fill_AJJV 73 (0 : Int64) h).bind fun v4 => (mm_while (σ := (Int32 × mm_H)) (ρ := mm_H) (fun s5 => if y1 ≤ s5.1 then (some (Sum.inr s5.2)) else ((mm_ix s5.1 64).bind fun k11 => (if (lg_cmp (s5.2.2.1 72 k11) 0) ≤ 0 then (some s5.2) else ((f_Ni_listen a1 s5.1 s5.2).bind fun v16 => (f_Ni_spread a1 s5.1 y1 v16).bind fun v18 => some v18) : Option mm_H).bind fun j13 => mm_let (s5.1 + 1) fun y22 => some (Sum.inl (y22, j13)))) (0, v4)).bind fun v8 => mm_let (mm_cpL v8 73 72 64) fun h28 => some h28) else none
theorem T_Ni_passOne (V : mm_V) (l : Launch) (a1 : Nat) (h : mm_H) (r : mm_H) (hf : f_Ni_passOne a1 h = some r) : MT V l Y_Ni_passOne 4 [.ref 71, .ref a1] (fun r1 h1 => r1 = none ∧ h1 = r) h := by
  unfold f_Ni_passOne at hf
  obtain ⟨t_a1, hf⟩ := mm_chkE hf
  refine MT.intro (pn_Ni rfl) [(0, .ref 71), (1, .ref a1)] rfl (Nat.le_of_ble_eq_true rfl) ?_
  generalize hZ : mm_Z V _ = Z0
  refine MM.iconst ic_1 d_Ni_passOne_0 rfl ?_
  refine MM.aload_n (i := 1) rfl rfl d_Ni_passOne_1 rfl ?_
  refine MM.getI 7 t_a1 lays_7 gq_7_0 ww_365 d_Ni_passOne_2 rfl ?_
  refine MM.ishl d_Ni_passOne_5 rfl ?_
  obtain ⟨y1, e2, hf⟩ := mm_letE hf
  refine MM.istore_n (i := 2) (lv' := [(2, .int y1), (0, .ref 71), (1, .ref a1)]) e2 rfl (Nat.le_of_ble_eq_true rfl) rfl d_Ni_passOne_6 rfl ?_
  refine MM.aload_n (i := 0) rfl rfl d_Ni_passOne_7 rfl ?_
  refine MM.gR 3 2 tg_71 rq_3_1 rfl lays_3 ww_326 d_Ni_passOne_8 rfl ?_
  refine MM.lconst (v := 0) rfl d_Ni_passOne_11 rfl ?_
  obtain ⟨v4, e3, hf⟩ := mm_bind hf
  refine MM.callS0 (T_JA_fill_AJJV V l 73 (0 : Int64) h _ e3) (fun _ _ q => q) cal_JA_fill_AJJV rfl ww_830 ww_1126 (by decide) (by simp [Value.category]) d_Ni_passOne_12 rfl ⟨rfl, rfl⟩ rfl ?_
  refine MM.iconst ic_0 d_Ni_passOne_15 rfl ?_
  refine MM.istore_n (i := 3) (lv' := [(3, .int 0), (2, .int y1), (0, .ref 71), (1, .ref a1)]) rfl rfl (Nat.le_of_ble_eq_true rfl) rfl d_Ni_passOne_16 rfl ?_
  obtain ⟨v8, e10, hf⟩ := mm_bind hf
  have K9 : MM V l Y_Ni_passOne 4 0 0 Z0 52 [(0, .ref 71)] [] v8 := by
    refine MM.aload_n (i := 0) rfl rfl d_Ni_passOne_52 rfl ?_
    refine MM.gR 3 2 tg_71 rq_3_1 rfl lays_3 ww_326 d_Ni_passOne_53 rfl ?_
    refine MM.iconst ic_0 d_Ni_passOne_56 rfl ?_
    refine MM.aload_n (i := 0) rfl rfl d_Ni_passOne_57 rfl ?_
    refine MM.gR 3 1 tg_71 rq_3_0 rfl lays_3 ww_325 d_Ni_passOne_58 rfl ?_
    refine MM.iconst ic_0 d_Ni_passOne_61 rfl ?_
    refine MM.bipush bp_64 d_Ni_passOne_62 rfl ?_
    obtain ⟨h28, e29, hf⟩ := mm_letE hf
    refine MM.copyL (n := 64) e29 al_73 al_72 ww_1149 ww_828 ww_827 ww_130 (by decide) (by decide) (by decide +kernel) (by decide) (by decide) d_Ni_passOne_64 rfl ?_
    obtain rfl := Option.some.inj hf
    subst hZ
    exact MM.vret rfl d_Ni_passOne_67 ⟨rfl, rfl⟩
  clear hf
  refine MM.sub [2, 3, 1, 0] (by rfl) (mm_while_ind (fun s5 => MM V l Y_Ni_passOne 4 0 0 Z0 17 [(0, .ref 71), (1, .ref a1), (2, .int y1), (3, .int s5.1)] [] s5.2) e10 (fun s5 q6 hf hx7 => ?_))
  refine MM.iload_n (i := 3) rfl rfl d_Ni_passOne_17 rfl ?_
  refine MM.iload_n (i := 2) rfl rfl d_Ni_passOne_18 rfl ?_
  obtain ⟨m26, m27⟩ := mm_ifE hf
  refine MM.icmp_ge (tgt := 52) d_Ni_passOne_19 rfl rfl (fun c25 => ?_) (fun c25 => ?_)
  · replace hf := m26 c25
    obtain rfl := Option.some.inj hf
    obtain rfl := Option.some.inj (mm_wxR hx7)
    exact MM.sub [0] (by rfl) K9
  · replace hf := m27 c25
    refine MM.aload_n (i := 0) rfl rfl d_Ni_passOne_22 rfl ?_
    refine MM.gR 3 1 tg_71 rq_3_0 rfl lays_3 ww_325 d_Ni_passOne_23 rfl ?_
    refine MM.iload_n (i := 3) rfl rfl d_Ni_passOne_26 rfl ?_
    obtain ⟨k11, e12, hf⟩ := mm_bind hf
    refine MM.gL e12 al_72 d_Ni_passOne_27 rfl ?_
    refine MM.lconst (v := 0) rfl d_Ni_passOne_28 rfl ?_
    refine MM.lcmp d_Ni_passOne_29 rfl ?_
    obtain ⟨j13, e24, hf⟩ := mm_bind hf
    have K14 : MM V l Y_Ni_passOne 4 0 0 Z0 46 [(0, .ref 71), (1, .ref a1), (2, .int y1), (3, .int s5.1)] [] j13 := by
      obtain ⟨y22, e23, hf⟩ := mm_letE hf
      refine MM.iinc (k0 := 3) (lv' := [(3, .int y22), (0, .ref 71), (1, .ref a1), (2, .int y1)]) (by rw [ic_1]; exact e23) rfl (Nat.le_of_ble_eq_true rfl) rfl d_Ni_passOne_46 rfl ?_
      refine MM.goto (tgt := 17) d_Ni_passOne_49 rfl ?_
      obtain rfl := Option.some.inj hf
      have h9 := mm_wxL hx7
      exact MM.sub [1, 2, 3, 0] (by rfl) h9
    clear hf
    have hf := e24
    clear e24
    obtain ⟨m20, m21⟩ := mm_ifE hf
    refine MM.if_le (tgt := 46) d_Ni_passOne_30 rfl rfl (fun c19 => ?_) (fun c19 => ?_)
    · replace hf := m20 c19
      obtain rfl := Option.some.inj hf
      exact MM.sub [0, 1, 2, 3] (by rfl) K14
    · replace hf := m21 c19
      refine MM.aload_n (i := 0) rfl rfl d_Ni_passOne_33 rfl ?_
      refine MM.aload_n (i := 1) rfl rfl d_Ni_passOne_34 rfl ?_
      refine MM.iload_n (i := 3) rfl rfl d_Ni_passOne_35 rfl ?_
      obtain ⟨v16, e15, hf⟩ := mm_bind hf
      refine MM.callV0 (T_Ni_listen V l a1 s5.1 s5.2 _ e15) (fun _ _ q => q) cal_Ni_listen rfl tg_71 ct_3 ww_19 ww_1134 ww_1132 (by decide) (by simp [Value.category]) d_Ni_passOne_36 rfl ⟨rfl, rfl⟩ rfl ?_
      refine MM.aload_n (i := 0) rfl rfl d_Ni_passOne_39 rfl ?_
      refine MM.aload_n (i := 1) rfl rfl d_Ni_passOne_40 rfl ?_
      refine MM.iload_n (i := 3) rfl rfl d_Ni_passOne_41 rfl ?_
      refine MM.iload_n (i := 2) rfl rfl d_Ni_passOne_42 rfl ?_
      obtain ⟨v18, e17, hf⟩ := mm_bind hf
      refine MM.callV0 (T_Ni_spread V l a1 s5.1 y1 v16 _ e17) (fun _ _ q => q) cal_Ni_spread rfl tg_71 ct_3 ww_20 ww_1143 ww_1141 (by decide) (by simp [Value.category]) d_Ni_passOne_43 rfl ⟨rfl, rfl⟩ rfl ?_
      obtain rfl := Option.some.inj hf
      exact MM.sub [0, 1, 2, 3] (by rfl) K14
theorem d_Ni_pass_0 : decode cX4_pass 0 = .ok (.aload_n 0, 1) := by decide +kernel
theorem d_Ni_pass_1 : decode cX4_pass 1 = .ok (.getfield 9, 3) := by decide +kernel
theorem d_Ni_pass_4 : decode cX4_pass 4 = .ok (.lconst 0, 1) := by decide +kernel
theorem d_Ni_pass_5 : decode cX4_pass 5 = .ok (.invokestatic 25, 3) := by decide +kernel
theorem d_Ni_pass_8 : decode cX4_pass 8 = .ok (.aload_n 0, 1) := by decide +kernel
theorem d_Ni_pass_9 : decode cX4_pass 9 = .ok (.getfield 9, 3) := by decide +kernel
theorem d_Ni_pass_12 : decode cX4_pass 12 = .ok (.iload_n 2, 1) := by decide +kernel
theorem d_Ni_pass_13 : decode cX4_pass 13 = .ok (.ldc2_w 31, 3) := by decide +kernel
theorem d_Ni_pass_16 : decode cX4_pass 16 = .ok (.lastore, 1) := by decide +kernel
theorem d_Ni_pass_17 : decode cX4_pass 17 = .ok (.iconst 0, 1) := by decide +kernel
theorem d_Ni_pass_18 : decode cX4_pass 18 = .ok (.istore 4, 2) := by decide +kernel
theorem d_Ni_pass_20 : decode cX4_pass 20 = .ok (.iload 4, 2) := by decide +kernel
theorem d_Ni_pass_22 : decode cX4_pass 22 = .ok (.iload_n 3, 1) := by decide +kernel
theorem d_Ni_pass_23 : decode cX4_pass 23 = .ok (.if_icmp .ge 14, 3) := by decide +kernel
theorem d_Ni_pass_26 : decode cX4_pass 26 = .ok (.aload_n 0, 1) := by decide +kernel
theorem d_Ni_pass_27 : decode cX4_pass 27 = .ok (.aload_n 1, 1) := by decide +kernel
theorem d_Ni_pass_28 : decode cX4_pass 28 = .ok (.invokevirtual 33, 3) := by decide +kernel
theorem d_Ni_pass_31 : decode cX4_pass 31 = .ok (.iinc 4 1, 3) := by decide +kernel
theorem d_Ni_pass_34 : decode cX4_pass 34 = .ok (.goto (-14), 3) := by decide +kernel
theorem d_Ni_pass_37 : decode cX4_pass 37 = .ok (.return_, 1) := by decide +kernel
noncomputable def f_Ni_pass (a1 : Nat) (x2 : Int32) (x3 : Int32) (h : mm_H) : Option mm_H := if mm_tg a1 = 7 then ((f_JA_fill_AJJV 72 (0 : Int64) h).bind fun v2 => (mm_ix x2 64).bind fun k3 => mm_let (mm_pL v2 72 k3 1000000) fun h5 => (mm_while (σ := (Int32 × mm_H)) (ρ := mm_H) (fun s7 => if x3 ≤ s7.1 then (some (Sum.inr s7.2)) else ((f_Ni_passOne a1 s7.2).bind fun v14 => mm_let (s7.1 + 1) fun y15 => some (Sum.inl (y15, v14)))) (0, h5)).bind fun v10 => some v10) else none
theorem T_Ni_pass (V : mm_V) (l : Launch) (a1 : Nat) (x2 : Int32) (x3 : Int32) (h : mm_H) (r : mm_H) (hf : f_Ni_pass a1 x2 x3 h = some r) : MT V l Y_Ni_pass 5 [.ref 71, .ref a1, .int x2, .int x3] (fun r1 h1 => r1 = none ∧ h1 = r) h := by
  unfold f_Ni_pass at hf
  obtain ⟨t_a1, hf⟩ := mm_chkE hf
  refine MT.intro (pn_Ni rfl) [(0, .ref 71), (1, .ref a1), (2, .int x2), (3, .int x3)] rfl (Nat.le_of_ble_eq_true rfl) ?_
  generalize hZ : mm_Z V _ = Z0
  refine MM.aload_n (i := 0) rfl rfl d_Ni_pass_0 rfl ?_
  refine MM.gR 3 1 tg_71 rq_3_0 rfl lays_3 ww_325 d_Ni_pass_1 rfl ?_
  refine MM.lconst (v := 0) rfl d_Ni_pass_4 rfl ?_
  obtain ⟨v2, e1, hf⟩ := mm_bind hf
  refine MM.callS0 (T_JA_fill_AJJV V l 72 (0 : Int64) h _ e1) (fun _ _ q => q) cal_JA_fill_AJJV rfl ww_830 ww_1126 (by decide) (by simp [Value.category]) d_Ni_pass_5 rfl ⟨rfl, rfl⟩ rfl ?_
  refine MM.aload_n (i := 0) rfl rfl d_Ni_pass_8 rfl ?_
  refine MM.gR 3 1 tg_71 rq_3_0 rfl lays_3 ww_325 d_Ni_pass_9 rfl ?_
  refine MM.iload_n (i := 2) rfl rfl d_Ni_pass_12 rfl ?_
  refine MM.ldc2 ww_1127 d_Ni_pass_13 rfl ?_
  obtain ⟨k3, e4, hf⟩ := mm_bind hf
  obtain ⟨h5, e6, hf⟩ := mm_letE hf
  refine MM.sL e4 e6 al_72 d_Ni_pass_16 rfl ?_
  refine MM.iconst ic_0 d_Ni_pass_17 rfl ?_
  refine MM.istore (lv' := [(4, .int 0), (0, .ref 71), (1, .ref a1), (2, .int x2), (3, .int x3)]) rfl (Nat.le_of_ble_eq_true rfl) rfl d_Ni_pass_18 rfl ?_
  obtain ⟨v10, e12, hf⟩ := mm_bind hf
  have K11 : MM V l Y_Ni_pass 5 0 0 Z0 37 [] [] v10 := by
    obtain rfl := Option.some.inj hf
    subst hZ
    exact MM.vret rfl d_Ni_pass_37 ⟨rfl, rfl⟩
  clear hf
  refine MM.sub [1, 2, 4, 0] (by rfl) (mm_while_ind (fun s7 => MM V l Y_Ni_pass 5 0 0 Z0 20 [(0, .ref 71), (1, .ref a1), (3, .int x3), (4, .int s7.1)] [] s7.2) e12 (fun s7 q8 hf hx9 => ?_))
  refine MM.iload rfl d_Ni_pass_20 rfl ?_
  refine MM.iload_n (i := 3) rfl rfl d_Ni_pass_22 rfl ?_
  obtain ⟨m18, m19⟩ := mm_ifE hf
  refine MM.icmp_ge (tgt := 37) d_Ni_pass_23 rfl rfl (fun c17 => ?_) (fun c17 => ?_)
  · replace hf := m18 c17
    obtain rfl := Option.some.inj hf
    obtain rfl := Option.some.inj (mm_wxR hx9)
    exact MM.sub [] (by rfl) K11
  · replace hf := m19 c17
    refine MM.aload_n (i := 0) rfl rfl d_Ni_pass_26 rfl ?_
    refine MM.aload_n (i := 1) rfl rfl d_Ni_pass_27 rfl ?_
    obtain ⟨v14, e13, hf⟩ := mm_bind hf
    refine MM.callV0 (T_Ni_passOne V l a1 s7.2 _ e13) (fun _ _ q => q) cal_Ni_passOne rfl tg_71 ct_3 ww_18 ww_1130 ww_1128 (by decide) (by simp [Value.category]) d_Ni_pass_28 rfl ⟨rfl, rfl⟩ rfl ?_
    obtain ⟨y15, e16, hf⟩ := mm_letE hf
    refine MM.iinc (k0 := 3) (lv' := [(4, .int y15), (0, .ref 71), (1, .ref a1), (3, .int x3)]) (by rw [ic_1]; exact e16) rfl (Nat.le_of_ble_eq_true rfl) rfl d_Ni_pass_31 rfl ?_
    refine MM.goto (tgt := 20) d_Ni_pass_34 rfl ?_
    obtain rfl := Option.some.inj hf
    have h9 := mm_wxL hx9
    exact MM.sub [1, 2, 3, 0] (by rfl) h9
theorem d_Ni_weighCounts_0 : decode cX4_weighCounts 0 = .ok (.iconst 0, 1) := by decide +kernel
theorem d_Ni_weighCounts_1 : decode cX4_weighCounts 1 = .ok (.istore 4, 2) := by decide +kernel
theorem d_Ni_weighCounts_3 : decode cX4_weighCounts 3 = .ok (.iload 4, 2) := by decide +kernel
theorem d_Ni_weighCounts_5 : decode cX4_weighCounts 5 = .ok (.aload_n 1, 1) := by decide +kernel
theorem d_Ni_weighCounts_6 : decode cX4_weighCounts 6 = .ok (.getfield 37, 3) := by decide +kernel
theorem d_Ni_weighCounts_9 : decode cX4_weighCounts 9 = .ok (.if_icmp .gt 24, 3) := by decide +kernel
theorem d_Ni_weighCounts_12 : decode cX4_weighCounts 12 = .ok (.aload_n 0, 1) := by decide +kernel
theorem d_Ni_weighCounts_13 : decode cX4_weighCounts 13 = .ok (.getfield 21, 3) := by decide +kernel
theorem d_Ni_weighCounts_16 : decode cX4_weighCounts 16 = .ok (.iload 4, 2) := by decide +kernel
theorem d_Ni_weighCounts_18 : decode cX4_weighCounts 18 = .ok (.aload_n 2, 1) := by decide +kernel
theorem d_Ni_weighCounts_19 : decode cX4_weighCounts 19 = .ok (.aload_n 1, 1) := by decide +kernel
theorem d_Ni_weighCounts_20 : decode cX4_weighCounts 20 = .ok (.iload_n 3, 1) := by decide +kernel
theorem d_Ni_weighCounts_21 : decode cX4_weighCounts 21 = .ok (.iload 4, 2) := by decide +kernel
theorem d_Ni_weighCounts_23 : decode cX4_weighCounts 23 = .ok (.invokevirtual 79, 3) := by decide +kernel
theorem d_Ni_weighCounts_26 : decode cX4_weighCounts 26 = .ok (.iastore, 1) := by decide +kernel
theorem d_Ni_weighCounts_27 : decode cX4_weighCounts 27 = .ok (.iinc 4 1, 3) := by decide +kernel
theorem d_Ni_weighCounts_30 : decode cX4_weighCounts 30 = .ok (.goto (-27), 3) := by decide +kernel
theorem d_Ni_weighCounts_33 : decode cX4_weighCounts 33 = .ok (.return_, 1) := by decide +kernel
noncomputable def f_Ni_weighCounts (a1 : Nat) (a2 : Nat) (x3 : Int32) (h : mm_H) : Option mm_H := if mm_tg a1 = 7 ∧ mm_tg a2 = 4 then ((mm_while (σ := (Int32 × mm_H)) (ρ := mm_H) (fun s1 => if (s1.2.1 a1 0) < s1.1 then (some (Sum.inr s1.2)) else ((f_St_lawWorth a2 a1 x3 s1.1 s1.2).bind fun v8 => (mm_ix s1.1 7).bind fun k9 => mm_let (mm_pI v8.2 75 k9 v8.1) fun h11 => mm_let (s1.1 + 1) fun y13 => some (Sum.inl (y13, h11)))) (0, h)).bind fun v4 => some v4) else none
theorem T_Ni_weighCounts (V : mm_V) (l : Launch) (a1 : Nat) (a2 : Nat) (x3 : Int32) (h : mm_H) (r : mm_H) (hf : f_Ni_weighCounts a1 a2 x3 h = some r) : MT V l Y_Ni_weighCounts 4 [.ref 71, .ref a1, .ref a2, .int x3] (fun r1 h1 => r1 = none ∧ h1 = r) h := by
  unfold f_Ni_weighCounts at hf
  obtain ⟨⟨t_a1, t_a2⟩, hf⟩ := mm_chkE hf
  refine MT.intro (pn_Ni rfl) [(0, .ref 71), (1, .ref a1), (2, .ref a2), (3, .int x3)] rfl (Nat.le_of_ble_eq_true rfl) ?_
  generalize hZ : mm_Z V _ = Z0
  refine MM.iconst ic_0 d_Ni_weighCounts_0 rfl ?_
  refine MM.istore (lv' := [(4, .int 0), (0, .ref 71), (1, .ref a1), (2, .ref a2), (3, .int x3)]) rfl (Nat.le_of_ble_eq_true rfl) rfl d_Ni_weighCounts_1 rfl ?_
  obtain ⟨v4, e6, hf⟩ := mm_bind hf
  have K5 : MM V l Y_Ni_weighCounts 4 0 0 Z0 33 [] [] v4 := by
    obtain rfl := Option.some.inj hf
    subst hZ
    exact MM.vret rfl d_Ni_weighCounts_33 ⟨rfl, rfl⟩
  clear hf
  refine MM.sub [1, 2, 3, 4, 0] (by rfl) (mm_while_ind (fun s1 => MM V l Y_Ni_weighCounts 4 0 0 Z0 3 [(0, .ref 71), (1, .ref a1), (2, .ref a2), (3, .int x3), (4, .int s1.1)] [] s1.2) e6 (fun s1 q2 hf hx3 => ?_))
  refine MM.iload rfl d_Ni_weighCounts_3 rfl ?_
  refine MM.aload_n (i := 1) rfl rfl d_Ni_weighCounts_5 rfl ?_
  refine MM.getI 7 t_a1 lays_7 gq_7_0 ww_365 d_Ni_weighCounts_6 rfl ?_
  obtain ⟨m16, m17⟩ := mm_ifE hf
  refine MM.icmp_gt (tgt := 33) d_Ni_weighCounts_9 rfl rfl (fun c15 => ?_) (fun c15 => ?_)
  · replace hf := m16 c15
    obtain rfl := Option.some.inj hf
    obtain rfl := Option.some.inj (mm_wxR hx3)
    exact MM.sub [] (by rfl) K5
  · replace hf := m17 c15
    refine MM.aload_n (i := 0) rfl rfl d_Ni_weighCounts_12 rfl ?_
    refine MM.gR 3 4 tg_71 rq_3_3 rfl lays_3 ww_328 d_Ni_weighCounts_13 rfl ?_
    refine MM.iload rfl d_Ni_weighCounts_16 rfl ?_
    refine MM.aload_n (i := 2) rfl rfl d_Ni_weighCounts_18 rfl ?_
    refine MM.aload_n (i := 1) rfl rfl d_Ni_weighCounts_19 rfl ?_
    refine MM.iload_n (i := 3) rfl rfl d_Ni_weighCounts_20 rfl ?_
    refine MM.iload rfl d_Ni_weighCounts_21 rfl ?_
    obtain ⟨v8, e7, hf⟩ := mm_bind hf
    refine MM.callV1 (T_St_lawWorth V l a2 a1 x3 s1.1 s1.2 _ e7) (fun _ _ q => q) cal_St_lawWorth rfl t_a2 ct_4 ww_910 ww_909 ww_1154 (by decide) (by simp [Value.category]) d_Ni_weighCounts_23 rfl ⟨rfl, rfl⟩ rfl ?_
    obtain ⟨k9, e10, hf⟩ := mm_bind hf
    obtain ⟨h11, e12, hf⟩ := mm_letE hf
    refine MM.sI e10 e12 al_75 d_Ni_weighCounts_26 rfl ?_
    obtain ⟨y13, e14, hf⟩ := mm_letE hf
    refine MM.iinc (k0 := 4) (lv' := [(4, .int y13), (0, .ref 71), (1, .ref a1), (2, .ref a2), (3, .int x3)]) (by rw [ic_1]; exact e14) rfl (Nat.le_of_ble_eq_true rfl) rfl d_Ni_weighCounts_27 rfl ?_
    refine MM.goto (tgt := 3) d_Ni_weighCounts_30 rfl ?_
    obtain rfl := Option.some.inj hf
    have h9 := mm_wxL hx3
    exact MM.sub [1, 2, 3, 4, 0] (by rfl) h9
theorem d_X_passNights_0 : decode cX11_passNights 0 = .ok (.aload_n 0, 1) := by decide +kernel
theorem d_X_passNights_1 : decode cX11_passNights 1 = .ok (.getfield 81, 3) := by decide +kernel
theorem d_X_passNights_4 : decode cX11_passNights 4 = .ok (.iload_n 1, 1) := by decide +kernel
theorem d_X_passNights_5 : decode cX11_passNights 5 = .ok (.invokevirtual 174, 3) := by decide +kernel
theorem d_X_passNights_8 : decode cX11_passNights 8 = .ok (.ifCond .eq 13, 3) := by decide +kernel
theorem d_X_passNights_11 : decode cX11_passNights 11 = .ok (.iload_n 2, 1) := by decide +kernel
theorem d_X_passNights_12 : decode cX11_passNights 12 = .ok (.ifCond .lt 9, 3) := by decide +kernel
theorem d_X_passNights_15 : decode cX11_passNights 15 = .ok (.iload_n 2, 1) := by decide +kernel
theorem d_X_passNights_16 : decode cX11_passNights 16 = .ok (.bipush 30, 2) := by decide +kernel
theorem d_X_passNights_18 : decode cX11_passNights 18 = .ok (.if_icmp .le 5, 3) := by decide +kernel
theorem d_X_passNights_21 : decode cX11_passNights 21 = .ok (.iconst 0, 1) := by decide +kernel
theorem d_X_passNights_22 : decode cX11_passNights 22 = .ok (.ireturn, 1) := by decide +kernel
theorem d_X_passNights_23 : decode cX11_passNights 23 = .ok (.aload_n 0, 1) := by decide +kernel
theorem d_X_passNights_24 : decode cX11_passNights 24 = .ok (.getfield 64, 3) := by decide +kernel
theorem d_X_passNights_27 : decode cX11_passNights 27 = .ok (.aload_n 0, 1) := by decide +kernel
theorem d_X_passNights_28 : decode cX11_passNights 28 = .ok (.getfield 81, 3) := by decide +kernel
theorem d_X_passNights_31 : decode cX11_passNights 31 = .ok (.aload_n 0, 1) := by decide +kernel
theorem d_X_passNights_32 : decode cX11_passNights 32 = .ok (.getfield 19, 3) := by decide +kernel
theorem d_X_passNights_35 : decode cX11_passNights 35 = .ok (.getfield 189, 3) := by decide +kernel
theorem d_X_passNights_38 : decode cX11_passNights 38 = .ok (.iload_n 1, 1) := by decide +kernel
theorem d_X_passNights_39 : decode cX11_passNights 39 = .ok (.iaload, 1) := by decide +kernel
theorem d_X_passNights_40 : decode cX11_passNights 40 = .ok (.iload_n 2, 1) := by decide +kernel
theorem d_X_passNights_41 : decode cX11_passNights 41 = .ok (.invokevirtual 400, 3) := by decide +kernel
theorem d_X_passNights_44 : decode cX11_passNights 44 = .ok (.aload_n 0, 1) := by decide +kernel
theorem d_X_passNights_45 : decode cX11_passNights 45 = .ok (.getfield 64, 3) := by decide +kernel
theorem d_X_passNights_48 : decode cX11_passNights 48 = .ok (.aload_n 0, 1) := by decide +kernel
theorem d_X_passNights_49 : decode cX11_passNights 49 = .ok (.getfield 81, 3) := by decide +kernel
theorem d_X_passNights_52 : decode cX11_passNights 52 = .ok (.aload_n 0, 1) := by decide +kernel
theorem d_X_passNights_53 : decode cX11_passNights 53 = .ok (.getfield 19, 3) := by decide +kernel
theorem d_X_passNights_56 : decode cX11_passNights 56 = .ok (.iload_n 1, 1) := by decide +kernel
theorem d_X_passNights_57 : decode cX11_passNights 57 = .ok (.invokevirtual 404, 3) := by decide +kernel
theorem d_X_passNights_60 : decode cX11_passNights 60 = .ok (.iconst 1, 1) := by decide +kernel
theorem d_X_passNights_61 : decode cX11_passNights 61 = .ok (.ireturn, 1) := by decide +kernel
noncomputable def f_X_passNights (x1 : Int32) (x2 : Int32) (h : mm_H) : Option (Int32 × mm_H) := (mm_gT h 14).bind fun t1 => (f_To_hasSecret t1 x1 h).bind fun v4 => if v4 = 0 then (some (0, h)) else (if x2 < 0 then (some (0, h)) else (if x2 ≤ 30 then ((mm_gT h 14).bind fun t5 => (mm_ix x1 10).bind fun k7 => (f_Ni_pass t5 (h.1 36 k7) x2 h).bind fun v10 => (mm_gT v10 14).bind fun t11 => (f_Ni_weighCounts t11 35 x1 v10).bind fun v14 => some (1, v14)) else (some (0, h))))
theorem T_X_passNights (V : mm_V) (l : Launch) (x1 : Int32) (x2 : Int32) (h : mm_H) (r : (Int32 × mm_H)) (hf : f_X_passNights x1 x2 h = some r) : MT V l Y_X_passNights 6 [.ref 32, .int x1, .int x2] (fun r1 h1 => r1 = some (.int r.1) ∧ h1 = r.2) h := by
  unfold f_X_passNights at hf
  refine MT.intro (pn_X rfl) [(0, .ref 32), (1, .int x1), (2, .int x2)] rfl (Nat.le_of_ble_eq_true rfl) ?_
  generalize hZ : mm_Z V _ = Z0
  refine MM.aload_n (i := 0) rfl rfl d_X_passNights_0 rfl ?_
  obtain ⟨t1, e2, hf⟩ := mm_bind hf
  obtain ⟨e2, t_t1⟩ := mm_gTE e2
  refine MM.gT e2 tg_32 tq_14 lays_8 ww_486 d_X_passNights_1 rfl ?_
  refine MM.iload_n (i := 1) rfl rfl d_X_passNights_4 rfl ?_
  obtain ⟨v4, e3, hf⟩ := mm_bind hf
  refine MM.callV1 (T_To_hasSecret V l t1 x1 h _ e3) (fun _ _ q => q) cal_To_hasSecret rfl t_t1 ct_7 ww_885 ww_884 ww_883 (by decide) (by simp [Value.category]) d_X_passNights_5 rfl ⟨rfl, rfl⟩ rfl ?_
  obtain ⟨m22, m23⟩ := mm_ifE hf
  refine MM.if_eq (tgt := 21) d_X_passNights_8 rfl rfl (fun c21 => ?_) (fun c21 => ?_)
  · replace hf := m22 c21
    refine MM.iconst ic_0 d_X_passNights_21 rfl ?_
    obtain rfl := Option.some.inj hf
    subst hZ
    exact MM.zret (Or.inl rfl) rfl d_X_passNights_22 ⟨rfl, rfl⟩
  · replace hf := m23 c21
    refine MM.iload_n (i := 2) rfl rfl d_X_passNights_11 rfl ?_
    obtain ⟨m19, m20⟩ := mm_ifE hf
    refine MM.if_lt (tgt := 21) d_X_passNights_12 rfl rfl (fun c18 => ?_) (fun c18 => ?_)
    · replace hf := m19 c18
      refine MM.iconst ic_0 d_X_passNights_21 rfl ?_
      obtain rfl := Option.some.inj hf
      subst hZ
      exact MM.zret (Or.inl rfl) rfl d_X_passNights_22 ⟨rfl, rfl⟩
    · replace hf := m20 c18
      refine MM.iload_n (i := 2) rfl rfl d_X_passNights_15 rfl ?_
      refine MM.bipush bp_30 d_X_passNights_16 rfl ?_
      obtain ⟨m16, m17⟩ := mm_ifE hf
      refine MM.icmp_le (tgt := 23) d_X_passNights_18 rfl rfl (fun c15 => ?_) (fun c15 => ?_)
      · replace hf := m16 c15
        refine MM.aload_n (i := 0) rfl rfl d_X_passNights_23 rfl ?_
        refine MM.gR 8 39 tg_32 rq_8_10 rfl lays_8 ww_482 d_X_passNights_24 rfl ?_
        refine MM.aload_n (i := 0) rfl rfl d_X_passNights_27 rfl ?_
        obtain ⟨t5, e6, hf⟩ := mm_bind hf
        obtain ⟨e6, t_t5⟩ := mm_gTE e6
        refine MM.gT e6 tg_32 tq_14 lays_8 ww_486 d_X_passNights_28 rfl ?_
        refine MM.aload_n (i := 0) rfl rfl d_X_passNights_31 rfl ?_
        refine MM.gR 8 3 tg_32 rq_8_1 rfl lays_8 ww_473 d_X_passNights_32 rfl ?_
        refine MM.gR 4 1 tg_35 rq_4_0 rfl lays_4 ww_202 d_X_passNights_35 rfl ?_
        refine MM.iload_n (i := 1) rfl rfl d_X_passNights_38 rfl ?_
        obtain ⟨k7, e8, hf⟩ := mm_bind hf
        refine MM.gI e8 al_36 d_X_passNights_39 rfl ?_
        refine MM.iload_n (i := 2) rfl rfl d_X_passNights_40 rfl ?_
        obtain ⟨v10, e9, hf⟩ := mm_bind hf
        refine MM.callV0 (T_Ni_pass V l t5 (h.1 36 k7) x2 h _ e9) (fun _ _ q => q) cal_Ni_pass rfl tg_71 ct_3 ww_1124 ww_1123 ww_1122 (by decide) (by simp [Value.category]) d_X_passNights_41 rfl ⟨rfl, rfl⟩ rfl ?_
        refine MM.aload_n (i := 0) rfl rfl d_X_passNights_44 rfl ?_
        refine MM.gR 8 39 tg_32 rq_8_10 rfl lays_8 ww_482 d_X_passNights_45 rfl ?_
        refine MM.aload_n (i := 0) rfl rfl d_X_passNights_48 rfl ?_
        obtain ⟨t11, e12, hf⟩ := mm_bind hf
        obtain ⟨e12, t_t11⟩ := mm_gTE e12
        refine MM.gT e12 tg_32 tq_14 lays_8 ww_486 d_X_passNights_49 rfl ?_
        refine MM.aload_n (i := 0) rfl rfl d_X_passNights_52 rfl ?_
        refine MM.gR 8 3 tg_32 rq_8_1 rfl lays_8 ww_473 d_X_passNights_53 rfl ?_
        refine MM.iload_n (i := 1) rfl rfl d_X_passNights_56 rfl ?_
        obtain ⟨v14, e13, hf⟩ := mm_bind hf
        refine MM.callV0 (T_Ni_weighCounts V l t11 35 x1 v10 _ e13) (fun _ _ q => q) cal_Ni_weighCounts rfl tg_71 ct_3 ww_1152 ww_1151 ww_1150 (by decide) (by simp [Value.category]) d_X_passNights_57 rfl ⟨rfl, rfl⟩ rfl ?_
        refine MM.iconst ic_1 d_X_passNights_60 rfl ?_
        obtain rfl := Option.some.inj hf
        subst hZ
        exact MM.zret (Or.inr rfl) rfl d_X_passNights_61 ⟨rfl, rfl⟩
      · replace hf := m17 c15
        refine MM.iconst ic_0 d_X_passNights_21 rfl ?_
        obtain rfl := Option.some.inj hf
        subst hZ
        exact MM.zret (Or.inl rfl) rfl d_X_passNights_22 ⟨rfl, rfl⟩
theorem d_Ni_expected_0 : decode cX4_expected 0 = .ok (.lconst 0, 1) := by decide +kernel
theorem d_Ni_expected_1 : decode cX4_expected 1 = .ok (.lstore_n 2, 1) := by decide +kernel
theorem d_Ni_expected_2 : decode cX4_expected 2 = .ok (.iconst 0, 1) := by decide +kernel
theorem d_Ni_expected_3 : decode cX4_expected 3 = .ok (.istore 4, 2) := by decide +kernel
theorem d_Ni_expected_5 : decode cX4_expected 5 = .ok (.iload 4, 2) := by decide +kernel
theorem d_Ni_expected_7 : decode cX4_expected 7 = .ok (.iconst 1, 1) := by decide +kernel
theorem d_Ni_expected_8 : decode cX4_expected 8 = .ok (.aload_n 1, 1) := by decide +kernel
theorem d_Ni_expected_9 : decode cX4_expected 9 = .ok (.getfield 37, 3) := by decide +kernel
theorem d_Ni_expected_12 : decode cX4_expected 12 = .ok (.ishl, 1) := by decide +kernel
theorem d_Ni_expected_13 : decode cX4_expected 13 = .ok (.if_icmp .ge 32, 3) := by decide +kernel
theorem d_Ni_expected_16 : decode cX4_expected 16 = .ok (.lload_n 2, 1) := by decide +kernel
theorem d_Ni_expected_17 : decode cX4_expected 17 = .ok (.aload_n 0, 1) := by decide +kernel
theorem d_Ni_expected_18 : decode cX4_expected 18 = .ok (.getfield 9, 3) := by decide +kernel
theorem d_Ni_expected_21 : decode cX4_expected 21 = .ok (.iload 4, 2) := by decide +kernel
theorem d_Ni_expected_23 : decode cX4_expected 23 = .ok (.laload, 1) := by decide +kernel
theorem d_Ni_expected_24 : decode cX4_expected 24 = .ok (.aload_n 0, 1) := by decide +kernel
theorem d_Ni_expected_25 : decode cX4_expected 25 = .ok (.getfield 21, 3) := by decide +kernel
theorem d_Ni_expected_28 : decode cX4_expected 28 = .ok (.aload_n 1, 1) := by decide +kernel
theorem d_Ni_expected_29 : decode cX4_expected 29 = .ok (.iload 4, 2) := by decide +kernel
theorem d_Ni_expected_31 : decode cX4_expected 31 = .ok (.invokevirtual 85, 3) := by decide +kernel
theorem d_Ni_expected_34 : decode cX4_expected 34 = .ok (.iaload, 1) := by decide +kernel
theorem d_Ni_expected_35 : decode cX4_expected 35 = .ok (.i2l, 1) := by decide +kernel
theorem d_Ni_expected_36 : decode cX4_expected 36 = .ok (.lmul, 1) := by decide +kernel
theorem d_Ni_expected_37 : decode cX4_expected 37 = .ok (.ladd, 1) := by decide +kernel
theorem d_Ni_expected_38 : decode cX4_expected 38 = .ok (.lstore_n 2, 1) := by decide +kernel
theorem d_Ni_expected_39 : decode cX4_expected 39 = .ok (.iinc 4 1, 3) := by decide +kernel
theorem d_Ni_expected_42 : decode cX4_expected 42 = .ok (.goto (-37), 3) := by decide +kernel
theorem d_Ni_expected_45 : decode cX4_expected 45 = .ok (.lload_n 2, 1) := by decide +kernel
theorem d_Ni_expected_46 : decode cX4_expected 46 = .ok (.lreturn, 1) := by decide +kernel
noncomputable def f_Ni_expected (a1 : Nat) (h : mm_H) : Option Int64 := if mm_tg a1 = 7 then ((mm_while (σ := (Int64 × Int32)) (ρ := Int64) (fun s1 => if ((1 : Int32) <<< ((h.1 a1 0) &&& 31)) ≤ s1.2 then (some (Sum.inr s1.1)) else ((mm_ix s1.2 64).bind fun k7 => (f_To_knowers a1 s1.2 h).bind fun v10 => (mm_ix v10 7).bind fun k11 => mm_let (s1.1 + ((h.2.1 72 k7) * (Int32.toInt64 (h.1 75 k11)))) fun y13 => mm_let (s1.2 + 1) fun y15 => some (Sum.inl (y13, y15)))) (0, 0)).bind fun v4 => some v4) else none
theorem T_Ni_expected (V : mm_V) (l : Launch) (a1 : Nat) (h : mm_H) (r : Int64) (hf : f_Ni_expected a1 h = some r) : MT V l Y_Ni_expected 3 [.ref 71, .ref a1] (fun r1 h1 => r1 = some (.long r) ∧ h1 = h) h := by
  unfold f_Ni_expected at hf
  obtain ⟨t_a1, hf⟩ := mm_chkE hf
  refine MT.intro (pn_Ni rfl) [(0, .ref 71), (1, .ref a1)] rfl (Nat.le_of_ble_eq_true rfl) ?_
  generalize hZ : mm_Z V _ = Z0
  refine MM.lconst (v := 0) rfl d_Ni_expected_0 rfl ?_
  refine MM.lstore_n (i := 2) (lv' := [(2, .long 0), (0, .ref 71), (1, .ref a1)]) rfl rfl (Nat.le_of_ble_eq_true rfl) rfl d_Ni_expected_1 rfl ?_
  refine MM.iconst ic_0 d_Ni_expected_2 rfl ?_
  refine MM.istore (lv' := [(4, .int 0), (2, .long 0), (0, .ref 71), (1, .ref a1)]) rfl (Nat.le_of_ble_eq_true rfl) rfl d_Ni_expected_3 rfl ?_
  obtain ⟨v4, e6, hf⟩ := mm_bind hf
  have K5 : MM V l Y_Ni_expected 3 0 0 Z0 45 [(2, .long v4)] [] h := by
    refine MM.lload_n (i := 2) rfl rfl d_Ni_expected_45 rfl ?_
    obtain rfl := Option.some.inj hf
    subst hZ
    exact MM.lret rfl d_Ni_expected_46 ⟨rfl, rfl⟩
  clear hf
  refine MM.sub [2, 3, 1, 0] (by rfl) (mm_while_ind (fun s1 => MM V l Y_Ni_expected 3 0 0 Z0 5 [(0, .ref 71), (1, .ref a1), (2, .long s1.1), (4, .int s1.2)] [] h) e6 (fun s1 q2 hf hx3 => ?_))
  refine MM.iload rfl d_Ni_expected_5 rfl ?_
  refine MM.iconst ic_1 d_Ni_expected_7 rfl ?_
  refine MM.aload_n (i := 1) rfl rfl d_Ni_expected_8 rfl ?_
  refine MM.getI 7 t_a1 lays_7 gq_7_0 ww_365 d_Ni_expected_9 rfl ?_
  refine MM.ishl d_Ni_expected_12 rfl ?_
  obtain ⟨m18, m19⟩ := mm_ifE hf
  refine MM.icmp_ge (tgt := 45) d_Ni_expected_13 rfl rfl (fun c17 => ?_) (fun c17 => ?_)
  · replace hf := m18 c17
    obtain rfl := Option.some.inj hf
    obtain rfl := Option.some.inj (mm_wxR hx3)
    exact MM.sub [2] (by rfl) K5
  · replace hf := m19 c17
    refine MM.lload_n (i := 2) rfl rfl d_Ni_expected_16 rfl ?_
    refine MM.aload_n (i := 0) rfl rfl d_Ni_expected_17 rfl ?_
    refine MM.gR 3 1 tg_71 rq_3_0 rfl lays_3 ww_325 d_Ni_expected_18 rfl ?_
    refine MM.iload rfl d_Ni_expected_21 rfl ?_
    obtain ⟨k7, e8, hf⟩ := mm_bind hf
    refine MM.gL e8 al_72 d_Ni_expected_23 rfl ?_
    refine MM.aload_n (i := 0) rfl rfl d_Ni_expected_24 rfl ?_
    refine MM.gR 3 4 tg_71 rq_3_3 rfl lays_3 ww_328 d_Ni_expected_25 rfl ?_
    refine MM.aload_n (i := 1) rfl rfl d_Ni_expected_28 rfl ?_
    refine MM.iload rfl d_Ni_expected_29 rfl ?_
    obtain ⟨v10, e9, hf⟩ := mm_bind hf
    refine MM.callV1 (T_To_knowers V l a1 s1.2 h _ e9) (fun _ _ q => q) cal_To_knowers rfl t_a1 ct_7 ww_890 ww_889 ww_1159 (by decide) (by simp [Value.category]) d_Ni_expected_31 rfl ⟨rfl, rfl⟩ rfl ?_
    obtain ⟨k11, e12, hf⟩ := mm_bind hf
    refine MM.gI e12 al_75 d_Ni_expected_34 rfl ?_
    refine MM.i2l d_Ni_expected_35 rfl ?_
    refine MM.lmul d_Ni_expected_36 rfl ?_
    refine MM.ladd d_Ni_expected_37 rfl ?_
    obtain ⟨y13, e14, hf⟩ := mm_letE hf
    refine MM.lstore_n (i := 2) (lv' := [(2, .long y13), (0, .ref 71), (1, .ref a1), (4, .int s1.2)]) e14 rfl (Nat.le_of_ble_eq_true rfl) rfl d_Ni_expected_38 rfl ?_
    obtain ⟨y15, e16, hf⟩ := mm_letE hf
    refine MM.iinc (k0 := 3) (lv' := [(4, .int y15), (2, .long y13), (0, .ref 71), (1, .ref a1)]) (by rw [ic_1]; exact e16) rfl (Nat.le_of_ble_eq_true rfl) rfl d_Ni_expected_39 rfl ?_
    refine MM.goto (tgt := 5) d_Ni_expected_42 rfl ?_
    obtain rfl := Option.some.inj hf
    have h9 := mm_wxL hx3
    exact MM.sub [2, 3, 1, 0] (by rfl) h9
theorem d_X_mean_0 : decode cX11_mean 0 = .ok (.aload_n 0, 1) := by decide +kernel
theorem d_X_mean_1 : decode cX11_mean 1 = .ok (.iload_n 1, 1) := by decide +kernel
theorem d_X_mean_2 : decode cX11_mean 2 = .ok (.iload_n 2, 1) := by decide +kernel
theorem d_X_mean_3 : decode cX11_mean 3 = .ok (.invokevirtual 283, 3) := by decide +kernel
theorem d_X_mean_6 : decode cX11_mean 6 = .ok (.ifCond .ne 5, 3) := by decide +kernel
theorem d_X_mean_9 : decode cX11_mean 9 = .ok (.iconst (-1), 1) := by decide +kernel
theorem d_X_mean_10 : decode cX11_mean 10 = .ok (.ireturn, 1) := by decide +kernel
theorem d_X_mean_11 : decode cX11_mean 11 = .ok (.aload_n 0, 1) := by decide +kernel
theorem d_X_mean_12 : decode cX11_mean 12 = .ok (.getfield 64, 3) := by decide +kernel
theorem d_X_mean_15 : decode cX11_mean 15 = .ok (.aload_n 0, 1) := by decide +kernel
theorem d_X_mean_16 : decode cX11_mean 16 = .ok (.getfield 81, 3) := by decide +kernel
theorem d_X_mean_19 : decode cX11_mean 19 = .ok (.invokevirtual 286, 3) := by decide +kernel
theorem d_X_mean_22 : decode cX11_mean 22 = .ok (.ldc2_w 290, 3) := by decide +kernel
theorem d_X_mean_25 : decode cX11_mean 25 = .ok (.ldiv, 1) := by decide +kernel
theorem d_X_mean_26 : decode cX11_mean 26 = .ok (.l2i, 1) := by decide +kernel
theorem d_X_mean_27 : decode cX11_mean 27 = .ok (.ireturn, 1) := by decide +kernel
noncomputable def f_X_mean (x1 : Int32) (x2 : Int32) (h : mm_H) : Option (Int32 × mm_H) := (f_X_passNights x1 x2 h).bind fun v2 => if v2.1 = 0 then (some ((-1), v2.2)) else ((mm_gT v2.2 14).bind fun t3 => (f_Ni_expected t3 v2.2).bind fun v6 => some ((Int64.toInt32 (v6 / 1000)), v2.2))
theorem T_X_mean (V : mm_V) (l : Launch) (x1 : Int32) (x2 : Int32) (h : mm_H) (r : (Int32 × mm_H)) (hf : f_X_mean x1 x2 h = some r) : MT V l Y_X_mean 7 [.ref 32, .int x1, .int x2] (fun r1 h1 => r1 = some (.int r.1) ∧ h1 = r.2) h := by
  unfold f_X_mean at hf
  refine MT.intro (pn_X rfl) [(0, .ref 32), (1, .int x1), (2, .int x2)] rfl (Nat.le_of_ble_eq_true rfl) ?_
  generalize hZ : mm_Z V _ = Z0
  refine MM.aload_n (i := 0) rfl rfl d_X_mean_0 rfl ?_
  refine MM.iload_n (i := 1) rfl rfl d_X_mean_1 rfl ?_
  refine MM.iload_n (i := 2) rfl rfl d_X_mean_2 rfl ?_
  obtain ⟨v2, e1, hf⟩ := mm_bind hf
  refine MM.callV1 (T_X_passNights V l x1 x2 h _ e1) (fun _ _ q => q) cal_X_passNights rfl tg_32 ct_8 ww_17 ww_1120 ww_1118 (by decide) (by simp [Value.category]) d_X_mean_3 rfl ⟨rfl, rfl⟩ rfl ?_
  obtain ⟨m8, m9⟩ := mm_ifE hf
  refine MM.if_ne (tgt := 11) d_X_mean_6 rfl rfl (fun c7 => ?_) (fun c7 => ?_)
  · replace hf := m9 c7
    refine MM.aload_n (i := 0) rfl rfl d_X_mean_11 rfl ?_
    refine MM.gR 8 39 tg_32 rq_8_10 rfl lays_8 ww_482 d_X_mean_12 rfl ?_
    refine MM.aload_n (i := 0) rfl rfl d_X_mean_15 rfl ?_
    obtain ⟨t3, e4, hf⟩ := mm_bind hf
    obtain ⟨e4, t_t3⟩ := mm_gTE e4
    refine MM.gT e4 tg_32 tq_14 lays_8 ww_486 d_X_mean_16 rfl ?_
    obtain ⟨v6, e5, hf⟩ := mm_bind hf
    refine MM.callV1 (T_Ni_expected V l t3 v2.2 _ e5) (fun _ _ q => q) cal_Ni_expected rfl tg_71 ct_3 ww_1157 ww_1156 ww_1155 (by decide) (by simp [Value.category]) d_X_mean_19 rfl ⟨rfl, rfl⟩ rfl ?_
    refine MM.ldc2 ww_1160 d_X_mean_22 rfl ?_
    refine MM.ldiv (by decide) d_X_mean_25 rfl ?_
    refine MM.l2i d_X_mean_26 rfl ?_
    obtain rfl := Option.some.inj hf
    subst hZ
    exact MM.iret rfl d_X_mean_27 ⟨rfl, rfl⟩
  · replace hf := m8 c7
    refine MM.iconst ic_m1 d_X_mean_9 rfl ?_
    obtain rfl := Option.some.inj hf
    subst hZ
    exact MM.iret rfl d_X_mean_10 ⟨rfl, rfl⟩
theorem d_Ni_surety_0 : decode cX4_surety 0 = .ok (.aload_n 0, 1) := by decide +kernel
theorem d_Ni_surety_1 : decode cX4_surety 1 = .ok (.getfield 21, 3) := by decide +kernel
theorem d_Ni_surety_4 : decode cX4_surety 4 = .ok (.aload_n 1, 1) := by decide +kernel
theorem d_Ni_surety_5 : decode cX4_surety 5 = .ok (.iload_n 2, 1) := by decide +kernel
theorem d_Ni_surety_6 : decode cX4_surety 6 = .ok (.invokevirtual 85, 3) := by decide +kernel
theorem d_Ni_surety_9 : decode cX4_surety 9 = .ok (.iaload, 1) := by decide +kernel
theorem d_Ni_surety_10 : decode cX4_surety 10 = .ok (.istore_n 3, 1) := by decide +kernel
theorem d_Ni_surety_11 : decode cX4_surety 11 = .ok (.lconst 0, 1) := by decide +kernel
theorem d_Ni_surety_12 : decode cX4_surety 12 = .ok (.lstore 4, 2) := by decide +kernel
theorem d_Ni_surety_14 : decode cX4_surety 14 = .ok (.iconst 0, 1) := by decide +kernel
theorem d_Ni_surety_15 : decode cX4_surety 15 = .ok (.istore 6, 2) := by decide +kernel
theorem d_Ni_surety_17 : decode cX4_surety 17 = .ok (.iload 6, 2) := by decide +kernel
theorem d_Ni_surety_19 : decode cX4_surety 19 = .ok (.iconst 1, 1) := by decide +kernel
theorem d_Ni_surety_20 : decode cX4_surety 20 = .ok (.aload_n 1, 1) := by decide +kernel
theorem d_Ni_surety_21 : decode cX4_surety 21 = .ok (.getfield 37, 3) := by decide +kernel
theorem d_Ni_surety_24 : decode cX4_surety 24 = .ok (.ishl, 1) := by decide +kernel
theorem d_Ni_surety_25 : decode cX4_surety 25 = .ok (.if_icmp .ge 36, 3) := by decide +kernel
theorem d_Ni_surety_28 : decode cX4_surety 28 = .ok (.aload_n 0, 1) := by decide +kernel
theorem d_Ni_surety_29 : decode cX4_surety 29 = .ok (.getfield 21, 3) := by decide +kernel
theorem d_Ni_surety_32 : decode cX4_surety 32 = .ok (.aload_n 1, 1) := by decide +kernel
theorem d_Ni_surety_33 : decode cX4_surety 33 = .ok (.iload 6, 2) := by decide +kernel
theorem d_Ni_surety_35 : decode cX4_surety 35 = .ok (.invokevirtual 85, 3) := by decide +kernel
theorem d_Ni_surety_38 : decode cX4_surety 38 = .ok (.iaload, 1) := by decide +kernel
theorem d_Ni_surety_39 : decode cX4_surety 39 = .ok (.iload_n 3, 1) := by decide +kernel
theorem d_Ni_surety_40 : decode cX4_surety 40 = .ok (.if_icmp .lt 15, 3) := by decide +kernel
theorem d_Ni_surety_43 : decode cX4_surety 43 = .ok (.lload 4, 2) := by decide +kernel
theorem d_Ni_surety_45 : decode cX4_surety 45 = .ok (.aload_n 0, 1) := by decide +kernel
theorem d_Ni_surety_46 : decode cX4_surety 46 = .ok (.getfield 9, 3) := by decide +kernel
theorem d_Ni_surety_49 : decode cX4_surety 49 = .ok (.iload 6, 2) := by decide +kernel
theorem d_Ni_surety_51 : decode cX4_surety 51 = .ok (.laload, 1) := by decide +kernel
theorem d_Ni_surety_52 : decode cX4_surety 52 = .ok (.ladd, 1) := by decide +kernel
theorem d_Ni_surety_53 : decode cX4_surety 53 = .ok (.lstore 4, 2) := by decide +kernel
theorem d_Ni_surety_55 : decode cX4_surety 55 = .ok (.iinc 6 1, 3) := by decide +kernel
theorem d_Ni_surety_58 : decode cX4_surety 58 = .ok (.goto (-41), 3) := by decide +kernel
theorem d_Ni_surety_61 : decode cX4_surety 61 = .ok (.lload 4, 2) := by decide +kernel
theorem d_Ni_surety_63 : decode cX4_surety 63 = .ok (.lreturn, 1) := by decide +kernel
noncomputable def f_Ni_surety (a1 : Nat) (x2 : Int32) (h : mm_H) : Option Int64 := if mm_tg a1 = 7 then ((f_To_knowers a1 x2 h).bind fun v2 => (mm_ix v2 7).bind fun k3 => mm_let (h.1 75 k3) fun y5 => (mm_while (σ := (Int64 × Int32)) (ρ := Int64) (fun s7 => if ((1 : Int32) <<< ((h.1 a1 0) &&& 31)) ≤ s7.2 then (some (Sum.inr s7.1)) else ((f_To_knowers a1 s7.2 h).bind fun v14 => (mm_ix v14 7).bind fun k15 => (if (h.1 75 k15) < y5 then (some s7.1) else ((mm_ix s7.2 64).bind fun k19 => mm_let (s7.1 + (h.2.1 72 k19)) fun y21 => some y21) : Option Int64).bind fun j17 => mm_let (s7.2 + 1) fun y26 => some (Sum.inl (j17, y26)))) (0, 0)).bind fun v10 => some v10) else none
theorem T_Ni_surety (V : mm_V) (l : Launch) (a1 : Nat) (x2 : Int32) (h : mm_H) (r : Int64) (hf : f_Ni_surety a1 x2 h = some r) : MT V l Y_Ni_surety 3 [.ref 71, .ref a1, .int x2] (fun r1 h1 => r1 = some (.long r) ∧ h1 = h) h := by
  unfold f_Ni_surety at hf
  obtain ⟨t_a1, hf⟩ := mm_chkE hf
  refine MT.intro (pn_Ni rfl) [(0, .ref 71), (1, .ref a1), (2, .int x2)] rfl (Nat.le_of_ble_eq_true rfl) ?_
  generalize hZ : mm_Z V _ = Z0
  refine MM.aload_n (i := 0) rfl rfl d_Ni_surety_0 rfl ?_
  refine MM.gR 3 4 tg_71 rq_3_3 rfl lays_3 ww_328 d_Ni_surety_1 rfl ?_
  refine MM.aload_n (i := 1) rfl rfl d_Ni_surety_4 rfl ?_
  refine MM.iload_n (i := 2) rfl rfl d_Ni_surety_5 rfl ?_
  obtain ⟨v2, e1, hf⟩ := mm_bind hf
  refine MM.callV1 (T_To_knowers V l a1 x2 h _ e1) (fun _ _ q => q) cal_To_knowers rfl t_a1 ct_7 ww_890 ww_889 ww_1159 (by decide) (by simp [Value.category]) d_Ni_surety_6 rfl ⟨rfl, rfl⟩ rfl ?_
  obtain ⟨k3, e4, hf⟩ := mm_bind hf
  refine MM.gI e4 al_75 d_Ni_surety_9 rfl ?_
  obtain ⟨y5, e6, hf⟩ := mm_letE hf
  refine MM.istore_n (i := 3) (lv' := [(3, .int y5), (0, .ref 71), (1, .ref a1), (2, .int x2)]) e6 rfl (Nat.le_of_ble_eq_true rfl) rfl d_Ni_surety_10 rfl ?_
  refine MM.lconst (v := 0) rfl d_Ni_surety_11 rfl ?_
  refine MM.lstore (lv' := [(4, .long 0), (3, .int y5), (0, .ref 71), (1, .ref a1), (2, .int x2)]) rfl (Nat.le_of_ble_eq_true rfl) rfl d_Ni_surety_12 rfl ?_
  refine MM.iconst ic_0 d_Ni_surety_14 rfl ?_
  refine MM.istore (lv' := [(6, .int 0), (4, .long 0), (3, .int y5), (0, .ref 71), (1, .ref a1), (2, .int x2)]) rfl (Nat.le_of_ble_eq_true rfl) rfl d_Ni_surety_15 rfl ?_
  obtain ⟨v10, e12, hf⟩ := mm_bind hf
  have K11 : MM V l Y_Ni_surety 3 0 0 Z0 61 [(4, .long v10)] [] h := by
    refine MM.lload rfl d_Ni_surety_61 rfl ?_
    obtain rfl := Option.some.inj hf
    subst hZ
    exact MM.lret rfl d_Ni_surety_63 ⟨rfl, rfl⟩
  clear hf
  refine MM.sub [3, 4, 2, 1, 0] (by rfl) (mm_while_ind (fun s7 => MM V l Y_Ni_surety 3 0 0 Z0 17 [(0, .ref 71), (1, .ref a1), (3, .int y5), (4, .long s7.1), (6, .int s7.2)] [] h) e12 (fun s7 q8 hf hx9 => ?_))
  refine MM.iload rfl d_Ni_surety_17 rfl ?_
  refine MM.iconst ic_1 d_Ni_surety_19 rfl ?_
  refine MM.aload_n (i := 1) rfl rfl d_Ni_surety_20 rfl ?_
  refine MM.getI 7 t_a1 lays_7 gq_7_0 ww_365 d_Ni_surety_21 rfl ?_
  refine MM.ishl d_Ni_surety_24 rfl ?_
  obtain ⟨m30, m31⟩ := mm_ifE hf
  refine MM.icmp_ge (tgt := 61) d_Ni_surety_25 rfl rfl (fun c29 => ?_) (fun c29 => ?_)
  · replace hf := m30 c29
    obtain rfl := Option.some.inj hf
    obtain rfl := Option.some.inj (mm_wxR hx9)
    exact MM.sub [3] (by rfl) K11
  · replace hf := m31 c29
    refine MM.aload_n (i := 0) rfl rfl d_Ni_surety_28 rfl ?_
    refine MM.gR 3 4 tg_71 rq_3_3 rfl lays_3 ww_328 d_Ni_surety_29 rfl ?_
    refine MM.aload_n (i := 1) rfl rfl d_Ni_surety_32 rfl ?_
    refine MM.iload rfl d_Ni_surety_33 rfl ?_
    obtain ⟨v14, e13, hf⟩ := mm_bind hf
    refine MM.callV1 (T_To_knowers V l a1 s7.2 h _ e13) (fun _ _ q => q) cal_To_knowers rfl t_a1 ct_7 ww_890 ww_889 ww_1159 (by decide) (by simp [Value.category]) d_Ni_surety_35 rfl ⟨rfl, rfl⟩ rfl ?_
    obtain ⟨k15, e16, hf⟩ := mm_bind hf
    refine MM.gI e16 al_75 d_Ni_surety_38 rfl ?_
    refine MM.iload_n (i := 3) rfl rfl d_Ni_surety_39 rfl ?_
    obtain ⟨j17, e28, hf⟩ := mm_bind hf
    have K18 : MM V l Y_Ni_surety 3 0 0 Z0 55 [(0, .ref 71), (1, .ref a1), (3, .int y5), (4, .long j17), (6, .int s7.2)] [] h := by
      obtain ⟨y26, e27, hf⟩ := mm_letE hf
      refine MM.iinc (k0 := 4) (lv' := [(6, .int y26), (0, .ref 71), (1, .ref a1), (3, .int y5), (4, .long j17)]) (by rw [ic_1]; exact e27) rfl (Nat.le_of_ble_eq_true rfl) rfl d_Ni_surety_55 rfl ?_
      refine MM.goto (tgt := 17) d_Ni_surety_58 rfl ?_
      obtain rfl := Option.some.inj hf
      have h9 := mm_wxL hx9
      exact MM.sub [1, 2, 3, 4, 0] (by rfl) h9
    clear hf
    have hf := e28
    clear e28
    obtain ⟨m24, m25⟩ := mm_ifE hf
    refine MM.icmp_lt (tgt := 55) d_Ni_surety_40 rfl rfl (fun c23 => ?_) (fun c23 => ?_)
    · replace hf := m24 c23
      obtain rfl := Option.some.inj hf
      exact MM.sub [0, 1, 2, 3, 4] (by rfl) K18
    · replace hf := m25 c23
      refine MM.lload rfl d_Ni_surety_43 rfl ?_
      refine MM.aload_n (i := 0) rfl rfl d_Ni_surety_45 rfl ?_
      refine MM.gR 3 1 tg_71 rq_3_0 rfl lays_3 ww_325 d_Ni_surety_46 rfl ?_
      refine MM.iload rfl d_Ni_surety_49 rfl ?_
      obtain ⟨k19, e20, hf⟩ := mm_bind hf
      refine MM.gL e20 al_72 d_Ni_surety_51 rfl ?_
      refine MM.ladd d_Ni_surety_52 rfl ?_
      obtain ⟨y21, e22, hf⟩ := mm_letE hf
      refine MM.lstore (lv' := [(4, .long y21), (0, .ref 71), (1, .ref a1), (3, .int y5), (6, .int s7.2)]) e22 (Nat.le_of_ble_eq_true rfl) rfl d_Ni_surety_53 rfl ?_
      obtain rfl := Option.some.inj hf
      exact MM.sub [1, 2, 3, 0, 4] (by rfl) K18
theorem d_X_holds_0 : decode cX11_holds 0 = .ok (.aload_n 0, 1) := by decide +kernel
theorem d_X_holds_1 : decode cX11_holds 1 = .ok (.iload_n 1, 1) := by decide +kernel
theorem d_X_holds_2 : decode cX11_holds 2 = .ok (.iload_n 2, 1) := by decide +kernel
theorem d_X_holds_3 : decode cX11_holds 3 = .ok (.invokevirtual 283, 3) := by decide +kernel
theorem d_X_holds_6 : decode cX11_holds 6 = .ok (.ifCond .ne 5, 3) := by decide +kernel
theorem d_X_holds_9 : decode cX11_holds 9 = .ok (.iconst (-1), 1) := by decide +kernel
theorem d_X_holds_10 : decode cX11_holds 10 = .ok (.ireturn, 1) := by decide +kernel
theorem d_X_holds_11 : decode cX11_holds 11 = .ok (.aload_n 0, 1) := by decide +kernel
theorem d_X_holds_12 : decode cX11_holds 12 = .ok (.getfield 64, 3) := by decide +kernel
theorem d_X_holds_15 : decode cX11_holds 15 = .ok (.aload_n 0, 1) := by decide +kernel
theorem d_X_holds_16 : decode cX11_holds 16 = .ok (.getfield 81, 3) := by decide +kernel
theorem d_X_holds_19 : decode cX11_holds 19 = .ok (.aload_n 0, 1) := by decide +kernel
theorem d_X_holds_20 : decode cX11_holds 20 = .ok (.getfield 19, 3) := by decide +kernel
theorem d_X_holds_23 : decode cX11_holds 23 = .ok (.getfield 189, 3) := by decide +kernel
theorem d_X_holds_26 : decode cX11_holds 26 = .ok (.iload_n 1, 1) := by decide +kernel
theorem d_X_holds_27 : decode cX11_holds 27 = .ok (.iaload, 1) := by decide +kernel
theorem d_X_holds_28 : decode cX11_holds 28 = .ok (.invokevirtual 292, 3) := by decide +kernel
theorem d_X_holds_31 : decode cX11_holds 31 = .ok (.l2i, 1) := by decide +kernel
theorem d_X_holds_32 : decode cX11_holds 32 = .ok (.ireturn, 1) := by decide +kernel
noncomputable def f_X_holds (x1 : Int32) (x2 : Int32) (h : mm_H) : Option (Int32 × mm_H) := (f_X_passNights x1 x2 h).bind fun v2 => if v2.1 = 0 then (some ((-1), v2.2)) else ((mm_gT v2.2 14).bind fun t3 => (mm_ix x1 10).bind fun k5 => (f_Ni_surety t3 (v2.2.1 36 k5) v2.2).bind fun v8 => some ((Int64.toInt32 v8), v2.2))
theorem T_X_holds (V : mm_V) (l : Launch) (x1 : Int32) (x2 : Int32) (h : mm_H) (r : (Int32 × mm_H)) (hf : f_X_holds x1 x2 h = some r) : MT V l Y_X_holds 7 [.ref 32, .int x1, .int x2] (fun r1 h1 => r1 = some (.int r.1) ∧ h1 = r.2) h := by
  unfold f_X_holds at hf
  refine MT.intro (pn_X rfl) [(0, .ref 32), (1, .int x1), (2, .int x2)] rfl (Nat.le_of_ble_eq_true rfl) ?_
  generalize hZ : mm_Z V _ = Z0
  refine MM.aload_n (i := 0) rfl rfl d_X_holds_0 rfl ?_
  refine MM.iload_n (i := 1) rfl rfl d_X_holds_1 rfl ?_
  refine MM.iload_n (i := 2) rfl rfl d_X_holds_2 rfl ?_
  obtain ⟨v2, e1, hf⟩ := mm_bind hf
  refine MM.callV1 (T_X_passNights V l x1 x2 h _ e1) (fun _ _ q => q) cal_X_passNights rfl tg_32 ct_8 ww_17 ww_1120 ww_1118 (by decide) (by simp [Value.category]) d_X_holds_3 rfl ⟨rfl, rfl⟩ rfl ?_
  obtain ⟨m10, m11⟩ := mm_ifE hf
  refine MM.if_ne (tgt := 11) d_X_holds_6 rfl rfl (fun c9 => ?_) (fun c9 => ?_)
  · replace hf := m11 c9
    refine MM.aload_n (i := 0) rfl rfl d_X_holds_11 rfl ?_
    refine MM.gR 8 39 tg_32 rq_8_10 rfl lays_8 ww_482 d_X_holds_12 rfl ?_
    refine MM.aload_n (i := 0) rfl rfl d_X_holds_15 rfl ?_
    obtain ⟨t3, e4, hf⟩ := mm_bind hf
    obtain ⟨e4, t_t3⟩ := mm_gTE e4
    refine MM.gT e4 tg_32 tq_14 lays_8 ww_486 d_X_holds_16 rfl ?_
    refine MM.aload_n (i := 0) rfl rfl d_X_holds_19 rfl ?_
    refine MM.gR 8 3 tg_32 rq_8_1 rfl lays_8 ww_473 d_X_holds_20 rfl ?_
    refine MM.gR 4 1 tg_35 rq_4_0 rfl lays_4 ww_202 d_X_holds_23 rfl ?_
    refine MM.iload_n (i := 1) rfl rfl d_X_holds_26 rfl ?_
    obtain ⟨k5, e6, hf⟩ := mm_bind hf
    refine MM.gI e6 al_36 d_X_holds_27 rfl ?_
    obtain ⟨v8, e7, hf⟩ := mm_bind hf
    refine MM.callV1 (T_Ni_surety V l t3 (v2.2.1 36 k5) v2.2 _ e7) (fun _ _ q => q) cal_Ni_surety rfl tg_71 ct_3 ww_1167 ww_1166 ww_1165 (by decide) (by simp [Value.category]) d_X_holds_28 rfl ⟨rfl, rfl⟩ rfl ?_
    refine MM.l2i d_X_holds_31 rfl ?_
    obtain rfl := Option.some.inj hf
    subst hZ
    exact MM.iret rfl d_X_holds_32 ⟨rfl, rfl⟩
  · replace hf := m10 c9
    refine MM.iconst ic_m1 d_X_holds_9 rfl ?_
    obtain rfl := Option.some.inj hf
    subst hZ
    exact MM.iret rfl d_X_holds_10 ⟨rfl, rfl⟩
theorem d_Co_fewestPayments_0 : decode cX0_fewestPayments 0 = .ok (.aload_n 0, 1) := by decide +kernel
theorem d_Co_fewestPayments_1 : decode cX0_fewestPayments 1 = .ok (.getfield 19, 3) := by decide +kernel
theorem d_Co_fewestPayments_4 : decode cX0_fewestPayments 4 = .ok (.iconst 0, 1) := by decide +kernel
theorem d_Co_fewestPayments_5 : decode cX0_fewestPayments 5 = .ok (.iconst 0, 1) := by decide +kernel
theorem d_Co_fewestPayments_6 : decode cX0_fewestPayments 6 = .ok (.iastore, 1) := by decide +kernel
theorem d_Co_fewestPayments_7 : decode cX0_fewestPayments 7 = .ok (.iconst 1, 1) := by decide +kernel
theorem d_Co_fewestPayments_8 : decode cX0_fewestPayments 8 = .ok (.aload_n 1, 1) := by decide +kernel
theorem d_Co_fewestPayments_9 : decode cX0_fewestPayments 9 = .ok (.getfield 63, 3) := by decide +kernel
theorem d_Co_fewestPayments_12 : decode cX0_fewestPayments 12 = .ok (.ishl, 1) := by decide +kernel
theorem d_Co_fewestPayments_13 : decode cX0_fewestPayments 13 = .ok (.iconst 1, 1) := by decide +kernel
theorem d_Co_fewestPayments_14 : decode cX0_fewestPayments 14 = .ok (.isub, 1) := by decide +kernel
theorem d_Co_fewestPayments_15 : decode cX0_fewestPayments 15 = .ok (.istore_n 3, 1) := by decide +kernel
theorem d_Co_fewestPayments_16 : decode cX0_fewestPayments 16 = .ok (.iconst 1, 1) := by decide +kernel
theorem d_Co_fewestPayments_17 : decode cX0_fewestPayments 17 = .ok (.istore 4, 2) := by decide +kernel
theorem d_Co_fewestPayments_19 : decode cX0_fewestPayments 19 = .ok (.iload 4, 2) := by decide +kernel
theorem d_Co_fewestPayments_21 : decode cX0_fewestPayments 21 = .ok (.iload_n 3, 1) := by decide +kernel
theorem d_Co_fewestPayments_22 : decode cX0_fewestPayments 22 = .ok (.if_icmp .gt 98, 3) := by decide +kernel
theorem d_Co_fewestPayments_25 : decode cX0_fewestPayments 25 = .ok (.iconst 0, 1) := by decide +kernel
theorem d_Co_fewestPayments_26 : decode cX0_fewestPayments 26 = .ok (.istore 5, 2) := by decide +kernel
theorem d_Co_fewestPayments_28 : decode cX0_fewestPayments 28 = .ok (.iconst 0, 1) := by decide +kernel
theorem d_Co_fewestPayments_29 : decode cX0_fewestPayments 29 = .ok (.istore 6, 2) := by decide +kernel
theorem d_Co_fewestPayments_31 : decode cX0_fewestPayments 31 = .ok (.iconst 0, 1) := by decide +kernel
theorem d_Co_fewestPayments_32 : decode cX0_fewestPayments 32 = .ok (.istore 7, 2) := by decide +kernel
theorem d_Co_fewestPayments_34 : decode cX0_fewestPayments 34 = .ok (.iload 7, 2) := by decide +kernel
theorem d_Co_fewestPayments_36 : decode cX0_fewestPayments 36 = .ok (.aload_n 1, 1) := by decide +kernel
theorem d_Co_fewestPayments_37 : decode cX0_fewestPayments 37 = .ok (.getfield 63, 3) := by decide +kernel
theorem d_Co_fewestPayments_40 : decode cX0_fewestPayments 40 = .ok (.if_icmp .ge 53, 3) := by decide +kernel
theorem d_Co_fewestPayments_43 : decode cX0_fewestPayments 43 = .ok (.iload 4, 2) := by decide +kernel
theorem d_Co_fewestPayments_45 : decode cX0_fewestPayments 45 = .ok (.iload 7, 2) := by decide +kernel
theorem d_Co_fewestPayments_47 : decode cX0_fewestPayments 47 = .ok (.invokestatic 33, 3) := by decide +kernel
theorem d_Co_fewestPayments_50 : decode cX0_fewestPayments 50 = .ok (.iconst 1, 1) := by decide +kernel
theorem d_Co_fewestPayments_51 : decode cX0_fewestPayments 51 = .ok (.if_icmp .ne 36, 3) := by decide +kernel
theorem d_Co_fewestPayments_54 : decode cX0_fewestPayments 54 = .ok (.iload 5, 2) := by decide +kernel
theorem d_Co_fewestPayments_56 : decode cX0_fewestPayments 56 = .ok (.aload_n 0, 1) := by decide +kernel
theorem d_Co_fewestPayments_57 : decode cX0_fewestPayments 57 = .ok (.getfield 19, 3) := by decide +kernel
theorem d_Co_fewestPayments_60 : decode cX0_fewestPayments 60 = .ok (.iload 4, 2) := by decide +kernel
theorem d_Co_fewestPayments_62 : decode cX0_fewestPayments 62 = .ok (.iconst 1, 1) := by decide +kernel
theorem d_Co_fewestPayments_63 : decode cX0_fewestPayments 63 = .ok (.iload 7, 2) := by decide +kernel
theorem d_Co_fewestPayments_65 : decode cX0_fewestPayments 65 = .ok (.ishl, 1) := by decide +kernel
theorem d_Co_fewestPayments_66 : decode cX0_fewestPayments 66 = .ok (.iconst (-1), 1) := by decide +kernel
theorem d_Co_fewestPayments_67 : decode cX0_fewestPayments 67 = .ok (.ixor, 1) := by decide +kernel
theorem d_Co_fewestPayments_68 : decode cX0_fewestPayments 68 = .ok (.iand, 1) := by decide +kernel
theorem d_Co_fewestPayments_69 : decode cX0_fewestPayments 69 = .ok (.iaload, 1) := by decide +kernel
theorem d_Co_fewestPayments_70 : decode cX0_fewestPayments 70 = .ok (.invokestatic 70, 3) := by decide +kernel
theorem d_Co_fewestPayments_73 : decode cX0_fewestPayments 73 = .ok (.istore 5, 2) := by decide +kernel
theorem d_Co_fewestPayments_75 : decode cX0_fewestPayments 75 = .ok (.iload 6, 2) := by decide +kernel
theorem d_Co_fewestPayments_77 : decode cX0_fewestPayments 77 = .ok (.aload_n 2, 1) := by decide +kernel
theorem d_Co_fewestPayments_78 : decode cX0_fewestPayments 78 = .ok (.getfield 75, 3) := by decide +kernel
theorem d_Co_fewestPayments_81 : decode cX0_fewestPayments 81 = .ok (.iload 7, 2) := by decide +kernel
theorem d_Co_fewestPayments_83 : decode cX0_fewestPayments 83 = .ok (.iaload, 1) := by decide +kernel
theorem d_Co_fewestPayments_84 : decode cX0_fewestPayments 84 = .ok (.iadd, 1) := by decide +kernel
theorem d_Co_fewestPayments_85 : decode cX0_fewestPayments 85 = .ok (.istore 6, 2) := by decide +kernel
theorem d_Co_fewestPayments_87 : decode cX0_fewestPayments 87 = .ok (.iinc 7 1, 3) := by decide +kernel
theorem d_Co_fewestPayments_90 : decode cX0_fewestPayments 90 = .ok (.goto (-56), 3) := by decide +kernel
theorem d_Co_fewestPayments_93 : decode cX0_fewestPayments 93 = .ok (.aload_n 0, 1) := by decide +kernel
theorem d_Co_fewestPayments_94 : decode cX0_fewestPayments 94 = .ok (.getfield 19, 3) := by decide +kernel
theorem d_Co_fewestPayments_97 : decode cX0_fewestPayments 97 = .ok (.iload 4, 2) := by decide +kernel
theorem d_Co_fewestPayments_99 : decode cX0_fewestPayments 99 = .ok (.iload 6, 2) := by decide +kernel
theorem d_Co_fewestPayments_101 : decode cX0_fewestPayments 101 = .ok (.ifCond .ne 10, 3) := by decide +kernel
theorem d_Co_fewestPayments_104 : decode cX0_fewestPayments 104 = .ok (.iload 5, 2) := by decide +kernel
theorem d_Co_fewestPayments_106 : decode cX0_fewestPayments 106 = .ok (.iconst 1, 1) := by decide +kernel
theorem d_Co_fewestPayments_107 : decode cX0_fewestPayments 107 = .ok (.iadd, 1) := by decide +kernel
theorem d_Co_fewestPayments_108 : decode cX0_fewestPayments 108 = .ok (.goto 5, 3) := by decide +kernel
theorem d_Co_fewestPayments_111 : decode cX0_fewestPayments 111 = .ok (.iload 5, 2) := by decide +kernel
theorem d_Co_fewestPayments_113 : decode cX0_fewestPayments 113 = .ok (.iastore, 1) := by decide +kernel
theorem d_Co_fewestPayments_114 : decode cX0_fewestPayments 114 = .ok (.iinc 4 1, 3) := by decide +kernel
theorem d_Co_fewestPayments_117 : decode cX0_fewestPayments 117 = .ok (.goto (-98), 3) := by decide +kernel
theorem d_Co_fewestPayments_120 : decode cX0_fewestPayments 120 = .ok (.aload_n 1, 1) := by decide +kernel
theorem d_Co_fewestPayments_121 : decode cX0_fewestPayments 121 = .ok (.getfield 63, 3) := by decide +kernel
theorem d_Co_fewestPayments_124 : decode cX0_fewestPayments 124 = .ok (.aload_n 0, 1) := by decide +kernel
theorem d_Co_fewestPayments_125 : decode cX0_fewestPayments 125 = .ok (.getfield 19, 3) := by decide +kernel
theorem d_Co_fewestPayments_128 : decode cX0_fewestPayments 128 = .ok (.iload_n 3, 1) := by decide +kernel
theorem d_Co_fewestPayments_129 : decode cX0_fewestPayments 129 = .ok (.iaload, 1) := by decide +kernel
theorem d_Co_fewestPayments_130 : decode cX0_fewestPayments 130 = .ok (.isub, 1) := by decide +kernel
theorem d_Co_fewestPayments_131 : decode cX0_fewestPayments 131 = .ok (.ireturn, 1) := by decide +kernel
noncomputable def f_Co_fewestPayments (a1 : Nat) (a2 : Nat) (h : mm_H) : Option (Int32 × mm_H) := if mm_tg a1 = 7 ∧ mm_tg a2 = 4 then (mm_let (mm_pI h 67 0 0) fun h1 => mm_let (((1 : Int32) <<< ((h1.1 a1 0) &&& 31)) - 1) fun y3 => (mm_while (σ := (Int32 × mm_H)) (ρ := mm_H) (fun s5 => if y3 < s5.1 then (some (Sum.inr s5.2)) else ((mm_while (σ := (Int32 × Int32 × Int32)) (ρ := (Int32 × Int32)) (fun s11 => if (s5.2.1 a1 0) ≤ s11.2.2 then (some (Sum.inr (s11.1, s11.2.1))) else ((f_X_bit s5.1 s11.2.2).bind fun v18 => (if v18 = 1 then ((mm_ix (s5.1 &&& (((1 : Int32) <<< (s11.2.2 &&& 31)) ^^^ (-1))) 64).bind fun k21 => (f_JM_max s11.1 (s5.2.1 67 k21)).bind fun v24 => (mm_ix s11.2.2 6).bind fun k25 => mm_let (s11.2.1 + (s5.2.1 (a2 + 5) k25)) fun y27 => some (v24, y27)) else (some (s11.1, s11.2.1)) : Option (Int32 × Int32)).bind fun j19 => mm_let (s11.2.2 + 1) fun y32 => some (Sum.inl (j19.1, j19.2, y32)))) (0, 0, 0)).bind fun v14 => (if v14.2 = 0 then (some (v14.1 + 1)) else (some v14.1) : Option Int32).bind fun j38 => (mm_ix s5.1 64).bind fun k43 => mm_let (mm_pI s5.2 67 k43 j38) fun h45 => mm_let (s5.1 + 1) fun y47 => some (Sum.inl (y47, h45)))) (1, h1)).bind fun v8 => (mm_ix y3 64).bind fun k53 => some (((v8.1 a1 0) - (v8.1 67 k53)), v8)) else none
theorem T_Co_fewestPayments (V : mm_V) (l : Launch) (a1 : Nat) (a2 : Nat) (h : mm_H) (r : (Int32 × mm_H)) (hf : f_Co_fewestPayments a1 a2 h = some r) : MT V l Y_Co_fewestPayments 2 [.ref 64, .ref a1, .ref a2] (fun r1 h1 => r1 = some (.int r.1) ∧ h1 = r.2) h := by
  unfold f_Co_fewestPayments at hf
  obtain ⟨⟨t_a1, t_a2⟩, hf⟩ := mm_chkE hf
  refine MT.intro (pn_Co rfl) [(0, .ref 64), (1, .ref a1), (2, .ref a2)] rfl (Nat.le_of_ble_eq_true rfl) ?_
  generalize hZ : mm_Z V _ = Z0
  refine MM.aload_n (i := 0) rfl rfl d_Co_fewestPayments_0 rfl ?_
  refine MM.gR 0 3 tg_64 rq_0_2 rfl lays_0 ww_295 d_Co_fewestPayments_1 rfl ?_
  refine MM.iconst ic_0 d_Co_fewestPayments_4 rfl ?_
  refine MM.iconst ic_0 d_Co_fewestPayments_5 rfl ?_
  obtain ⟨h1, e2, hf⟩ := mm_letE hf
  refine MM.sI ix_0_64 e2 al_67 d_Co_fewestPayments_6 rfl ?_
  refine MM.iconst ic_1 d_Co_fewestPayments_7 rfl ?_
  refine MM.aload_n (i := 1) rfl rfl d_Co_fewestPayments_8 rfl ?_
  refine MM.getI 7 t_a1 lays_7 gq_7_0 ww_366 d_Co_fewestPayments_9 rfl ?_
  refine MM.ishl d_Co_fewestPayments_12 rfl ?_
  refine MM.iconst ic_1 d_Co_fewestPayments_13 rfl ?_
  refine MM.isub d_Co_fewestPayments_14 rfl ?_
  obtain ⟨y3, e4, hf⟩ := mm_letE hf
  refine MM.istore_n (i := 3) (lv' := [(3, .int y3), (0, .ref 64), (1, .ref a1), (2, .ref a2)]) e4 rfl (Nat.le_of_ble_eq_true rfl) rfl d_Co_fewestPayments_15 rfl ?_
  refine MM.iconst ic_1 d_Co_fewestPayments_16 rfl ?_
  refine MM.istore (lv' := [(4, .int 1), (3, .int y3), (0, .ref 64), (1, .ref a1), (2, .ref a2)]) rfl (Nat.le_of_ble_eq_true rfl) rfl d_Co_fewestPayments_17 rfl ?_
  obtain ⟨v8, e10, hf⟩ := mm_bind hf
  have K9 : MM V l Y_Co_fewestPayments 2 0 0 Z0 120 [(0, .ref 64), (1, .ref a1), (3, .int y3)] [] v8 := by
    refine MM.aload_n (i := 1) rfl rfl d_Co_fewestPayments_120 rfl ?_
    refine MM.getI 7 t_a1 lays_7 gq_7_0 ww_366 d_Co_fewestPayments_121 rfl ?_
    refine MM.aload_n (i := 0) rfl rfl d_Co_fewestPayments_124 rfl ?_
    refine MM.gR 0 3 tg_64 rq_0_2 rfl lays_0 ww_295 d_Co_fewestPayments_125 rfl ?_
    refine MM.iload_n (i := 3) rfl rfl d_Co_fewestPayments_128 rfl ?_
    obtain ⟨k53, e54, hf⟩ := mm_bind hf
    refine MM.gI e54 al_67 d_Co_fewestPayments_129 rfl ?_
    refine MM.isub d_Co_fewestPayments_130 rfl ?_
    obtain rfl := Option.some.inj hf
    subst hZ
    exact MM.iret rfl d_Co_fewestPayments_131 ⟨rfl, rfl⟩
  clear hf
  refine MM.sub [2, 3, 4, 1, 0] (by rfl) (mm_while_ind (fun s5 => MM V l Y_Co_fewestPayments 2 0 0 Z0 19 [(0, .ref 64), (1, .ref a1), (2, .ref a2), (3, .int y3), (4, .int s5.1)] [] s5.2) e10 (fun s5 q6 hf hx7 => ?_))
  refine MM.iload rfl d_Co_fewestPayments_19 rfl ?_
  refine MM.iload_n (i := 3) rfl rfl d_Co_fewestPayments_21 rfl ?_
  obtain ⟨m51, m52⟩ := mm_ifE hf
  refine MM.icmp_gt (tgt := 120) d_Co_fewestPayments_22 rfl rfl (fun c50 => ?_) (fun c50 => ?_)
  · replace hf := m51 c50
    obtain rfl := Option.some.inj hf
    obtain rfl := Option.some.inj (mm_wxR hx7)
    exact MM.sub [0, 1, 3] (by rfl) K9
  · replace hf := m52 c50
    refine MM.iconst ic_0 d_Co_fewestPayments_25 rfl ?_
    refine MM.istore (lv' := [(5, .int 0), (0, .ref 64), (1, .ref a1), (2, .ref a2), (3, .int y3), (4, .int s5.1)]) rfl (Nat.le_of_ble_eq_true rfl) rfl d_Co_fewestPayments_26 rfl ?_
    refine MM.iconst ic_0 d_Co_fewestPayments_28 rfl ?_
    refine MM.istore (lv' := [(6, .int 0), (5, .int 0), (0, .ref 64), (1, .ref a1), (2, .ref a2), (3, .int y3), (4, .int s5.1)]) rfl (Nat.le_of_ble_eq_true rfl) rfl d_Co_fewestPayments_29 rfl ?_
    refine MM.iconst ic_0 d_Co_fewestPayments_31 rfl ?_
    refine MM.istore (lv' := [(7, .int 0), (6, .int 0), (5, .int 0), (0, .ref 64), (1, .ref a1), (2, .ref a2), (3, .int y3), (4, .int s5.1)]) rfl (Nat.le_of_ble_eq_true rfl) rfl d_Co_fewestPayments_32 rfl ?_
    obtain ⟨v14, e16, hf⟩ := mm_bind hf
    have K15 : MM V l Y_Co_fewestPayments 2 0 0 Z0 93 [(0, .ref 64), (1, .ref a1), (2, .ref a2), (3, .int y3), (4, .int s5.1), (5, .int v14.1), (6, .int v14.2)] [] s5.2 := by
      refine MM.aload_n (i := 0) rfl rfl d_Co_fewestPayments_93 rfl ?_
      refine MM.gR 0 3 tg_64 rq_0_2 rfl lays_0 ww_295 d_Co_fewestPayments_94 rfl ?_
      refine MM.iload rfl d_Co_fewestPayments_97 rfl ?_
      refine MM.iload rfl d_Co_fewestPayments_99 rfl ?_
      obtain ⟨j38, e49, hf⟩ := mm_bind hf
      have K39 : MM V l Y_Co_fewestPayments 2 0 0 Z0 113 [(0, .ref 64), (1, .ref a1), (2, .ref a2), (3, .int y3), (4, .int s5.1)] [.int j38, .int s5.1, .ref 67] s5.2 := by
        obtain ⟨k43, e44, hf⟩ := mm_bind hf
        obtain ⟨h45, e46, hf⟩ := mm_letE hf
        refine MM.sI e44 e46 al_67 d_Co_fewestPayments_113 rfl ?_
        obtain ⟨y47, e48, hf⟩ := mm_letE hf
        refine MM.iinc (k0 := 4) (lv' := [(4, .int y47), (0, .ref 64), (1, .ref a1), (2, .ref a2), (3, .int y3)]) (by rw [ic_1]; exact e48) rfl (Nat.le_of_ble_eq_true rfl) rfl d_Co_fewestPayments_114 rfl ?_
        refine MM.goto (tgt := 19) d_Co_fewestPayments_117 rfl ?_
        obtain rfl := Option.some.inj hf
        have h9 := mm_wxL hx7
        exact MM.sub [1, 2, 3, 4, 0] (by rfl) h9
      clear hf
      have hf := e49
      clear e49
      obtain ⟨m41, m42⟩ := mm_ifE hf
      refine MM.if_ne (tgt := 111) d_Co_fewestPayments_101 rfl rfl (fun c40 => ?_) (fun c40 => ?_)
      · replace hf := m42 c40
        refine MM.iload rfl d_Co_fewestPayments_111 rfl ?_
        obtain rfl := Option.some.inj hf
        exact MM.sub [0, 1, 2, 3, 4] (by rfl) K39
      · replace hf := m41 c40
        refine MM.iload rfl d_Co_fewestPayments_104 rfl ?_
        refine MM.iconst ic_1 d_Co_fewestPayments_106 rfl ?_
        refine MM.iadd d_Co_fewestPayments_107 rfl ?_
        refine MM.goto (tgt := 113) d_Co_fewestPayments_108 rfl ?_
        obtain rfl := Option.some.inj hf
        exact MM.sub [0, 1, 2, 3, 4] (by rfl) K39
    clear hf
    refine MM.sub [3, 4, 5, 6, 7, 2, 1, 0] (by rfl) (mm_while_ind (fun s11 => MM V l Y_Co_fewestPayments 2 0 0 Z0 34 [(0, .ref 64), (1, .ref a1), (2, .ref a2), (3, .int y3), (4, .int s5.1), (5, .int s11.1), (6, .int s11.2.1), (7, .int s11.2.2)] [] s5.2) e16 (fun s11 q12 hf hx13 => ?_))
    refine MM.iload rfl d_Co_fewestPayments_34 rfl ?_
    refine MM.aload_n (i := 1) rfl rfl d_Co_fewestPayments_36 rfl ?_
    refine MM.getI 7 t_a1 lays_7 gq_7_0 ww_366 d_Co_fewestPayments_37 rfl ?_
    obtain ⟨m36, m37⟩ := mm_ifE hf
    refine MM.icmp_ge (tgt := 93) d_Co_fewestPayments_40 rfl rfl (fun c35 => ?_) (fun c35 => ?_)
    · replace hf := m36 c35
      obtain rfl := Option.some.inj hf
      obtain rfl := Option.some.inj (mm_wxR hx13)
      exact MM.sub [0, 1, 2, 3, 4, 5, 6] (by rfl) K15
    · replace hf := m37 c35
      refine MM.iload rfl d_Co_fewestPayments_43 rfl ?_
      refine MM.iload rfl d_Co_fewestPayments_45 rfl ?_
      obtain ⟨v18, e17, hf⟩ := mm_bind hf
      refine MM.callSN1 (T_X_bit V l s5.1 s11.2.2 s5.2 _ e17) (fun _ _ q => q) cal_X_bit rfl ww_763 ww_1061n (by decide) (by simp [Value.category]) d_Co_fewestPayments_47 rfl ⟨rfl, rfl⟩ rfl ?_
      refine MM.iconst ic_1 d_Co_fewestPayments_50 rfl ?_
      obtain ⟨j19, e34, hf⟩ := mm_bind hf
      have K20 : MM V l Y_Co_fewestPayments 2 0 0 Z0 87 [(0, .ref 64), (1, .ref a1), (2, .ref a2), (3, .int y3), (4, .int s5.1), (5, .int j19.1), (6, .int j19.2), (7, .int s11.2.2)] [] s5.2 := by
        obtain ⟨y32, e33, hf⟩ := mm_letE hf
        refine MM.iinc (k0 := 7) (lv' := [(7, .int y32), (0, .ref 64), (1, .ref a1), (2, .ref a2), (3, .int y3), (4, .int s5.1), (5, .int j19.1), (6, .int j19.2)]) (by rw [ic_1]; exact e33) rfl (Nat.le_of_ble_eq_true rfl) rfl d_Co_fewestPayments_87 rfl ?_
        refine MM.goto (tgt := 34) d_Co_fewestPayments_90 rfl ?_
        obtain rfl := Option.some.inj hf
        have h9 := mm_wxL hx13
        exact MM.sub [1, 2, 3, 4, 5, 6, 7, 0] (by rfl) h9
      clear hf
      have hf := e34
      clear e34
      obtain ⟨m30, m31⟩ := mm_ifE hf
      refine MM.icmp_ne (tgt := 87) d_Co_fewestPayments_51 rfl rfl (fun c29 => ?_) (fun c29 => ?_)
      · replace hf := m31 c29
        obtain rfl := Option.some.inj hf
        exact MM.sub [0, 1, 2, 3, 4, 5, 6, 7] (by rfl) K20
      · replace hf := m30 c29
        refine MM.iload rfl d_Co_fewestPayments_54 rfl ?_
        refine MM.aload_n (i := 0) rfl rfl d_Co_fewestPayments_56 rfl ?_
        refine MM.gR 0 3 tg_64 rq_0_2 rfl lays_0 ww_295 d_Co_fewestPayments_57 rfl ?_
        refine MM.iload rfl d_Co_fewestPayments_60 rfl ?_
        refine MM.iconst ic_1 d_Co_fewestPayments_62 rfl ?_
        refine MM.iload rfl d_Co_fewestPayments_63 rfl ?_
        refine MM.ishl d_Co_fewestPayments_65 rfl ?_
        refine MM.iconst ic_m1 d_Co_fewestPayments_66 rfl ?_
        refine MM.ixor d_Co_fewestPayments_67 rfl ?_
        refine MM.iand d_Co_fewestPayments_68 rfl ?_
        obtain ⟨k21, e22, hf⟩ := mm_bind hf
        refine MM.gI e22 al_67 d_Co_fewestPayments_69 rfl ?_
        obtain ⟨v24, e23, hf⟩ := mm_bind hf
        refine MM.callS1 (T_JM_max V l s11.1 (s5.2.1 67 k21) s5.2 _ e23) (fun _ _ q => q) cal_JM_max rfl ww_604 ww_1177 (by decide) (by simp [Value.category]) d_Co_fewestPayments_70 rfl ⟨rfl, rfl⟩ rfl ?_
        refine MM.istore (lv' := [(5, .int v24), (0, .ref 64), (1, .ref a1), (2, .ref a2), (3, .int y3), (4, .int s5.1), (6, .int s11.2.1), (7, .int s11.2.2)]) rfl (Nat.le_of_ble_eq_true rfl) rfl d_Co_fewestPayments_73 rfl ?_
        refine MM.iload rfl d_Co_fewestPayments_75 rfl ?_
        refine MM.aload_n (i := 2) rfl rfl d_Co_fewestPayments_77 rfl ?_
        refine MM.gR 4 5 t_a2 rq_4_4 rfl lays_4 ww_210 d_Co_fewestPayments_78 rfl ?_
        refine MM.iload rfl d_Co_fewestPayments_81 rfl ?_
        obtain ⟨k25, e26, hf⟩ := mm_bind hf
        refine MM.gI e26 (al_4_4f t_a2) d_Co_fewestPayments_83 rfl ?_
        refine MM.iadd d_Co_fewestPayments_84 rfl ?_
        obtain ⟨y27, e28, hf⟩ := mm_letE hf
        refine MM.istore (lv' := [(6, .int y27), (5, .int v24), (0, .ref 64), (1, .ref a1), (2, .ref a2), (3, .int y3), (4, .int s5.1), (7, .int s11.2.2)]) e28 (Nat.le_of_ble_eq_true rfl) rfl d_Co_fewestPayments_85 rfl ?_
        obtain rfl := Option.some.inj hf
        exact MM.sub [2, 3, 4, 5, 6, 1, 0, 7] (by rfl) K20
theorem d_X_settle_0 : decode cX11_settle 0 = .ok (.aload_n 0, 1) := by decide +kernel
theorem d_X_settle_1 : decode cX11_settle 1 = .ok (.getfield 50, 3) := by decide +kernel
theorem d_X_settle_4 : decode cX11_settle 4 = .ok (.aload_n 0, 1) := by decide +kernel
theorem d_X_settle_5 : decode cX11_settle 5 = .ok (.getfield 81, 3) := by decide +kernel
theorem d_X_settle_8 : decode cX11_settle 8 = .ok (.aload_n 0, 1) := by decide +kernel
theorem d_X_settle_9 : decode cX11_settle 9 = .ok (.getfield 19, 3) := by decide +kernel
theorem d_X_settle_12 : decode cX11_settle 12 = .ok (.invokevirtual 296, 3) := by decide +kernel
theorem d_X_settle_15 : decode cX11_settle 15 = .ok (.ireturn, 1) := by decide +kernel
noncomputable def f_X_settle (h : mm_H) : Option (Int32 × mm_H) := (mm_gT h 14).bind fun t1 => (f_Co_fewestPayments t1 35 h).bind fun v4 => some (v4.1, v4.2)
theorem T_X_settle (V : mm_V) (l : Launch) (h : mm_H) (r : (Int32 × mm_H)) (hf : f_X_settle h = some r) : MT V l Y_X_settle 3 [.ref 32] (fun r1 h1 => r1 = some (.int r.1) ∧ h1 = r.2) h := by
  unfold f_X_settle at hf
  refine MT.intro (pn_X rfl) [(0, .ref 32)] rfl (Nat.le_of_ble_eq_true rfl) ?_
  generalize hZ : mm_Z V _ = Z0
  refine MM.aload_n (i := 0) rfl rfl d_X_settle_0 rfl ?_
  refine MM.gR 8 32 tg_32 rq_8_8 rfl lays_8 ww_480 d_X_settle_1 rfl ?_
  refine MM.aload_n (i := 0) rfl rfl d_X_settle_4 rfl ?_
  obtain ⟨t1, e2, hf⟩ := mm_bind hf
  obtain ⟨e2, t_t1⟩ := mm_gTE e2
  refine MM.gT e2 tg_32 tq_14 lays_8 ww_486 d_X_settle_5 rfl ?_
  refine MM.aload_n (i := 0) rfl rfl d_X_settle_8 rfl ?_
  refine MM.gR 8 3 tg_32 rq_8_1 rfl lays_8 ww_473 d_X_settle_9 rfl ?_
  obtain ⟨v4, e3, hf⟩ := mm_bind hf
  refine MM.callV1 (T_Co_fewestPayments V l t1 35 h _ e3) (fun _ _ q => q) cal_Co_fewestPayments rfl tg_64 ct_0 ww_1175 ww_1174 ww_1173 (by decide) (by simp [Value.category]) d_X_settle_12 rfl ⟨rfl, rfl⟩ rfl ?_
  obtain rfl := Option.some.inj hf
  subst hZ
  exact MM.iret rfl d_X_settle_15 ⟨rfl, rfl⟩
theorem d_Fe_invite_0 : decode cX1_invite 0 = .ok (.aload_n 0, 1) := by decide +kernel
theorem d_Fe_invite_1 : decode cX1_invite 1 = .ok (.iconst 0, 1) := by decide +kernel
theorem d_Fe_invite_2 : decode cX1_invite 2 = .ok (.putfield 18, 3) := by decide +kernel
theorem d_Fe_invite_5 : decode cX1_invite 5 = .ok (.iconst 0, 1) := by decide +kernel
theorem d_Fe_invite_6 : decode cX1_invite 6 = .ok (.istore 4, 2) := by decide +kernel
theorem d_Fe_invite_8 : decode cX1_invite 8 = .ok (.iload 4, 2) := by decide +kernel
theorem d_Fe_invite_10 : decode cX1_invite 10 = .ok (.aload_n 1, 1) := by decide +kernel
theorem d_Fe_invite_11 : decode cX1_invite 11 = .ok (.getfield 22, 3) := by decide +kernel
theorem d_Fe_invite_14 : decode cX1_invite 14 = .ok (.if_icmp .ge 53, 3) := by decide +kernel
theorem d_Fe_invite_17 : decode cX1_invite 17 = .ok (.iload_n 3, 1) := by decide +kernel
theorem d_Fe_invite_18 : decode cX1_invite 18 = .ok (.iload 4, 2) := by decide +kernel
theorem d_Fe_invite_20 : decode cX1_invite 20 = .ok (.invokestatic 27, 3) := by decide +kernel
theorem d_Fe_invite_23 : decode cX1_invite 23 = .ok (.iconst 1, 1) := by decide +kernel
theorem d_Fe_invite_24 : decode cX1_invite 24 = .ok (.if_icmp .ne 37, 3) := by decide +kernel
theorem d_Fe_invite_27 : decode cX1_invite 27 = .ok (.aload_n 0, 1) := by decide +kernel
theorem d_Fe_invite_28 : decode cX1_invite 28 = .ok (.getfield 18, 3) := by decide +kernel
theorem d_Fe_invite_31 : decode cX1_invite 31 = .ok (.iconst 3, 1) := by decide +kernel
theorem d_Fe_invite_32 : decode cX1_invite 32 = .ok (.if_icmp .ge 29, 3) := by decide +kernel
theorem d_Fe_invite_35 : decode cX1_invite 35 = .ok (.aload_n 0, 1) := by decide +kernel
theorem d_Fe_invite_36 : decode cX1_invite 36 = .ok (.getfield 11, 3) := by decide +kernel
theorem d_Fe_invite_39 : decode cX1_invite 39 = .ok (.aload_n 0, 1) := by decide +kernel
theorem d_Fe_invite_40 : decode cX1_invite 40 = .ok (.getfield 18, 3) := by decide +kernel
theorem d_Fe_invite_43 : decode cX1_invite 43 = .ok (.aload_n 2, 1) := by decide +kernel
theorem d_Fe_invite_44 : decode cX1_invite 44 = .ok (.aload_n 1, 1) := by decide +kernel
theorem d_Fe_invite_45 : decode cX1_invite 45 = .ok (.iload 4, 2) := by decide +kernel
theorem d_Fe_invite_47 : decode cX1_invite 47 = .ok (.invokevirtual 31, 3) := by decide +kernel
theorem d_Fe_invite_50 : decode cX1_invite 50 = .ok (.iastore, 1) := by decide +kernel
theorem d_Fe_invite_51 : decode cX1_invite 51 = .ok (.aload_n 0, 1) := by decide +kernel
theorem d_Fe_invite_52 : decode cX1_invite 52 = .ok (.dup, 1) := by decide +kernel
theorem d_Fe_invite_53 : decode cX1_invite 53 = .ok (.getfield 18, 3) := by decide +kernel
theorem d_Fe_invite_56 : decode cX1_invite 56 = .ok (.iconst 1, 1) := by decide +kernel
theorem d_Fe_invite_57 : decode cX1_invite 57 = .ok (.iadd, 1) := by decide +kernel
theorem d_Fe_invite_58 : decode cX1_invite 58 = .ok (.putfield 18, 3) := by decide +kernel
theorem d_Fe_invite_61 : decode cX1_invite 61 = .ok (.iinc 4 1, 3) := by decide +kernel
theorem d_Fe_invite_64 : decode cX1_invite 64 = .ok (.goto (-56), 3) := by decide +kernel
theorem d_Fe_invite_67 : decode cX1_invite 67 = .ok (.return_, 1) := by decide +kernel
noncomputable def f_Fe_invite (a1 : Nat) (a2 : Nat) (x3 : Int32) (h : mm_H) : Option mm_H := if mm_tg a1 = 7 ∧ mm_tg a2 = 4 then (mm_let (mm_pI h 68 2 0) fun h1 => (mm_while (σ := (Int32 × mm_H)) (ρ := mm_H) (fun s3 => if (s3.2.1 a1 0) ≤ s3.1 then (some (Sum.inr s3.2)) else ((f_X_bit x3 s3.1).bind fun v10 => (if v10 = 1 then (if 3 ≤ (s3.2.1 68 2) then (some s3.2) else ((f_St_known a2 a1 s3.1 s3.2).bind fun v14 => (mm_ix (s3.2.1 68 2) 3).bind fun k15 => mm_let (mm_pI s3.2 69 k15 v14) fun h17 => mm_let (mm_pI h17 68 2 ((h17.1 68 2) + 1)) fun h19 => some h19)) else (some s3.2) : Option mm_H).bind fun j11 => mm_let (s3.1 + 1) fun y27 => some (Sum.inl (y27, j11)))) (0, h1)).bind fun v6 => some v6) else none
theorem T_Fe_invite (V : mm_V) (l : Launch) (a1 : Nat) (a2 : Nat) (x3 : Int32) (h : mm_H) (r : mm_H) (hf : f_Fe_invite a1 a2 x3 h = some r) : MT V l Y_Fe_invite 3 [.ref 68, .ref a1, .ref a2, .int x3] (fun r1 h1 => r1 = none ∧ h1 = r) h := by
  unfold f_Fe_invite at hf
  obtain ⟨⟨t_a1, t_a2⟩, hf⟩ := mm_chkE hf
  refine MT.intro (pn_Fe rfl) [(0, .ref 68), (1, .ref a1), (2, .ref a2), (3, .int x3)] rfl (Nat.le_of_ble_eq_true rfl) ?_
  generalize hZ : mm_Z V _ = Z0
  refine MM.aload_n (i := 0) rfl rfl d_Fe_invite_0 rfl ?_
  refine MM.iconst ic_0 d_Fe_invite_1 rfl ?_
  obtain ⟨h1, e2, hf⟩ := mm_letE hf
  refine MM.putI e2 1 tg_68 lays_1 toks_1 pq_1_2 ww_311 d_Fe_invite_2 rfl ?_
  refine MM.iconst ic_0 d_Fe_invite_5 rfl ?_
  refine MM.istore (lv' := [(4, .int 0), (0, .ref 68), (1, .ref a1), (2, .ref a2), (3, .int x3)]) rfl (Nat.le_of_ble_eq_true rfl) rfl d_Fe_invite_6 rfl ?_
  obtain ⟨v6, e8, hf⟩ := mm_bind hf
  have K7 : MM V l Y_Fe_invite 3 0 0 Z0 67 [] [] v6 := by
    obtain rfl := Option.some.inj hf
    subst hZ
    exact MM.vret rfl d_Fe_invite_67 ⟨rfl, rfl⟩
  clear hf
  refine MM.sub [1, 2, 3, 4, 0] (by rfl) (mm_while_ind (fun s3 => MM V l Y_Fe_invite 3 0 0 Z0 8 [(0, .ref 68), (1, .ref a1), (2, .ref a2), (3, .int x3), (4, .int s3.1)] [] s3.2) e8 (fun s3 q4 hf hx5 => ?_))
  refine MM.iload rfl d_Fe_invite_8 rfl ?_
  refine MM.aload_n (i := 1) rfl rfl d_Fe_invite_10 rfl ?_
  refine MM.getI 7 t_a1 lays_7 gq_7_0 ww_364 d_Fe_invite_11 rfl ?_
  obtain ⟨m31, m32⟩ := mm_ifE hf
  refine MM.icmp_ge (tgt := 67) d_Fe_invite_14 rfl rfl (fun c30 => ?_) (fun c30 => ?_)
  · replace hf := m31 c30
    obtain rfl := Option.some.inj hf
    obtain rfl := Option.some.inj (mm_wxR hx5)
    exact MM.sub [] (by rfl) K7
  · replace hf := m32 c30
    refine MM.iload_n (i := 3) rfl rfl d_Fe_invite_17 rfl ?_
    refine MM.iload rfl d_Fe_invite_18 rfl ?_
    obtain ⟨v10, e9, hf⟩ := mm_bind hf
    refine MM.callSN1 (T_X_bit V l x3 s3.1 s3.2 _ e9) (fun _ _ q => q) cal_X_bit rfl ww_763 ww_1186n (by decide) (by simp [Value.category]) d_Fe_invite_20 rfl ⟨rfl, rfl⟩ rfl ?_
    refine MM.iconst ic_1 d_Fe_invite_23 rfl ?_
    obtain ⟨j11, e29, hf⟩ := mm_bind hf
    have K12 : MM V l Y_Fe_invite 3 0 0 Z0 61 [(0, .ref 68), (1, .ref a1), (2, .ref a2), (3, .int x3), (4, .int s3.1)] [] j11 := by
      obtain ⟨y27, e28, hf⟩ := mm_letE hf
      refine MM.iinc (k0 := 4) (lv' := [(4, .int y27), (0, .ref 68), (1, .ref a1), (2, .ref a2), (3, .int x3)]) (by rw [ic_1]; exact e28) rfl (Nat.le_of_ble_eq_true rfl) rfl d_Fe_invite_61 rfl ?_
      refine MM.goto (tgt := 8) d_Fe_invite_64 rfl ?_
      obtain rfl := Option.some.inj hf
      have h9 := mm_wxL hx5
      exact MM.sub [1, 2, 3, 4, 0] (by rfl) h9
    clear hf
    have hf := e29
    clear e29
    obtain ⟨m25, m26⟩ := mm_ifE hf
    refine MM.icmp_ne (tgt := 61) d_Fe_invite_24 rfl rfl (fun c24 => ?_) (fun c24 => ?_)
    · replace hf := m26 c24
      obtain rfl := Option.some.inj hf
      exact MM.sub [0, 1, 2, 3, 4] (by rfl) K12
    · replace hf := m25 c24
      refine MM.aload_n (i := 0) rfl rfl d_Fe_invite_27 rfl ?_
      refine MM.getI 1 tg_68 lays_1 gq_1_2 ww_311 d_Fe_invite_28 rfl ?_
      refine MM.iconst ic_3 d_Fe_invite_31 rfl ?_
      obtain ⟨m22, m23⟩ := mm_ifE hf
      refine MM.icmp_ge (tgt := 61) d_Fe_invite_32 rfl rfl (fun c21 => ?_) (fun c21 => ?_)
      · replace hf := m22 c21
        obtain rfl := Option.some.inj hf
        exact MM.sub [0, 1, 2, 3, 4] (by rfl) K12
      · replace hf := m23 c21
        refine MM.aload_n (i := 0) rfl rfl d_Fe_invite_35 rfl ?_
        refine MM.gR 1 1 tg_68 rq_1_0 rfl lays_1 ww_309 d_Fe_invite_36 rfl ?_
        refine MM.aload_n (i := 0) rfl rfl d_Fe_invite_39 rfl ?_
        refine MM.getI 1 tg_68 lays_1 gq_1_2 ww_311 d_Fe_invite_40 rfl ?_
        refine MM.aload_n (i := 2) rfl rfl d_Fe_invite_43 rfl ?_
        refine MM.aload_n (i := 1) rfl rfl d_Fe_invite_44 rfl ?_
        refine MM.iload rfl d_Fe_invite_45 rfl ?_
        obtain ⟨v14, e13, hf⟩ := mm_bind hf
        refine MM.callV1 (T_St_known V l a2 a1 s3.1 s3.2 _ e13) (fun _ _ q => q) cal_St_known rfl t_a2 ct_4 ww_991 ww_990 ww_1187 (by decide) (by simp [Value.category]) d_Fe_invite_47 rfl ⟨rfl, rfl⟩ rfl ?_
        obtain ⟨k15, e16, hf⟩ := mm_bind hf
        obtain ⟨h17, e18, hf⟩ := mm_letE hf
        refine MM.sI e16 e18 al_69 d_Fe_invite_50 rfl ?_
        refine MM.aload_n (i := 0) rfl rfl d_Fe_invite_51 rfl ?_
        refine MM.dup rfl d_Fe_invite_52 rfl ?_
        refine MM.getI 1 tg_68 lays_1 gq_1_2 ww_311 d_Fe_invite_53 rfl ?_
        refine MM.iconst ic_1 d_Fe_invite_56 rfl ?_
        refine MM.iadd d_Fe_invite_57 rfl ?_
        obtain ⟨h19, e20, hf⟩ := mm_letE hf
        refine MM.putI e20 1 tg_68 lays_1 toks_1 pq_1_2 ww_311 d_Fe_invite_58 rfl ?_
        obtain rfl := Option.some.inj hf
        exact MM.sub [0, 1, 2, 3, 4] (by rfl) K12
theorem d_Fe_mayChoose_0 : decode cX1_mayChoose 0 = .ok (.iload_n 2, 1) := by decide +kernel
theorem d_Fe_mayChoose_1 : decode cX1_mayChoose 1 = .ok (.ifCond .eq 19, 3) := by decide +kernel
theorem d_Fe_mayChoose_4 : decode cX1_mayChoose 4 = .ok (.aload_n 0, 1) := by decide +kernel
theorem d_Fe_mayChoose_5 : decode cX1_mayChoose 5 = .ok (.getfield 11, 3) := by decide +kernel
theorem d_Fe_mayChoose_8 : decode cX1_mayChoose 8 = .ok (.iload_n 1, 1) := by decide +kernel
theorem d_Fe_mayChoose_9 : decode cX1_mayChoose 9 = .ok (.iaload, 1) := by decide +kernel
theorem d_Fe_mayChoose_10 : decode cX1_mayChoose 10 = .ok (.iload_n 2, 1) := by decide +kernel
theorem d_Fe_mayChoose_11 : decode cX1_mayChoose 11 = .ok (.iconst 1, 1) := by decide +kernel
theorem d_Fe_mayChoose_12 : decode cX1_mayChoose 12 = .ok (.isub, 1) := by decide +kernel
theorem d_Fe_mayChoose_13 : decode cX1_mayChoose 13 = .ok (.invokestatic 27, 3) := by decide +kernel
theorem d_Fe_mayChoose_16 : decode cX1_mayChoose 16 = .ok (.iconst 1, 1) := by decide +kernel
theorem d_Fe_mayChoose_17 : decode cX1_mayChoose 17 = .ok (.if_icmp .ne 7, 3) := by decide +kernel
theorem d_Fe_mayChoose_20 : decode cX1_mayChoose 20 = .ok (.iconst 1, 1) := by decide +kernel
theorem d_Fe_mayChoose_21 : decode cX1_mayChoose 21 = .ok (.goto 4, 3) := by decide +kernel
theorem d_Fe_mayChoose_24 : decode cX1_mayChoose 24 = .ok (.iconst 0, 1) := by decide +kernel
theorem d_Fe_mayChoose_25 : decode cX1_mayChoose 25 = .ok (.ireturn, 1) := by decide +kernel
noncomputable def f_Fe_mayChoose (x1 : Int32) (x2 : Int32) (h : mm_H) : Option Int32 := if x2 = 0 then (some 1) else ((mm_ix x1 3).bind fun k1 => (f_X_bit (h.1 69 k1) (x2 - 1)).bind fun v4 => if v4 = 1 then (some 1) else (some 0))
theorem T_Fe_mayChoose (V : mm_V) (l : Launch) (x1 : Int32) (x2 : Int32) (h : mm_H) (r : Int32) (hf : f_Fe_mayChoose x1 x2 h = some r) : MT V l Y_Fe_mayChoose 2 [.ref 68, .int x1, .int x2] (fun r1 h1 => r1 = some (.int r) ∧ h1 = h) h := by
  unfold f_Fe_mayChoose at hf
  refine MT.intro (pn_Fe rfl) [(0, .ref 68), (1, .int x1), (2, .int x2)] rfl (Nat.le_of_ble_eq_true rfl) ?_
  generalize hZ : mm_Z V _ = Z0
  refine MM.iload_n (i := 2) rfl rfl d_Fe_mayChoose_0 rfl ?_
  obtain ⟨m9, m10⟩ := mm_ifE hf
  refine MM.if_eq (tgt := 20) d_Fe_mayChoose_1 rfl rfl (fun c8 => ?_) (fun c8 => ?_)
  · replace hf := m9 c8
    refine MM.iconst ic_1 d_Fe_mayChoose_20 rfl ?_
    refine MM.goto (tgt := 25) d_Fe_mayChoose_21 rfl ?_
    obtain rfl := Option.some.inj hf
    subst hZ
    exact MM.zret (Or.inr rfl) rfl d_Fe_mayChoose_25 ⟨rfl, rfl⟩
  · replace hf := m10 c8
    refine MM.aload_n (i := 0) rfl rfl d_Fe_mayChoose_4 rfl ?_
    refine MM.gR 1 1 tg_68 rq_1_0 rfl lays_1 ww_309 d_Fe_mayChoose_5 rfl ?_
    refine MM.iload_n (i := 1) rfl rfl d_Fe_mayChoose_8 rfl ?_
    obtain ⟨k1, e2, hf⟩ := mm_bind hf
    refine MM.gI e2 al_69 d_Fe_mayChoose_9 rfl ?_
    refine MM.iload_n (i := 2) rfl rfl d_Fe_mayChoose_10 rfl ?_
    refine MM.iconst ic_1 d_Fe_mayChoose_11 rfl ?_
    refine MM.isub d_Fe_mayChoose_12 rfl ?_
    obtain ⟨v4, e3, hf⟩ := mm_bind hf
    refine MM.callSN1 (T_X_bit V l (h.1 69 k1) (x2 - 1) h _ e3) (fun _ _ q => q) cal_X_bit rfl ww_763 ww_1186n (by decide) (by simp [Value.category]) d_Fe_mayChoose_13 rfl ⟨rfl, rfl⟩ rfl ?_
    refine MM.iconst ic_1 d_Fe_mayChoose_16 rfl ?_
    obtain ⟨m6, m7⟩ := mm_ifE hf
    refine MM.icmp_ne (tgt := 24) d_Fe_mayChoose_17 rfl rfl (fun c5 => ?_) (fun c5 => ?_)
    · replace hf := m7 c5
      refine MM.iconst ic_0 d_Fe_mayChoose_24 rfl ?_
      obtain rfl := Option.some.inj hf
      subst hZ
      exact MM.zret (Or.inl rfl) rfl d_Fe_mayChoose_25 ⟨rfl, rfl⟩
    · replace hf := m6 c5
      refine MM.iconst ic_1 d_Fe_mayChoose_20 rfl ?_
      refine MM.goto (tgt := 25) d_Fe_mayChoose_21 rfl ?_
      obtain rfl := Option.some.inj hf
      subst hZ
      exact MM.zret (Or.inr rfl) rfl d_Fe_mayChoose_25 ⟨rfl, rfl⟩
theorem d_Fe_choose_0 : decode cX1_choose 0 = .ok (.iload_n 1, 1) := by decide +kernel
theorem d_Fe_choose_1 : decode cX1_choose 1 = .ok (.istore_n 2, 1) := by decide +kernel
theorem d_Fe_choose_2 : decode cX1_choose 2 = .ok (.aload_n 0, 1) := by decide +kernel
theorem d_Fe_choose_3 : decode cX1_choose 3 = .ok (.getfield 18, 3) := by decide +kernel
theorem d_Fe_choose_6 : decode cX1_choose 6 = .ok (.iconst 1, 1) := by decide +kernel
theorem d_Fe_choose_7 : decode cX1_choose 7 = .ok (.isub, 1) := by decide +kernel
theorem d_Fe_choose_8 : decode cX1_choose 8 = .ok (.istore_n 3, 1) := by decide +kernel
theorem d_Fe_choose_9 : decode cX1_choose 9 = .ok (.iload_n 3, 1) := by decide +kernel
theorem d_Fe_choose_10 : decode cX1_choose 10 = .ok (.ifCond .lt 40, 3) := by decide +kernel
theorem d_Fe_choose_13 : decode cX1_choose 13 = .ok (.aload_n 0, 1) := by decide +kernel
theorem d_Fe_choose_14 : decode cX1_choose 14 = .ok (.getfield 15, 3) := by decide +kernel
theorem d_Fe_choose_17 : decode cX1_choose 17 = .ok (.iload_n 3, 1) := by decide +kernel
theorem d_Fe_choose_18 : decode cX1_choose 18 = .ok (.iload_n 2, 1) := by decide +kernel
theorem d_Fe_choose_19 : decode cX1_choose 19 = .ok (.bipush 11, 2) := by decide +kernel
theorem d_Fe_choose_21 : decode cX1_choose 21 = .ok (.irem, 1) := by decide +kernel
theorem d_Fe_choose_22 : decode cX1_choose 22 = .ok (.iastore, 1) := by decide +kernel
theorem d_Fe_choose_23 : decode cX1_choose 23 = .ok (.iload_n 2, 1) := by decide +kernel
theorem d_Fe_choose_24 : decode cX1_choose 24 = .ok (.bipush 11, 2) := by decide +kernel
theorem d_Fe_choose_26 : decode cX1_choose 26 = .ok (.idiv, 1) := by decide +kernel
theorem d_Fe_choose_27 : decode cX1_choose 27 = .ok (.istore_n 2, 1) := by decide +kernel
theorem d_Fe_choose_28 : decode cX1_choose 28 = .ok (.aload_n 0, 1) := by decide +kernel
theorem d_Fe_choose_29 : decode cX1_choose 29 = .ok (.iload_n 3, 1) := by decide +kernel
theorem d_Fe_choose_30 : decode cX1_choose 30 = .ok (.aload_n 0, 1) := by decide +kernel
theorem d_Fe_choose_31 : decode cX1_choose 31 = .ok (.getfield 15, 3) := by decide +kernel
theorem d_Fe_choose_34 : decode cX1_choose 34 = .ok (.iload_n 3, 1) := by decide +kernel
theorem d_Fe_choose_35 : decode cX1_choose 35 = .ok (.iaload, 1) := by decide +kernel
theorem d_Fe_choose_36 : decode cX1_choose 36 = .ok (.invokevirtual 44, 3) := by decide +kernel
theorem d_Fe_choose_39 : decode cX1_choose 39 = .ok (.ifCond .ne 5, 3) := by decide +kernel
theorem d_Fe_choose_42 : decode cX1_choose 42 = .ok (.iconst 0, 1) := by decide +kernel
theorem d_Fe_choose_43 : decode cX1_choose 43 = .ok (.ireturn, 1) := by decide +kernel
theorem d_Fe_choose_44 : decode cX1_choose 44 = .ok (.iinc 3 (-1), 3) := by decide +kernel
theorem d_Fe_choose_47 : decode cX1_choose 47 = .ok (.goto (-38), 3) := by decide +kernel
theorem d_Fe_choose_50 : decode cX1_choose 50 = .ok (.iconst 1, 1) := by decide +kernel
theorem d_Fe_choose_51 : decode cX1_choose 51 = .ok (.ireturn, 1) := by decide +kernel
noncomputable def f_Fe_choose (x1 : Int32) (h : mm_H) : Option (Int32 × mm_H) := mm_let ((h.1 68 2) - 1) fun y1 => mm_while (σ := (Int32 × Int32 × mm_H)) (ρ := (Int32 × mm_H)) (fun s3 => if s3.2.1 < 0 then (some (Sum.inr (1, s3.2.2))) else ((mm_ix s3.2.1 3).bind fun k6 => mm_let (mm_pI s3.2.2 70 k6 (s3.1 - s3.1 / 11 * 11)) fun h8 => mm_let (s3.1 / 11) fun y10 => (mm_ix s3.2.1 3).bind fun k12 => (f_Fe_mayChoose s3.2.1 (h8.1 70 k12) h8).bind fun v15 => if v15 = 0 then (some (Sum.inr (0, h8))) else (mm_let (s3.2.1 + (-1)) fun y16 => some (Sum.inl (y10, y16, h8))))) (x1, y1, h)
theorem T_Fe_choose (V : mm_V) (l : Launch) (x1 : Int32) (h : mm_H) (r : (Int32 × mm_H)) (hf : f_Fe_choose x1 h = some r) : MT V l Y_Fe_choose 3 [.ref 68, .int x1] (fun r1 h1 => r1 = some (.int r.1) ∧ h1 = r.2) h := by
  unfold f_Fe_choose at hf
  refine MT.intro (pn_Fe rfl) [(0, .ref 68), (1, .int x1)] rfl (Nat.le_of_ble_eq_true rfl) ?_
  generalize hZ : mm_Z V _ = Z0
  refine MM.iload_n (i := 1) rfl rfl d_Fe_choose_0 rfl ?_
  refine MM.istore_n (i := 2) (lv' := [(2, .int x1), (0, .ref 68), (1, .int x1)]) rfl rfl (Nat.le_of_ble_eq_true rfl) rfl d_Fe_choose_1 rfl ?_
  refine MM.aload_n (i := 0) rfl rfl d_Fe_choose_2 rfl ?_
  refine MM.getI 1 tg_68 lays_1 gq_1_2 ww_311 d_Fe_choose_3 rfl ?_
  refine MM.iconst ic_1 d_Fe_choose_6 rfl ?_
  refine MM.isub d_Fe_choose_7 rfl ?_
  obtain ⟨y1, e2, hf⟩ := mm_letE hf
  refine MM.istore_n (i := 3) (lv' := [(3, .int y1), (2, .int x1), (0, .ref 68), (1, .int x1)]) e2 rfl (Nat.le_of_ble_eq_true rfl) rfl d_Fe_choose_8 rfl ?_
  refine MM.sub [2, 1, 0] (by rfl) (mm_while_ind (fun s3 => MM V l Y_Fe_choose 3 0 0 Z0 9 [(0, .ref 68), (2, .int s3.1), (3, .int s3.2.1)] [] s3.2.2) hf (fun s3 q4 hf hx5 => ?_))
  refine MM.iload_n (i := 3) rfl rfl d_Fe_choose_9 rfl ?_
  obtain ⟨m22, m23⟩ := mm_ifE hf
  refine MM.if_lt (tgt := 50) d_Fe_choose_10 rfl rfl (fun c21 => ?_) (fun c21 => ?_)
  · replace hf := m22 c21
    refine MM.iconst ic_1 d_Fe_choose_50 rfl ?_
    obtain rfl := Option.some.inj hf
    replace hf := mm_wxR hx5
    obtain rfl := Option.some.inj hf
    subst hZ
    exact MM.zret (Or.inr rfl) rfl d_Fe_choose_51 ⟨rfl, rfl⟩
  · replace hf := m23 c21
    refine MM.aload_n (i := 0) rfl rfl d_Fe_choose_13 rfl ?_
    refine MM.gR 1 2 tg_68 rq_1_1 rfl lays_1 ww_310 d_Fe_choose_14 rfl ?_
    refine MM.iload_n (i := 3) rfl rfl d_Fe_choose_17 rfl ?_
    refine MM.iload_n (i := 2) rfl rfl d_Fe_choose_18 rfl ?_
    refine MM.bipush bp_11 d_Fe_choose_19 rfl ?_
    refine MM.irem (by decide) d_Fe_choose_21 rfl ?_
    obtain ⟨k6, e7, hf⟩ := mm_bind hf
    obtain ⟨h8, e9, hf⟩ := mm_letE hf
    refine MM.sI e7 e9 al_70 d_Fe_choose_22 rfl ?_
    refine MM.iload_n (i := 2) rfl rfl d_Fe_choose_23 rfl ?_
    refine MM.bipush bp_11 d_Fe_choose_24 rfl ?_
    refine MM.idiv (by decide) d_Fe_choose_26 rfl ?_
    obtain ⟨y10, e11, hf⟩ := mm_letE hf
    refine MM.istore_n (i := 2) (lv' := [(2, .int y10), (0, .ref 68), (3, .int s3.2.1)]) e11 rfl (Nat.le_of_ble_eq_true rfl) rfl d_Fe_choose_27 rfl ?_
    refine MM.aload_n (i := 0) rfl rfl d_Fe_choose_28 rfl ?_
    refine MM.iload_n (i := 3) rfl rfl d_Fe_choose_29 rfl ?_
    refine MM.aload_n (i := 0) rfl rfl d_Fe_choose_30 rfl ?_
    refine MM.gR 1 2 tg_68 rq_1_1 rfl lays_1 ww_310 d_Fe_choose_31 rfl ?_
    refine MM.iload_n (i := 3) rfl rfl d_Fe_choose_34 rfl ?_
    obtain ⟨k12, e13, hf⟩ := mm_bind hf
    refine MM.gI e13 al_70 d_Fe_choose_35 rfl ?_
    obtain ⟨v15, e14, hf⟩ := mm_bind hf
    refine MM.callV1 (T_Fe_mayChoose V l s3.2.1 (h8.1 70 k12) h8 _ e14) (fun _ _ q => q) cal_Fe_mayChoose rfl tg_68 ct_1 ww_23 ww_1198 ww_1196 (by decide) (by simp [Value.category]) d_Fe_choose_36 rfl ⟨rfl, rfl⟩ rfl ?_
    obtain ⟨m19, m20⟩ := mm_ifE hf
    refine MM.if_ne (tgt := 44) d_Fe_choose_39 rfl rfl (fun c18 => ?_) (fun c18 => ?_)
    · replace hf := m20 c18
      obtain ⟨y16, e17, hf⟩ := mm_letE hf
      refine MM.iinc (k0 := 2) (lv' := [(3, .int y16), (2, .int y10), (0, .ref 68)]) (by rw [ic_m1]; exact e17) rfl (Nat.le_of_ble_eq_true rfl) rfl d_Fe_choose_44 rfl ?_
      refine MM.goto (tgt := 9) d_Fe_choose_47 rfl ?_
      obtain rfl := Option.some.inj hf
      have h9 := mm_wxL hx5
      exact MM.sub [2, 1, 0] (by rfl) h9
    · replace hf := m19 c18
      refine MM.iconst ic_0 d_Fe_choose_42 rfl ?_
      obtain rfl := Option.some.inj hf
      replace hf := mm_wxR hx5
      obtain rfl := Option.some.inj hf
      subst hZ
      exact MM.zret (Or.inl rfl) rfl d_Fe_choose_43 ⟨rfl, rfl⟩
