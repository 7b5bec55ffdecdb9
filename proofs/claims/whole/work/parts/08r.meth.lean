/-! methods: M_holds, M_settle, M_hasBy, M_may, M_isRest, M_rests, M_draws, M_whispers -/
theorem d_M_holds_0 : decode cX12_holds 0 = .ok (.aload_n 0, 1) := by decide +kernel
theorem d_M_holds_1 : decode cX12_holds 1 = .ok (.iconst 0, 1) := by decide +kernel
theorem d_M_holds_2 : decode cX12_holds 2 = .ok (.putfield 175, 3) := by decide +kernel
theorem d_M_holds_5 : decode cX12_holds 5 = .ok (.aload_n 0, 1) := by decide +kernel
theorem d_M_holds_6 : decode cX12_holds 6 = .ok (.iload_n 1, 1) := by decide +kernel
theorem d_M_holds_7 : decode cX12_holds 7 = .ok (.invokevirtual 445, 3) := by decide +kernel
theorem d_M_holds_10 : decode cX12_holds 10 = .ok (.ifCond .eq 13, 3) := by decide +kernel
theorem d_M_holds_13 : decode cX12_holds 13 = .ok (.iload_n 2, 1) := by decide +kernel
theorem d_M_holds_14 : decode cX12_holds 14 = .ok (.iconst 0, 1) := by decide +kernel
theorem d_M_holds_15 : decode cX12_holds 15 = .ok (.bipush 30, 2) := by decide +kernel
theorem d_M_holds_17 : decode cX12_holds 17 = .ok (.invokestatic 308, 3) := by decide +kernel
theorem d_M_holds_20 : decode cX12_holds 20 = .ok (.ifCond .ne 5, 3) := by decide +kernel
theorem d_M_holds_23 : decode cX12_holds 23 = .ok (.iconst (-1), 1) := by decide +kernel
theorem d_M_holds_24 : decode cX12_holds 24 = .ok (.ireturn, 1) := by decide +kernel
theorem d_M_holds_25 : decode cX12_holds 25 = .ok (.aload_n 0, 1) := by decide +kernel
theorem d_M_holds_26 : decode cX12_holds 26 = .ok (.iload_n 1, 1) := by decide +kernel
theorem d_M_holds_27 : decode cX12_holds 27 = .ok (.iload_n 2, 1) := by decide +kernel
theorem d_M_holds_28 : decode cX12_holds 28 = .ok (.invokevirtual 526, 3) := by decide +kernel
theorem d_M_holds_31 : decode cX12_holds 31 = .ok (.aload_n 0, 1) := by decide +kernel
theorem d_M_holds_32 : decode cX12_holds 32 = .ok (.iload_n 1, 1) := by decide +kernel
theorem d_M_holds_33 : decode cX12_holds 33 = .ok (.aload_n 0, 1) := by decide +kernel
theorem d_M_holds_34 : decode cX12_holds 34 = .ok (.getfield 129, 3) := by decide +kernel
theorem d_M_holds_37 : decode cX12_holds 37 = .ok (.iload_n 1, 1) := by decide +kernel
theorem d_M_holds_38 : decode cX12_holds 38 = .ok (.iaload, 1) := by decide +kernel
theorem d_M_holds_39 : decode cX12_holds 39 = .ok (.invokevirtual 424, 3) := by decide +kernel
theorem d_M_holds_42 : decode cX12_holds 42 = .ok (.istore_n 3, 1) := by decide +kernel
theorem d_M_holds_43 : decode cX12_holds 43 = .ok (.iconst 0, 1) := by decide +kernel
theorem d_M_holds_44 : decode cX12_holds 44 = .ok (.istore 4, 2) := by decide +kernel
theorem d_M_holds_46 : decode cX12_holds 46 = .ok (.iconst 0, 1) := by decide +kernel
theorem d_M_holds_47 : decode cX12_holds 47 = .ok (.istore 5, 2) := by decide +kernel
theorem d_M_holds_49 : decode cX12_holds 49 = .ok (.iload 5, 2) := by decide +kernel
theorem d_M_holds_51 : decode cX12_holds 51 = .ok (.bipush 64, 2) := by decide +kernel
theorem d_M_holds_53 : decode cX12_holds 53 = .ok (.if_icmp .ge 42, 3) := by decide +kernel
theorem d_M_holds_56 : decode cX12_holds 56 = .ok (.aload_n 0, 1) := by decide +kernel
theorem d_M_holds_57 : decode cX12_holds 57 = .ok (.getfield 157, 3) := by decide +kernel
theorem d_M_holds_60 : decode cX12_holds 60 = .ok (.iload 5, 2) := by decide +kernel
theorem d_M_holds_62 : decode cX12_holds 62 = .ok (.iaload, 1) := by decide +kernel
theorem d_M_holds_63 : decode cX12_holds 63 = .ok (.ifCond .le 26, 3) := by decide +kernel
theorem d_M_holds_66 : decode cX12_holds 66 = .ok (.aload_n 0, 1) := by decide +kernel
theorem d_M_holds_67 : decode cX12_holds 67 = .ok (.iload_n 1, 1) := by decide +kernel
theorem d_M_holds_68 : decode cX12_holds 68 = .ok (.iload 5, 2) := by decide +kernel
theorem d_M_holds_70 : decode cX12_holds 70 = .ok (.invokevirtual 424, 3) := by decide +kernel
theorem d_M_holds_73 : decode cX12_holds 73 = .ok (.iload_n 3, 1) := by decide +kernel
theorem d_M_holds_74 : decode cX12_holds 74 = .ok (.if_icmp .lt 15, 3) := by decide +kernel
theorem d_M_holds_77 : decode cX12_holds 77 = .ok (.iload 4, 2) := by decide +kernel
theorem d_M_holds_79 : decode cX12_holds 79 = .ok (.aload_n 0, 1) := by decide +kernel
theorem d_M_holds_80 : decode cX12_holds 80 = .ok (.getfield 157, 3) := by decide +kernel
theorem d_M_holds_83 : decode cX12_holds 83 = .ok (.iload 5, 2) := by decide +kernel
theorem d_M_holds_85 : decode cX12_holds 85 = .ok (.iaload, 1) := by decide +kernel
theorem d_M_holds_86 : decode cX12_holds 86 = .ok (.iadd, 1) := by decide +kernel
theorem d_M_holds_87 : decode cX12_holds 87 = .ok (.istore 4, 2) := by decide +kernel
theorem d_M_holds_89 : decode cX12_holds 89 = .ok (.iinc 5 1, 3) := by decide +kernel
theorem d_M_holds_92 : decode cX12_holds 92 = .ok (.goto (-43), 3) := by decide +kernel
theorem d_M_holds_95 : decode cX12_holds 95 = .ok (.iload 4, 2) := by decide +kernel
theorem d_M_holds_97 : decode cX12_holds 97 = .ok (.ireturn, 1) := by decide +kernel
noncomputable def f_M_holds (x1 : Int32) (x2 : Int32) (h : mm_H) : Option (Int32 × mm_H) := mm_let (mm_pI h 261 0 0) fun h1 => (f_M_isSecret x1 h1).bind fun v4 => if v4 = 0 then (some ((-1), h1)) else ((f_M_within x2 0 30).bind fun v6 => if v6 = 0 then (some ((-1), h1)) else ((f_M_nights x1 x2 h1).bind fun v8 => (mm_ix x1 123).bind fun k9 => (f_M_baseOf x1 (v8.1 301 k9) v8).bind fun v12 => (mm_while (σ := (Int32 × Int32 × mm_H)) (ρ := (Int32 × mm_H)) (fun s13 => if 64 ≤ s13.2.1 then (some (Sum.inr (s13.1, s13.2.2))) else ((mm_ix s13.2.1 64).bind fun k19 => (if (s13.2.2.1 310 k19) ≤ 0 then (some (s13.1, s13.2.2)) else ((f_M_baseOf x1 s13.2.1 s13.2.2).bind fun v24 => if v24.1 < v12.1 then (some (s13.1, v24.2)) else ((mm_ix s13.2.1 64).bind fun k25 => mm_let (s13.1 + (v24.2.1 310 k25)) fun y27 => some (y27, v24.2))) : Option (Int32 × mm_H)).bind fun j21 => mm_let (s13.2.1 + 1) fun y35 => some (Sum.inl (j21.1, y35, j21.2)))) (0, 0, v12.2)).bind fun v16 => some (v16.1, v16.2)))
theorem T_M_holds (V : mm_V) (l : Launch) (x1 : Int32) (x2 : Int32) (h : mm_H) (r : (Int32 × mm_H)) (hf : f_M_holds x1 x2 h = some r) : MT V l Y_M_holds 6 [.ref 261, .int x1, .int x2] (fun r1 h1 => r1 = some (.int r.1) ∧ h1 = r.2) h := by
  unfold f_M_holds at hf
  refine MT.intro (pn_M rfl) [(0, .ref 261), (1, .int x1), (2, .int x2)] rfl (Nat.le_of_ble_eq_true rfl) ?_
  generalize hZ : mm_Z V _ = Z0
  refine MM.aload_n (i := 0) rfl rfl d_M_holds_0 rfl ?_
  refine MM.iconst ic_0 d_M_holds_1 rfl ?_
  obtain ⟨h1, e2, hf⟩ := mm_letE hf
  refine MM.putI e2 9 tg_261 lays_9 toks_9 pq_9_0 ww_1358 d_M_holds_2 rfl ?_
  refine MM.aload_n (i := 0) rfl rfl d_M_holds_5 rfl ?_
  refine MM.iload_n (i := 1) rfl rfl d_M_holds_6 rfl ?_
  obtain ⟨v4, e3, hf⟩ := mm_bind hf
  refine MM.callV1 (T_M_isSecret V l x1 h1 _ e3) (fun _ _ q => q) cal_M_isSecret rfl tg_261 ct_9 ww_82 ww_1823 ww_1821 (by decide) (by simp [Value.category]) d_M_holds_7 rfl ⟨rfl, rfl⟩ rfl ?_
  obtain ⟨m45, m46⟩ := mm_ifE hf
  refine MM.if_eq (tgt := 23) d_M_holds_10 rfl rfl (fun c44 => ?_) (fun c44 => ?_)
  · replace hf := m45 c44
    refine MM.iconst ic_m1 d_M_holds_23 rfl ?_
    obtain rfl := Option.some.inj hf
    subst hZ
    exact MM.iret rfl d_M_holds_24 ⟨rfl, rfl⟩
  · replace hf := m46 c44
    refine MM.iload_n (i := 2) rfl rfl d_M_holds_13 rfl ?_
    refine MM.iconst ic_0 d_M_holds_14 rfl ?_
    refine MM.bipush bp_30 d_M_holds_15 rfl ?_
    obtain ⟨v6, e5, hf⟩ := mm_bind hf
    refine MM.callS1 (T_M_within V l x2 0 30 h1 _ e5) (fun _ _ q => q) cal_M_within rfl ww_1669 ww_1668 (by decide) (by simp [Value.category]) d_M_holds_17 rfl ⟨rfl, rfl⟩ rfl ?_
    obtain ⟨m42, m43⟩ := mm_ifE hf
    refine MM.if_ne (tgt := 25) d_M_holds_20 rfl rfl (fun c41 => ?_) (fun c41 => ?_)
    · replace hf := m43 c41
      refine MM.aload_n (i := 0) rfl rfl d_M_holds_25 rfl ?_
      refine MM.iload_n (i := 1) rfl rfl d_M_holds_26 rfl ?_
      refine MM.iload_n (i := 2) rfl rfl d_M_holds_27 rfl ?_
      obtain ⟨v8, e7, hf⟩ := mm_bind hf
      refine MM.callV0 (T_M_nights V l x1 x2 h1 _ e7) (fun _ _ q => q) cal_M_nights rfl tg_261 ct_9 ww_100 ww_1966 ww_1964 (by decide) (by simp [Value.category]) d_M_holds_28 rfl ⟨rfl, rfl⟩ rfl ?_
      refine MM.aload_n (i := 0) rfl rfl d_M_holds_31 rfl ?_
      refine MM.iload_n (i := 1) rfl rfl d_M_holds_32 rfl ?_
      refine MM.aload_n (i := 0) rfl rfl d_M_holds_33 rfl ?_
      refine MM.gR 9 40 tg_261 rq_9_50 rfl lays_9 ww_1408 d_M_holds_34 rfl ?_
      refine MM.iload_n (i := 1) rfl rfl d_M_holds_37 rfl ?_
      obtain ⟨k9, e10, hf⟩ := mm_bind hf
      refine MM.gI e10 al_301 d_M_holds_38 rfl ?_
      obtain ⟨v12, e11, hf⟩ := mm_bind hf
      refine MM.callV1 (T_M_baseOf V l x1 (v8.1 301 k9) v8 _ e11) (fun _ _ q => q) cal_M_baseOf rfl tg_261 ct_9 ww_75 ww_1787 ww_1785 (by decide) (by simp [Value.category]) d_M_holds_39 rfl ⟨rfl, rfl⟩ rfl ?_
      refine MM.istore_n (i := 3) (lv' := [(3, .int v12.1), (0, .ref 261), (1, .int x1), (2, .int x2)]) rfl rfl (Nat.le_of_ble_eq_true rfl) rfl d_M_holds_42 rfl ?_
      refine MM.iconst ic_0 d_M_holds_43 rfl ?_
      refine MM.istore (lv' := [(4, .int 0), (3, .int v12.1), (0, .ref 261), (1, .int x1), (2, .int x2)]) rfl (Nat.le_of_ble_eq_true rfl) rfl d_M_holds_44 rfl ?_
      refine MM.iconst ic_0 d_M_holds_46 rfl ?_
      refine MM.istore (lv' := [(5, .int 0), (4, .int 0), (3, .int v12.1), (0, .ref 261), (1, .int x1), (2, .int x2)]) rfl (Nat.le_of_ble_eq_true rfl) rfl d_M_holds_47 rfl ?_
      obtain ⟨v16, e18, hf⟩ := mm_bind hf
      have K17 : MM V l Y_M_holds 6 0 0 Z0 95 [(4, .int v16.1)] [] v16.2 := by
        refine MM.iload rfl d_M_holds_95 rfl ?_
        obtain rfl := Option.some.inj hf
        subst hZ
        exact MM.iret rfl d_M_holds_97 ⟨rfl, rfl⟩
      clear hf
      refine MM.sub [3, 4, 2, 1, 0] (by rfl) (mm_while_ind (fun s13 => MM V l Y_M_holds 6 0 0 Z0 49 [(0, .ref 261), (1, .int x1), (3, .int v12.1), (4, .int s13.1), (5, .int s13.2.1)] [] s13.2.2) e18 (fun s13 q14 hf hx15 => ?_))
      refine MM.iload rfl d_M_holds_49 rfl ?_
      refine MM.bipush bp_64 d_M_holds_51 rfl ?_
      obtain ⟨m39, m40⟩ := mm_ifE hf
      refine MM.icmp_ge (tgt := 95) d_M_holds_53 rfl rfl (fun c38 => ?_) (fun c38 => ?_)
      · replace hf := m39 c38
        obtain rfl := Option.some.inj hf
        obtain rfl := Option.some.inj (mm_wxR hx15)
        exact MM.sub [3] (by rfl) K17
      · replace hf := m40 c38
        refine MM.aload_n (i := 0) rfl rfl d_M_holds_56 rfl ?_
        refine MM.gR 9 49 tg_261 rq_9_62 rfl lays_9 ww_1420 d_M_holds_57 rfl ?_
        refine MM.iload rfl d_M_holds_60 rfl ?_
        obtain ⟨k19, e20, hf⟩ := mm_bind hf
        refine MM.gI e20 al_310 d_M_holds_62 rfl ?_
        obtain ⟨j21, e37, hf⟩ := mm_bind hf
        have K22 : MM V l Y_M_holds 6 0 0 Z0 89 [(0, .ref 261), (1, .int x1), (3, .int v12.1), (4, .int j21.1), (5, .int s13.2.1)] [] j21.2 := by
          obtain ⟨y35, e36, hf⟩ := mm_letE hf
          refine MM.iinc (k0 := 4) (lv' := [(5, .int y35), (0, .ref 261), (1, .int x1), (3, .int v12.1), (4, .int j21.1)]) (by rw [ic_1]; exact e36) rfl (Nat.le_of_ble_eq_true rfl) rfl d_M_holds_89 rfl ?_
          refine MM.goto (tgt := 49) d_M_holds_92 rfl ?_
          obtain rfl := Option.some.inj hf
          have h9 := mm_wxL hx15
          exact MM.sub [1, 2, 3, 4, 0] (by rfl) h9
        clear hf
        have hf := e37
        clear e37
        obtain ⟨m33, m34⟩ := mm_ifE hf
        refine MM.if_le (tgt := 89) d_M_holds_63 rfl rfl (fun c32 => ?_) (fun c32 => ?_)
        · replace hf := m33 c32
          obtain rfl := Option.some.inj hf
          exact MM.sub [0, 1, 2, 3, 4] (by rfl) K22
        · replace hf := m34 c32
          refine MM.aload_n (i := 0) rfl rfl d_M_holds_66 rfl ?_
          refine MM.iload_n (i := 1) rfl rfl d_M_holds_67 rfl ?_
          refine MM.iload rfl d_M_holds_68 rfl ?_
          obtain ⟨v24, e23, hf⟩ := mm_bind hf
          refine MM.callV1 (T_M_baseOf V l x1 s13.2.1 s13.2.2 _ e23) (fun _ _ q => q) cal_M_baseOf rfl tg_261 ct_9 ww_75 ww_1787 ww_1785 (by decide) (by simp [Value.category]) d_M_holds_70 rfl ⟨rfl, rfl⟩ rfl ?_
          refine MM.iload_n (i := 3) rfl rfl d_M_holds_73 rfl ?_
          obtain ⟨m30, m31⟩ := mm_ifE hf
          refine MM.icmp_lt (tgt := 89) d_M_holds_74 rfl rfl (fun c29 => ?_) (fun c29 => ?_)
          · replace hf := m30 c29
            obtain rfl := Option.some.inj hf
            exact MM.sub [0, 1, 2, 3, 4] (by rfl) K22
          · replace hf := m31 c29
            refine MM.iload rfl d_M_holds_77 rfl ?_
            refine MM.aload_n (i := 0) rfl rfl d_M_holds_79 rfl ?_
            refine MM.gR 9 49 tg_261 rq_9_62 rfl lays_9 ww_1420 d_M_holds_80 rfl ?_
            refine MM.iload rfl d_M_holds_83 rfl ?_
            obtain ⟨k25, e26, hf⟩ := mm_bind hf
            refine MM.gI e26 al_310 d_M_holds_85 rfl ?_
            refine MM.iadd d_M_holds_86 rfl ?_
            obtain ⟨y27, e28, hf⟩ := mm_letE hf
            refine MM.istore (lv' := [(4, .int y27), (0, .ref 261), (1, .int x1), (3, .int v12.1), (5, .int s13.2.1)]) e28 (Nat.le_of_ble_eq_true rfl) rfl d_M_holds_87 rfl ?_
            obtain rfl := Option.some.inj hf
            exact MM.sub [1, 2, 3, 0, 4] (by rfl) K22
    · replace hf := m42 c41
      refine MM.iconst ic_m1 d_M_holds_23 rfl ?_
      obtain rfl := Option.some.inj hf
      subst hZ
      exact MM.iret rfl d_M_holds_24 ⟨rfl, rfl⟩
theorem d_M_settle_0 : decode cX12_settle 0 = .ok (.aload_n 0, 1) := by decide +kernel
theorem d_M_settle_1 : decode cX12_settle 1 = .ok (.iconst 0, 1) := by decide +kernel
theorem d_M_settle_2 : decode cX12_settle 2 = .ok (.putfield 175, 3) := by decide +kernel
theorem d_M_settle_5 : decode cX12_settle 5 = .ok (.iconst 0, 1) := by decide +kernel
theorem d_M_settle_6 : decode cX12_settle 6 = .ok (.istore_n 1, 1) := by decide +kernel
theorem d_M_settle_7 : decode cX12_settle 7 = .ok (.iconst 0, 1) := by decide +kernel
theorem d_M_settle_8 : decode cX12_settle 8 = .ok (.istore_n 2, 1) := by decide +kernel
theorem d_M_settle_9 : decode cX12_settle 9 = .ok (.iload_n 2, 1) := by decide +kernel
theorem d_M_settle_10 : decode cX12_settle 10 = .ok (.aload_n 0, 1) := by decide +kernel
theorem d_M_settle_11 : decode cX12_settle 11 = .ok (.getfield 13, 3) := by decide +kernel
theorem d_M_settle_14 : decode cX12_settle 14 = .ok (.iconst 0, 1) := by decide +kernel
theorem d_M_settle_15 : decode cX12_settle 15 = .ok (.iaload, 1) := by decide +kernel
theorem d_M_settle_16 : decode cX12_settle 16 = .ok (.if_icmp .ge 27, 3) := by decide +kernel
theorem d_M_settle_19 : decode cX12_settle 19 = .ok (.iload_n 1, 1) := by decide +kernel
theorem d_M_settle_20 : decode cX12_settle 20 = .ok (.aload_n 0, 1) := by decide +kernel
theorem d_M_settle_21 : decode cX12_settle 21 = .ok (.iload_n 2, 1) := by decide +kernel
theorem d_M_settle_22 : decode cX12_settle 22 = .ok (.invokevirtual 442, 3) := by decide +kernel
theorem d_M_settle_25 : decode cX12_settle 25 = .ok (.ifCond .eq 9, 3) := by decide +kernel
theorem d_M_settle_28 : decode cX12_settle 28 = .ok (.iconst 1, 1) := by decide +kernel
theorem d_M_settle_29 : decode cX12_settle 29 = .ok (.iload_n 2, 1) := by decide +kernel
theorem d_M_settle_30 : decode cX12_settle 30 = .ok (.ishl, 1) := by decide +kernel
theorem d_M_settle_31 : decode cX12_settle 31 = .ok (.goto 4, 3) := by decide +kernel
theorem d_M_settle_34 : decode cX12_settle 34 = .ok (.iconst 0, 1) := by decide +kernel
theorem d_M_settle_35 : decode cX12_settle 35 = .ok (.ior, 1) := by decide +kernel
theorem d_M_settle_36 : decode cX12_settle 36 = .ok (.istore_n 1, 1) := by decide +kernel
theorem d_M_settle_37 : decode cX12_settle 37 = .ok (.iinc 2 1, 3) := by decide +kernel
theorem d_M_settle_40 : decode cX12_settle 40 = .ok (.goto (-31), 3) := by decide +kernel
theorem d_M_settle_43 : decode cX12_settle 43 = .ok (.iconst 0, 1) := by decide +kernel
theorem d_M_settle_44 : decode cX12_settle 44 = .ok (.istore_n 2, 1) := by decide +kernel
theorem d_M_settle_45 : decode cX12_settle 45 = .ok (.iload_n 2, 1) := by decide +kernel
theorem d_M_settle_46 : decode cX12_settle 46 = .ok (.bipush 64, 2) := by decide +kernel
theorem d_M_settle_48 : decode cX12_settle 48 = .ok (.if_icmp .ge 116, 3) := by decide +kernel
theorem d_M_settle_51 : decode cX12_settle 51 = .ok (.aload_n 0, 1) := by decide +kernel
theorem d_M_settle_52 : decode cX12_settle 52 = .ok (.getfield 166, 3) := by decide +kernel
theorem d_M_settle_55 : decode cX12_settle 55 = .ok (.iload_n 2, 1) := by decide +kernel
theorem d_M_settle_56 : decode cX12_settle 56 = .ok (.iload_n 2, 1) := by decide +kernel
theorem d_M_settle_57 : decode cX12_settle 57 = .ok (.ifCond .ne 7, 3) := by decide +kernel
theorem d_M_settle_60 : decode cX12_settle 60 = .ok (.iconst 0, 1) := by decide +kernel
theorem d_M_settle_61 : decode cX12_settle 61 = .ok (.goto 5, 3) := by decide +kernel
theorem d_M_settle_64 : decode cX12_settle 64 = .ok (.bipush (-100), 2) := by decide +kernel
theorem d_M_settle_66 : decode cX12_settle 66 = .ok (.iastore, 1) := by decide +kernel
theorem d_M_settle_67 : decode cX12_settle 67 = .ok (.iload_n 2, 1) := by decide +kernel
theorem d_M_settle_68 : decode cX12_settle 68 = .ok (.istore_n 3, 1) := by decide +kernel
theorem d_M_settle_69 : decode cX12_settle 69 = .ok (.iload_n 3, 1) := by decide +kernel
theorem d_M_settle_70 : decode cX12_settle 70 = .ok (.ifCond .le 88, 3) := by decide +kernel
theorem d_M_settle_73 : decode cX12_settle 73 = .ok (.iconst 0, 1) := by decide +kernel
theorem d_M_settle_74 : decode cX12_settle 74 = .ok (.istore 4, 2) := by decide +kernel
theorem d_M_settle_76 : decode cX12_settle 76 = .ok (.iconst 0, 1) := by decide +kernel
theorem d_M_settle_77 : decode cX12_settle 77 = .ok (.istore 5, 2) := by decide +kernel
theorem d_M_settle_79 : decode cX12_settle 79 = .ok (.iload 5, 2) := by decide +kernel
theorem d_M_settle_81 : decode cX12_settle 81 = .ok (.bipush 6, 2) := by decide +kernel
theorem d_M_settle_83 : decode cX12_settle 83 = .ok (.if_icmp .ge 34, 3) := by decide +kernel
theorem d_M_settle_86 : decode cX12_settle 86 = .ok (.iload 4, 2) := by decide +kernel
theorem d_M_settle_88 : decode cX12_settle 88 = .ok (.iload_n 3, 1) := by decide +kernel
theorem d_M_settle_89 : decode cX12_settle 89 = .ok (.iload 5, 2) := by decide +kernel
theorem d_M_settle_91 : decode cX12_settle 91 = .ok (.ishr, 1) := by decide +kernel
theorem d_M_settle_92 : decode cX12_settle 92 = .ok (.iconst 1, 1) := by decide +kernel
theorem d_M_settle_93 : decode cX12_settle 93 = .ok (.iand, 1) := by decide +kernel
theorem d_M_settle_94 : decode cX12_settle 94 = .ok (.iconst 1, 1) := by decide +kernel
theorem d_M_settle_95 : decode cX12_settle 95 = .ok (.if_icmp .ne 12, 3) := by decide +kernel
theorem d_M_settle_98 : decode cX12_settle 98 = .ok (.aload_n 0, 1) := by decide +kernel
theorem d_M_settle_99 : decode cX12_settle 99 = .ok (.iload 5, 2) := by decide +kernel
theorem d_M_settle_101 : decode cX12_settle 101 = .ok (.invokevirtual 442, 3) := by decide +kernel
theorem d_M_settle_104 : decode cX12_settle 104 = .ok (.goto 4, 3) := by decide +kernel
theorem d_M_settle_107 : decode cX12_settle 107 = .ok (.iconst 0, 1) := by decide +kernel
theorem d_M_settle_108 : decode cX12_settle 108 = .ok (.iadd, 1) := by decide +kernel
theorem d_M_settle_109 : decode cX12_settle 109 = .ok (.istore 4, 2) := by decide +kernel
theorem d_M_settle_111 : decode cX12_settle 111 = .ok (.iinc 5 1, 3) := by decide +kernel
theorem d_M_settle_114 : decode cX12_settle 114 = .ok (.goto (-35), 3) := by decide +kernel
theorem d_M_settle_117 : decode cX12_settle 117 = .ok (.iload 4, 2) := by decide +kernel
theorem d_M_settle_119 : decode cX12_settle 119 = .ok (.ifCond .ne 30, 3) := by decide +kernel
theorem d_M_settle_122 : decode cX12_settle 122 = .ok (.aload_n 0, 1) := by decide +kernel
theorem d_M_settle_123 : decode cX12_settle 123 = .ok (.getfield 166, 3) := by decide +kernel
theorem d_M_settle_126 : decode cX12_settle 126 = .ok (.iload_n 2, 1) := by decide +kernel
theorem d_M_settle_127 : decode cX12_settle 127 = .ok (.aload_n 0, 1) := by decide +kernel
theorem d_M_settle_128 : decode cX12_settle 128 = .ok (.getfield 166, 3) := by decide +kernel
theorem d_M_settle_131 : decode cX12_settle 131 = .ok (.iload_n 2, 1) := by decide +kernel
theorem d_M_settle_132 : decode cX12_settle 132 = .ok (.iaload, 1) := by decide +kernel
theorem d_M_settle_133 : decode cX12_settle 133 = .ok (.iconst 1, 1) := by decide +kernel
theorem d_M_settle_134 : decode cX12_settle 134 = .ok (.aload_n 0, 1) := by decide +kernel
theorem d_M_settle_135 : decode cX12_settle 135 = .ok (.getfield 166, 3) := by decide +kernel
theorem d_M_settle_138 : decode cX12_settle 138 = .ok (.iload_n 2, 1) := by decide +kernel
theorem d_M_settle_139 : decode cX12_settle 139 = .ok (.iload_n 3, 1) := by decide +kernel
theorem d_M_settle_140 : decode cX12_settle 140 = .ok (.iconst (-1), 1) := by decide +kernel
theorem d_M_settle_141 : decode cX12_settle 141 = .ok (.ixor, 1) := by decide +kernel
theorem d_M_settle_142 : decode cX12_settle 142 = .ok (.iand, 1) := by decide +kernel
theorem d_M_settle_143 : decode cX12_settle 143 = .ok (.iaload, 1) := by decide +kernel
theorem d_M_settle_144 : decode cX12_settle 144 = .ok (.iadd, 1) := by decide +kernel
theorem d_M_settle_145 : decode cX12_settle 145 = .ok (.invokestatic 411, 3) := by decide +kernel
theorem d_M_settle_148 : decode cX12_settle 148 = .ok (.iastore, 1) := by decide +kernel
theorem d_M_settle_149 : decode cX12_settle 149 = .ok (.iload_n 3, 1) := by decide +kernel
theorem d_M_settle_150 : decode cX12_settle 150 = .ok (.iconst 1, 1) := by decide +kernel
theorem d_M_settle_151 : decode cX12_settle 151 = .ok (.isub, 1) := by decide +kernel
theorem d_M_settle_152 : decode cX12_settle 152 = .ok (.iload_n 2, 1) := by decide +kernel
theorem d_M_settle_153 : decode cX12_settle 153 = .ok (.iand, 1) := by decide +kernel
theorem d_M_settle_154 : decode cX12_settle 154 = .ok (.istore_n 3, 1) := by decide +kernel
theorem d_M_settle_155 : decode cX12_settle 155 = .ok (.goto (-86), 3) := by decide +kernel
theorem d_M_settle_158 : decode cX12_settle 158 = .ok (.iinc 2 1, 3) := by decide +kernel
theorem d_M_settle_161 : decode cX12_settle 161 = .ok (.goto (-116), 3) := by decide +kernel
theorem d_M_settle_164 : decode cX12_settle 164 = .ok (.iload_n 1, 1) := by decide +kernel
theorem d_M_settle_165 : decode cX12_settle 165 = .ok (.invokestatic 492, 3) := by decide +kernel
theorem d_M_settle_168 : decode cX12_settle 168 = .ok (.aload_n 0, 1) := by decide +kernel
theorem d_M_settle_169 : decode cX12_settle 169 = .ok (.getfield 166, 3) := by decide +kernel
theorem d_M_settle_172 : decode cX12_settle 172 = .ok (.iload_n 1, 1) := by decide +kernel
theorem d_M_settle_173 : decode cX12_settle 173 = .ok (.iaload, 1) := by decide +kernel
theorem d_M_settle_174 : decode cX12_settle 174 = .ok (.isub, 1) := by decide +kernel
theorem d_M_settle_175 : decode cX12_settle 175 = .ok (.ireturn, 1) := by decide +kernel
noncomputable def f_M_settle (h : mm_H) : Option (Int32 × mm_H) := mm_let (mm_pI h 261 0 0) fun h1 => (mm_while (σ := (Int32 × Int32)) (ρ := Int32) (fun s3 => if (h1.1 263 0) ≤ s3.2 then (some (Sum.inr s3.1)) else ((f_M_net s3.2 h1).bind fun v10 => (if v10 = 0 then (some 0) else (some ((1 : Int32) <<< (s3.2 &&& 31))) : Option Int32).bind fun j11 => mm_let (s3.1 ||| j11) fun y16 => mm_let (s3.2 + 1) fun y18 => some (Sum.inl (y16, y18)))) (0, 0)).bind fun v6 => (mm_while (σ := (Int32 × mm_H)) (ρ := mm_H) (fun s24 => if 64 ≤ s24.1 then (some (Sum.inr s24.2)) else ((if s24.1 = 0 then (some 0) else (some (-100)) : Option Int32).bind fun j30 => (mm_ix s24.1 64).bind fun k35 => mm_let (mm_pI s24.2 313 k35 j30) fun h37 => (mm_while (σ := (Int32 × mm_H)) (ρ := mm_H) (fun s39 => if s39.1 ≤ 0 then (some (Sum.inr s39.2)) else ((mm_while (σ := (Int32 × Int32)) (ρ := Int32) (fun s45 => if 6 ≤ s45.2 then (some (Sum.inr s45.1)) else ((if ((s39.1 >>> (s45.2 &&& 31)) &&& 1) = 1 then ((f_M_net s45.2 s39.2).bind fun v54 => some v54) else (some 0) : Option Int32).bind fun j51 => mm_let (s45.1 + j51) fun y58 => mm_let (s45.2 + 1) fun y60 => some (Sum.inl (y58, y60)))) (0, 0)).bind fun v48 => (if v48 = 0 then ((mm_ix s24.1 64).bind fun k68 => (mm_ix (s24.1 &&& (s39.1 ^^^ (-1))) 64).bind fun k70 => (f_JM_max (s39.2.1 313 k68) (1 + (s39.2.1 313 k70))).bind fun v73 => (mm_ix s24.1 64).bind fun k74 => mm_let (mm_pI s39.2 313 k74 v73) fun h76 => some h76) else (some s39.2) : Option mm_H).bind fun j66 => mm_let ((s39.1 - 1) &&& s24.1) fun y81 => some (Sum.inl (y81, j66)))) (s24.1, h37)).bind fun v42 => mm_let (s24.1 + 1) fun y87 => some (Sum.inl (y87, v42)))) (0, h1)).bind fun v27 => (f_M_bits v6).bind fun v94 => (mm_ix v6 64).bind fun k95 => some ((v94 - (v27.1 313 k95)), v27)
theorem T_M_settle (V : mm_V) (l : Launch) (h : mm_H) (r : (Int32 × mm_H)) (hf : f_M_settle h = some r) : MT V l Y_M_settle 2 [.ref 261] (fun r1 h1 => r1 = some (.int r.1) ∧ h1 = r.2) h := by
  unfold f_M_settle at hf
  refine MT.intro (pn_M rfl) [(0, .ref 261)] rfl (Nat.le_of_ble_eq_true rfl) ?_
  generalize hZ : mm_Z V _ = Z0
  refine MM.aload_n (i := 0) rfl rfl d_M_settle_0 rfl ?_
  refine MM.iconst ic_0 d_M_settle_1 rfl ?_
  obtain ⟨h1, e2, hf⟩ := mm_letE hf
  refine MM.putI e2 9 tg_261 lays_9 toks_9 pq_9_0 ww_1358 d_M_settle_2 rfl ?_
  refine MM.iconst ic_0 d_M_settle_5 rfl ?_
  refine MM.istore_n (i := 1) (lv' := [(1, .int 0), (0, .ref 261)]) rfl rfl (Nat.le_of_ble_eq_true rfl) rfl d_M_settle_6 rfl ?_
  refine MM.iconst ic_0 d_M_settle_7 rfl ?_
  refine MM.istore_n (i := 2) (lv' := [(2, .int 0), (1, .int 0), (0, .ref 261)]) rfl rfl (Nat.le_of_ble_eq_true rfl) rfl d_M_settle_8 rfl ?_
  obtain ⟨v6, e8, hf⟩ := mm_bind hf
  have K7 : MM V l Y_M_settle 2 0 0 Z0 43 [(0, .ref 261), (1, .int v6)] [] h1 := by
    refine MM.iconst ic_0 d_M_settle_43 rfl ?_
    refine MM.istore_n (i := 2) (lv' := [(2, .int 0), (0, .ref 261), (1, .int v6)]) rfl rfl (Nat.le_of_ble_eq_true rfl) rfl d_M_settle_44 rfl ?_
    obtain ⟨v27, e29, hf⟩ := mm_bind hf
    have K28 : MM V l Y_M_settle 2 0 0 Z0 164 [(0, .ref 261), (1, .int v6)] [] v27 := by
      refine MM.iload_n (i := 1) rfl rfl d_M_settle_164 rfl ?_
      obtain ⟨v94, e93, hf⟩ := mm_bind hf
      refine MM.callS1 (T_M_bits V l v6 v27 _ e93) (fun _ _ q => q) cal_M_bits rfl ww_1922 ww_1921 (by decide) (by simp [Value.category]) d_M_settle_165 rfl ⟨rfl, rfl⟩ rfl ?_
      refine MM.aload_n (i := 0) rfl rfl d_M_settle_168 rfl ?_
      refine MM.gR 9 52 tg_261 rq_9_65 rfl lays_9 ww_1423 d_M_settle_169 rfl ?_
      refine MM.iload_n (i := 1) rfl rfl d_M_settle_172 rfl ?_
      obtain ⟨k95, e96, hf⟩ := mm_bind hf
      refine MM.gI e96 al_313 d_M_settle_173 rfl ?_
      refine MM.isub d_M_settle_174 rfl ?_
      obtain rfl := Option.some.inj hf
      subst hZ
      exact MM.iret rfl d_M_settle_175 ⟨rfl, rfl⟩
    clear hf
    refine MM.sub [1, 2, 0] (by rfl) (mm_while_ind (fun s24 => MM V l Y_M_settle 2 0 0 Z0 45 [(0, .ref 261), (1, .int v6), (2, .int s24.1)] [] s24.2) e29 (fun s24 q25 hf hx26 => ?_))
    refine MM.iload_n (i := 2) rfl rfl d_M_settle_45 rfl ?_
    refine MM.bipush bp_64 d_M_settle_46 rfl ?_
    obtain ⟨m91, m92⟩ := mm_ifE hf
    refine MM.icmp_ge (tgt := 164) d_M_settle_48 rfl rfl (fun c90 => ?_) (fun c90 => ?_)
    · replace hf := m91 c90
      obtain rfl := Option.some.inj hf
      obtain rfl := Option.some.inj (mm_wxR hx26)
      exact MM.sub [0, 1] (by rfl) K28
    · replace hf := m92 c90
      refine MM.aload_n (i := 0) rfl rfl d_M_settle_51 rfl ?_
      refine MM.gR 9 52 tg_261 rq_9_65 rfl lays_9 ww_1423 d_M_settle_52 rfl ?_
      refine MM.iload_n (i := 2) rfl rfl d_M_settle_55 rfl ?_
      refine MM.iload_n (i := 2) rfl rfl d_M_settle_56 rfl ?_
      obtain ⟨j30, e89, hf⟩ := mm_bind hf
      have K31 : MM V l Y_M_settle 2 0 0 Z0 66 [(0, .ref 261), (1, .int v6), (2, .int s24.1)] [.int j30, .int s24.1, .ref 313] s24.2 := by
        obtain ⟨k35, e36, hf⟩ := mm_bind hf
        obtain ⟨h37, e38, hf⟩ := mm_letE hf
        refine MM.sI e36 e38 al_313 d_M_settle_66 rfl ?_
        refine MM.iload_n (i := 2) rfl rfl d_M_settle_67 rfl ?_
        refine MM.istore_n (i := 3) (lv' := [(3, .int s24.1), (0, .ref 261), (1, .int v6), (2, .int s24.1)]) rfl rfl (Nat.le_of_ble_eq_true rfl) rfl d_M_settle_68 rfl ?_
        obtain ⟨v42, e44, hf⟩ := mm_bind hf
        have K43 : MM V l Y_M_settle 2 0 0 Z0 158 [(0, .ref 261), (1, .int v6), (2, .int s24.1)] [] v42 := by
          obtain ⟨y87, e88, hf⟩ := mm_letE hf
          refine MM.iinc (k0 := 2) (lv' := [(2, .int y87), (0, .ref 261), (1, .int v6)]) (by rw [ic_1]; exact e88) rfl (Nat.le_of_ble_eq_true rfl) rfl d_M_settle_158 rfl ?_
          refine MM.goto (tgt := 45) d_M_settle_161 rfl ?_
          obtain rfl := Option.some.inj hf
          have h9 := mm_wxL hx26
          exact MM.sub [1, 2, 0] (by rfl) h9
        clear hf
        refine MM.sub [1, 2, 3, 0] (by rfl) (mm_while_ind (fun s39 => MM V l Y_M_settle 2 0 0 Z0 69 [(0, .ref 261), (1, .int v6), (2, .int s24.1), (3, .int s39.1)] [] s39.2) e44 (fun s39 q40 hf hx41 => ?_))
        refine MM.iload_n (i := 3) rfl rfl d_M_settle_69 rfl ?_
        obtain ⟨m85, m86⟩ := mm_ifE hf
        refine MM.if_le (tgt := 158) d_M_settle_70 rfl rfl (fun c84 => ?_) (fun c84 => ?_)
        · replace hf := m85 c84
          obtain rfl := Option.some.inj hf
          obtain rfl := Option.some.inj (mm_wxR hx41)
          exact MM.sub [0, 1, 2] (by rfl) K43
        · replace hf := m86 c84
          refine MM.iconst ic_0 d_M_settle_73 rfl ?_
          refine MM.istore (lv' := [(4, .int 0), (0, .ref 261), (1, .int v6), (2, .int s24.1), (3, .int s39.1)]) rfl (Nat.le_of_ble_eq_true rfl) rfl d_M_settle_74 rfl ?_
          refine MM.iconst ic_0 d_M_settle_76 rfl ?_
          refine MM.istore (lv' := [(5, .int 0), (4, .int 0), (0, .ref 261), (1, .int v6), (2, .int s24.1), (3, .int s39.1)]) rfl (Nat.le_of_ble_eq_true rfl) rfl d_M_settle_77 rfl ?_
          obtain ⟨v48, e50, hf⟩ := mm_bind hf
          have K49 : MM V l Y_M_settle 2 0 0 Z0 117 [(0, .ref 261), (1, .int v6), (2, .int s24.1), (3, .int s39.1), (4, .int v48)] [] s39.2 := by
            refine MM.iload rfl d_M_settle_117 rfl ?_
            obtain ⟨j66, e83, hf⟩ := mm_bind hf
            have K67 : MM V l Y_M_settle 2 0 0 Z0 149 [(0, .ref 261), (1, .int v6), (2, .int s24.1), (3, .int s39.1)] [] j66 := by
              refine MM.iload_n (i := 3) rfl rfl d_M_settle_149 rfl ?_
              refine MM.iconst ic_1 d_M_settle_150 rfl ?_
              refine MM.isub d_M_settle_151 rfl ?_
              refine MM.iload_n (i := 2) rfl rfl d_M_settle_152 rfl ?_
              refine MM.iand d_M_settle_153 rfl ?_
              obtain ⟨y81, e82, hf⟩ := mm_letE hf
              refine MM.istore_n (i := 3) (lv' := [(3, .int y81), (0, .ref 261), (1, .int v6), (2, .int s24.1)]) e82 rfl (Nat.le_of_ble_eq_true rfl) rfl d_M_settle_154 rfl ?_
              refine MM.goto (tgt := 69) d_M_settle_155 rfl ?_
              obtain rfl := Option.some.inj hf
              have h9 := mm_wxL hx41
              exact MM.sub [1, 2, 3, 0] (by rfl) h9
            clear hf
            have hf := e83
            clear e83
            obtain ⟨m79, m80⟩ := mm_ifE hf
            refine MM.if_ne (tgt := 149) d_M_settle_119 rfl rfl (fun c78 => ?_) (fun c78 => ?_)
            · replace hf := m80 c78
              obtain rfl := Option.some.inj hf
              exact MM.sub [0, 1, 2, 3] (by rfl) K67
            · replace hf := m79 c78
              refine MM.aload_n (i := 0) rfl rfl d_M_settle_122 rfl ?_
              refine MM.gR 9 52 tg_261 rq_9_65 rfl lays_9 ww_1423 d_M_settle_123 rfl ?_
              refine MM.iload_n (i := 2) rfl rfl d_M_settle_126 rfl ?_
              refine MM.aload_n (i := 0) rfl rfl d_M_settle_127 rfl ?_
              refine MM.gR 9 52 tg_261 rq_9_65 rfl lays_9 ww_1423 d_M_settle_128 rfl ?_
              refine MM.iload_n (i := 2) rfl rfl d_M_settle_131 rfl ?_
              obtain ⟨k68, e69, hf⟩ := mm_bind hf
              refine MM.gI e69 al_313 d_M_settle_132 rfl ?_
              refine MM.iconst ic_1 d_M_settle_133 rfl ?_
              refine MM.aload_n (i := 0) rfl rfl d_M_settle_134 rfl ?_
              refine MM.gR 9 52 tg_261 rq_9_65 rfl lays_9 ww_1423 d_M_settle_135 rfl ?_
              refine MM.iload_n (i := 2) rfl rfl d_M_settle_138 rfl ?_
              refine MM.iload_n (i := 3) rfl rfl d_M_settle_139 rfl ?_
              refine MM.iconst ic_m1 d_M_settle_140 rfl ?_
              refine MM.ixor d_M_settle_141 rfl ?_
              refine MM.iand d_M_settle_142 rfl ?_
              obtain ⟨k70, e71, hf⟩ := mm_bind hf
              refine MM.gI e71 al_313 d_M_settle_143 rfl ?_
              refine MM.iadd d_M_settle_144 rfl ?_
              obtain ⟨v73, e72, hf⟩ := mm_bind hf
              refine MM.callS1 (T_JM_max V l (s39.2.1 313 k68) (1 + (s39.2.1 313 k70)) s39.2 _ e72) (fun _ _ q => q) cal_JM_max rfl ww_604 ww_1793 (by decide) (by simp [Value.category]) d_M_settle_145 rfl ⟨rfl, rfl⟩ rfl ?_
              obtain ⟨k74, e75, hf⟩ := mm_bind hf
              obtain ⟨h76, e77, hf⟩ := mm_letE hf
              refine MM.sI e75 e77 al_313 d_M_settle_148 rfl ?_
              obtain rfl := Option.some.inj hf
              exact MM.sub [0, 1, 2, 3] (by rfl) K67
          clear hf
          refine MM.sub [2, 3, 4, 5, 1, 0] (by rfl) (mm_while_ind (fun s45 => MM V l Y_M_settle 2 0 0 Z0 79 [(0, .ref 261), (1, .int v6), (2, .int s24.1), (3, .int s39.1), (4, .int s45.1), (5, .int s45.2)] [] s39.2) e50 (fun s45 q46 hf hx47 => ?_))
          refine MM.iload rfl d_M_settle_79 rfl ?_
          refine MM.bipush bp_6 d_M_settle_81 rfl ?_
          obtain ⟨m64, m65⟩ := mm_ifE hf
          refine MM.icmp_ge (tgt := 117) d_M_settle_83 rfl rfl (fun c63 => ?_) (fun c63 => ?_)
          · replace hf := m64 c63
            obtain rfl := Option.some.inj hf
            obtain rfl := Option.some.inj (mm_wxR hx47)
            exact MM.sub [0, 1, 2, 3, 4] (by rfl) K49
          · replace hf := m65 c63
            refine MM.iload rfl d_M_settle_86 rfl ?_
            refine MM.iload_n (i := 3) rfl rfl d_M_settle_88 rfl ?_
            refine MM.iload rfl d_M_settle_89 rfl ?_
            refine MM.ishr d_M_settle_91 rfl ?_
            refine MM.iconst ic_1 d_M_settle_92 rfl ?_
            refine MM.iand d_M_settle_93 rfl ?_
            refine MM.iconst ic_1 d_M_settle_94 rfl ?_
            obtain ⟨j51, e62, hf⟩ := mm_bind hf
            have K52 : MM V l Y_M_settle 2 0 0 Z0 108 [(0, .ref 261), (1, .int v6), (2, .int s24.1), (3, .int s39.1), (5, .int s45.2)] [.int j51, .int s45.1] s39.2 := by
              refine MM.iadd d_M_settle_108 rfl ?_
              obtain ⟨y58, e59, hf⟩ := mm_letE hf
              refine MM.istore (lv' := [(4, .int y58), (0, .ref 261), (1, .int v6), (2, .int s24.1), (3, .int s39.1), (5, .int s45.2)]) e59 (Nat.le_of_ble_eq_true rfl) rfl d_M_settle_109 rfl ?_
              obtain ⟨y60, e61, hf⟩ := mm_letE hf
              refine MM.iinc (k0 := 5) (lv' := [(5, .int y60), (4, .int y58), (0, .ref 261), (1, .int v6), (2, .int s24.1), (3, .int s39.1)]) (by rw [ic_1]; exact e61) rfl (Nat.le_of_ble_eq_true rfl) rfl d_M_settle_111 rfl ?_
              refine MM.goto (tgt := 79) d_M_settle_114 rfl ?_
              obtain rfl := Option.some.inj hf
              have h9 := mm_wxL hx47
              exact MM.sub [2, 3, 4, 5, 1, 0] (by rfl) h9
            clear hf
            have hf := e62
            clear e62
            obtain ⟨m56, m57⟩ := mm_ifE hf
            refine MM.icmp_ne (tgt := 107) d_M_settle_95 rfl rfl (fun c55 => ?_) (fun c55 => ?_)
            · replace hf := m57 c55
              refine MM.iconst ic_0 d_M_settle_107 rfl ?_
              obtain rfl := Option.some.inj hf
              exact MM.sub [0, 1, 2, 3, 5] (by rfl) K52
            · replace hf := m56 c55
              refine MM.aload_n (i := 0) rfl rfl d_M_settle_98 rfl ?_
              refine MM.iload rfl d_M_settle_99 rfl ?_
              obtain ⟨v54, e53, hf⟩ := mm_bind hf
              refine MM.callV1 (T_M_net V l s45.2 s39.2 _ e53) (fun _ _ q => q) cal_M_net rfl tg_261 ct_9 ww_81 ww_1815 ww_1813 (by decide) (by simp [Value.category]) d_M_settle_101 rfl ⟨rfl, rfl⟩ rfl ?_
              refine MM.goto (tgt := 108) d_M_settle_104 rfl ?_
              obtain rfl := Option.some.inj hf
              exact MM.sub [0, 1, 2, 3, 5] (by rfl) K52
      clear hf
      have hf := e89
      clear e89
      obtain ⟨m33, m34⟩ := mm_ifE hf
      refine MM.if_ne (tgt := 64) d_M_settle_57 rfl rfl (fun c32 => ?_) (fun c32 => ?_)
      · replace hf := m34 c32
        refine MM.bipush bp_m100 d_M_settle_64 rfl ?_
        obtain rfl := Option.some.inj hf
        exact MM.sub [0, 1, 2] (by rfl) K31
      · replace hf := m33 c32
        refine MM.iconst ic_0 d_M_settle_60 rfl ?_
        refine MM.goto (tgt := 66) d_M_settle_61 rfl ?_
        obtain rfl := Option.some.inj hf
        exact MM.sub [0, 1, 2] (by rfl) K31
  clear hf
  refine MM.sub [2, 1, 0] (by rfl) (mm_while_ind (fun s3 => MM V l Y_M_settle 2 0 0 Z0 9 [(0, .ref 261), (1, .int s3.1), (2, .int s3.2)] [] h1) e8 (fun s3 q4 hf hx5 => ?_))
  refine MM.iload_n (i := 2) rfl rfl d_M_settle_9 rfl ?_
  refine MM.aload_n (i := 0) rfl rfl d_M_settle_10 rfl ?_
  refine MM.gR 9 2 tg_261 rq_9_10 rfl lays_9 ww_1368 d_M_settle_11 rfl ?_
  refine MM.iconst ic_0 d_M_settle_14 rfl ?_
  refine MM.gI ix_0_8 al_263 d_M_settle_15 rfl ?_
  obtain ⟨m22, m23⟩ := mm_ifE hf
  refine MM.icmp_ge (tgt := 43) d_M_settle_16 rfl rfl (fun c21 => ?_) (fun c21 => ?_)
  · replace hf := m22 c21
    obtain rfl := Option.some.inj hf
    obtain rfl := Option.some.inj (mm_wxR hx5)
    exact MM.sub [0, 1] (by rfl) K7
  · replace hf := m23 c21
    refine MM.iload_n (i := 1) rfl rfl d_M_settle_19 rfl ?_
    refine MM.aload_n (i := 0) rfl rfl d_M_settle_20 rfl ?_
    refine MM.iload_n (i := 2) rfl rfl d_M_settle_21 rfl ?_
    obtain ⟨v10, e9, hf⟩ := mm_bind hf
    refine MM.callV1 (T_M_net V l s3.2 h1 _ e9) (fun _ _ q => q) cal_M_net rfl tg_261 ct_9 ww_81 ww_1815 ww_1813 (by decide) (by simp [Value.category]) d_M_settle_22 rfl ⟨rfl, rfl⟩ rfl ?_
    obtain ⟨j11, e20, hf⟩ := mm_bind hf
    have K12 : MM V l Y_M_settle 2 0 0 Z0 35 [(0, .ref 261), (2, .int s3.2)] [.int j11, .int s3.1] h1 := by
      refine MM.ior d_M_settle_35 rfl ?_
      obtain ⟨y16, e17, hf⟩ := mm_letE hf
      refine MM.istore_n (i := 1) (lv' := [(1, .int y16), (0, .ref 261), (2, .int s3.2)]) e17 rfl (Nat.le_of_ble_eq_true rfl) rfl d_M_settle_36 rfl ?_
      obtain ⟨y18, e19, hf⟩ := mm_letE hf
      refine MM.iinc (k0 := 2) (lv' := [(2, .int y18), (1, .int y16), (0, .ref 261)]) (by rw [ic_1]; exact e19) rfl (Nat.le_of_ble_eq_true rfl) rfl d_M_settle_37 rfl ?_
      refine MM.goto (tgt := 9) d_M_settle_40 rfl ?_
      obtain rfl := Option.some.inj hf
      have h9 := mm_wxL hx5
      exact MM.sub [2, 1, 0] (by rfl) h9
    clear hf
    have hf := e20
    clear e20
    obtain ⟨m14, m15⟩ := mm_ifE hf
    refine MM.if_eq (tgt := 34) d_M_settle_25 rfl rfl (fun c13 => ?_) (fun c13 => ?_)
    · replace hf := m14 c13
      refine MM.iconst ic_0 d_M_settle_34 rfl ?_
      obtain rfl := Option.some.inj hf
      exact MM.sub [0, 2] (by rfl) K12
    · replace hf := m15 c13
      refine MM.iconst ic_1 d_M_settle_28 rfl ?_
      refine MM.iload_n (i := 2) rfl rfl d_M_settle_29 rfl ?_
      refine MM.ishl d_M_settle_30 rfl ?_
      refine MM.goto (tgt := 35) d_M_settle_31 rfl ?_
      obtain rfl := Option.some.inj hf
      exact MM.sub [0, 2] (by rfl) K12
theorem d_M_hasBy_0 : decode cX12_hasBy 0 = .ok (.aload_n 0, 1) := by decide +kernel
theorem d_M_hasBy_1 : decode cX12_hasBy 1 = .ok (.getfield 172, 3) := by decide +kernel
theorem d_M_hasBy_4 : decode cX12_hasBy 4 = .ok (.iload_n 1, 1) := by decide +kernel
theorem d_M_hasBy_5 : decode cX12_hasBy 5 = .ok (.iaload, 1) := by decide +kernel
theorem d_M_hasBy_6 : decode cX12_hasBy 6 = .ok (.ifCond .ne 5, 3) := by decide +kernel
theorem d_M_hasBy_9 : decode cX12_hasBy 9 = .ok (.iconst 0, 1) := by decide +kernel
theorem d_M_hasBy_10 : decode cX12_hasBy 10 = .ok (.ireturn, 1) := by decide +kernel
theorem d_M_hasBy_11 : decode cX12_hasBy 11 = .ok (.iconst 0, 1) := by decide +kernel
theorem d_M_hasBy_12 : decode cX12_hasBy 12 = .ok (.istore_n 2, 1) := by decide +kernel
theorem d_M_hasBy_13 : decode cX12_hasBy 13 = .ok (.iconst 0, 1) := by decide +kernel
theorem d_M_hasBy_14 : decode cX12_hasBy 14 = .ok (.istore_n 3, 1) := by decide +kernel
theorem d_M_hasBy_15 : decode cX12_hasBy 15 = .ok (.iload_n 3, 1) := by decide +kernel
theorem d_M_hasBy_16 : decode cX12_hasBy 16 = .ok (.aload_n 0, 1) := by decide +kernel
theorem d_M_hasBy_17 : decode cX12_hasBy 17 = .ok (.getfield 531, 3) := by decide +kernel
theorem d_M_hasBy_20 : decode cX12_hasBy 20 = .ok (.if_icmp .ge 32, 3) := by decide +kernel
theorem d_M_hasBy_23 : decode cX12_hasBy 23 = .ok (.iload_n 2, 1) := by decide +kernel
theorem d_M_hasBy_24 : decode cX12_hasBy 24 = .ok (.aload_n 0, 1) := by decide +kernel
theorem d_M_hasBy_25 : decode cX12_hasBy 25 = .ok (.getfield 172, 3) := by decide +kernel
theorem d_M_hasBy_28 : decode cX12_hasBy 28 = .ok (.iload_n 3, 1) := by decide +kernel
theorem d_M_hasBy_29 : decode cX12_hasBy 29 = .ok (.iaload, 1) := by decide +kernel
theorem d_M_hasBy_30 : decode cX12_hasBy 30 = .ok (.aload_n 0, 1) := by decide +kernel
theorem d_M_hasBy_31 : decode cX12_hasBy 31 = .ok (.getfield 172, 3) := by decide +kernel
theorem d_M_hasBy_34 : decode cX12_hasBy 34 = .ok (.iload_n 1, 1) := by decide +kernel
theorem d_M_hasBy_35 : decode cX12_hasBy 35 = .ok (.iaload, 1) := by decide +kernel
theorem d_M_hasBy_36 : decode cX12_hasBy 36 = .ok (.if_icmp .ne 7, 3) := by decide +kernel
theorem d_M_hasBy_39 : decode cX12_hasBy 39 = .ok (.iconst 1, 1) := by decide +kernel
theorem d_M_hasBy_40 : decode cX12_hasBy 40 = .ok (.goto 4, 3) := by decide +kernel
theorem d_M_hasBy_43 : decode cX12_hasBy 43 = .ok (.iconst 0, 1) := by decide +kernel
theorem d_M_hasBy_44 : decode cX12_hasBy 44 = .ok (.iadd, 1) := by decide +kernel
theorem d_M_hasBy_45 : decode cX12_hasBy 45 = .ok (.istore_n 2, 1) := by decide +kernel
theorem d_M_hasBy_46 : decode cX12_hasBy 46 = .ok (.iinc 3 1, 3) := by decide +kernel
theorem d_M_hasBy_49 : decode cX12_hasBy 49 = .ok (.goto (-34), 3) := by decide +kernel
theorem d_M_hasBy_52 : decode cX12_hasBy 52 = .ok (.aload_n 0, 1) := by decide +kernel
theorem d_M_hasBy_53 : decode cX12_hasBy 53 = .ok (.aload_n 0, 1) := by decide +kernel
theorem d_M_hasBy_54 : decode cX12_hasBy 54 = .ok (.getfield 172, 3) := by decide +kernel
theorem d_M_hasBy_57 : decode cX12_hasBy 57 = .ok (.iload_n 1, 1) := by decide +kernel
theorem d_M_hasBy_58 : decode cX12_hasBy 58 = .ok (.iaload, 1) := by decide +kernel
theorem d_M_hasBy_59 : decode cX12_hasBy 59 = .ok (.iconst 1, 1) := by decide +kernel
theorem d_M_hasBy_60 : decode cX12_hasBy 60 = .ok (.isub, 1) := by decide +kernel
theorem d_M_hasBy_61 : decode cX12_hasBy 61 = .ok (.invokevirtual 427, 3) := by decide +kernel
theorem d_M_hasBy_64 : decode cX12_hasBy 64 = .ok (.iload_n 2, 1) := by decide +kernel
theorem d_M_hasBy_65 : decode cX12_hasBy 65 = .ok (.idiv, 1) := by decide +kernel
theorem d_M_hasBy_66 : decode cX12_hasBy 66 = .ok (.iconst 1, 1) := by decide +kernel
theorem d_M_hasBy_67 : decode cX12_hasBy 67 = .ok (.isub, 1) := by decide +kernel
theorem d_M_hasBy_68 : decode cX12_hasBy 68 = .ok (.ireturn, 1) := by decide +kernel
noncomputable def f_M_hasBy (x1 : Int32) (h : mm_H) : Option (Int32 × mm_H) := (mm_ix x1 3).bind fun k1 => if (h.1 315 k1) = 0 then (some (0, h)) else ((mm_while (σ := (Int32 × Int32)) (ρ := Int32) (fun s3 => if (h.1 261 68) ≤ s3.2 then (some (Sum.inr s3.1)) else ((mm_ix s3.2 3).bind fun k9 => (mm_ix x1 3).bind fun k11 => (if (h.1 315 k9) = (h.1 315 k11) then (some 1) else (some 0) : Option Int32).bind fun j13 => mm_let (s3.1 + j13) fun y18 => mm_let (s3.2 + 1) fun y20 => some (Sum.inl (y18, y20)))) (0, 0)).bind fun v6 => (mm_ix x1 3).bind fun k26 => (f_M_worthOf ((h.1 315 k26) - 1) h).bind fun v29 => (mm_nzI v6).bind fun _ => some (((v29.1 / v6) - 1), v29.2))
theorem T_M_hasBy (V : mm_V) (l : Launch) (x1 : Int32) (h : mm_H) (r : (Int32 × mm_H)) (hf : f_M_hasBy x1 h = some r) : MT V l Y_M_hasBy 18 [.ref 261, .int x1] (fun r1 h1 => r1 = some (.int r.1) ∧ h1 = r.2) h := by
  unfold f_M_hasBy at hf
  refine MT.intro (pn_M rfl) [(0, .ref 261), (1, .int x1)] rfl (Nat.le_of_ble_eq_true rfl) ?_
  generalize hZ : mm_Z V _ = Z0
  refine MM.aload_n (i := 0) rfl rfl d_M_hasBy_0 rfl ?_
  refine MM.gR 9 54 tg_261 rq_9_67 rfl lays_9 ww_1425 d_M_hasBy_1 rfl ?_
  refine MM.iload_n (i := 1) rfl rfl d_M_hasBy_4 rfl ?_
  obtain ⟨k1, e2, hf⟩ := mm_bind hf
  refine MM.gI e2 al_315 d_M_hasBy_5 rfl ?_
  obtain ⟨m33, m34⟩ := mm_ifE hf
  refine MM.if_ne (tgt := 11) d_M_hasBy_6 rfl rfl (fun c32 => ?_) (fun c32 => ?_)
  · replace hf := m34 c32
    refine MM.iconst ic_0 d_M_hasBy_11 rfl ?_
    refine MM.istore_n (i := 2) (lv' := [(2, .int 0), (0, .ref 261), (1, .int x1)]) rfl rfl (Nat.le_of_ble_eq_true rfl) rfl d_M_hasBy_12 rfl ?_
    refine MM.iconst ic_0 d_M_hasBy_13 rfl ?_
    refine MM.istore_n (i := 3) (lv' := [(3, .int 0), (2, .int 0), (0, .ref 261), (1, .int x1)]) rfl rfl (Nat.le_of_ble_eq_true rfl) rfl d_M_hasBy_14 rfl ?_
    obtain ⟨v6, e8, hf⟩ := mm_bind hf
    have K7 : MM V l Y_M_hasBy 18 0 0 Z0 52 [(0, .ref 261), (1, .int x1), (2, .int v6)] [] h := by
      refine MM.aload_n (i := 0) rfl rfl d_M_hasBy_52 rfl ?_
      refine MM.aload_n (i := 0) rfl rfl d_M_hasBy_53 rfl ?_
      refine MM.gR 9 54 tg_261 rq_9_67 rfl lays_9 ww_1425 d_M_hasBy_54 rfl ?_
      refine MM.iload_n (i := 1) rfl rfl d_M_hasBy_57 rfl ?_
      obtain ⟨k26, e27, hf⟩ := mm_bind hf
      refine MM.gI e27 al_315 d_M_hasBy_58 rfl ?_
      refine MM.iconst ic_1 d_M_hasBy_59 rfl ?_
      refine MM.isub d_M_hasBy_60 rfl ?_
      obtain ⟨v29, e28, hf⟩ := mm_bind hf
      refine MM.callV1 (T_M_worthOf V l ((h.1 315 k26) - 1) h _ e28) (fun _ _ q => q) cal_M_worthOf rfl tg_261 ct_9 ww_74 ww_1783 ww_1781 (by decide) (by simp [Value.category]) d_M_hasBy_61 rfl ⟨rfl, rfl⟩ rfl ?_
      refine MM.iload_n (i := 2) rfl rfl d_M_hasBy_64 rfl ?_
      obtain ⟨u30, e31, hf⟩ := mm_bind hf
      refine MM.idiv (mm_nzIE e31) d_M_hasBy_65 rfl ?_
      refine MM.iconst ic_1 d_M_hasBy_66 rfl ?_
      refine MM.isub d_M_hasBy_67 rfl ?_
      obtain rfl := Option.some.inj hf
      subst hZ
      exact MM.iret rfl d_M_hasBy_68 ⟨rfl, rfl⟩
    clear hf
    refine MM.sub [2, 3, 1, 0] (by rfl) (mm_while_ind (fun s3 => MM V l Y_M_hasBy 18 0 0 Z0 15 [(0, .ref 261), (1, .int x1), (2, .int s3.1), (3, .int s3.2)] [] h) e8 (fun s3 q4 hf hx5 => ?_))
    refine MM.iload_n (i := 3) rfl rfl d_M_hasBy_15 rfl ?_
    refine MM.aload_n (i := 0) rfl rfl d_M_hasBy_16 rfl ?_
    refine MM.getI 9 tg_261 lays_9 gq_9_68 ww_1426 d_M_hasBy_17 rfl ?_
    obtain ⟨m24, m25⟩ := mm_ifE hf
    refine MM.icmp_ge (tgt := 52) d_M_hasBy_20 rfl rfl (fun c23 => ?_) (fun c23 => ?_)
    · replace hf := m24 c23
      obtain rfl := Option.some.inj hf
      obtain rfl := Option.some.inj (mm_wxR hx5)
      exact MM.sub [0, 1, 2] (by rfl) K7
    · replace hf := m25 c23
      refine MM.iload_n (i := 2) rfl rfl d_M_hasBy_23 rfl ?_
      refine MM.aload_n (i := 0) rfl rfl d_M_hasBy_24 rfl ?_
      refine MM.gR 9 54 tg_261 rq_9_67 rfl lays_9 ww_1425 d_M_hasBy_25 rfl ?_
      refine MM.iload_n (i := 3) rfl rfl d_M_hasBy_28 rfl ?_
      obtain ⟨k9, e10, hf⟩ := mm_bind hf
      refine MM.gI e10 al_315 d_M_hasBy_29 rfl ?_
      refine MM.aload_n (i := 0) rfl rfl d_M_hasBy_30 rfl ?_
      refine MM.gR 9 54 tg_261 rq_9_67 rfl lays_9 ww_1425 d_M_hasBy_31 rfl ?_
      refine MM.iload_n (i := 1) rfl rfl d_M_hasBy_34 rfl ?_
      obtain ⟨k11, e12, hf⟩ := mm_bind hf
      refine MM.gI e12 al_315 d_M_hasBy_35 rfl ?_
      obtain ⟨j13, e22, hf⟩ := mm_bind hf
      have K14 : MM V l Y_M_hasBy 18 0 0 Z0 44 [(0, .ref 261), (1, .int x1), (3, .int s3.2)] [.int j13, .int s3.1] h := by
        refine MM.iadd d_M_hasBy_44 rfl ?_
        obtain ⟨y18, e19, hf⟩ := mm_letE hf
        refine MM.istore_n (i := 2) (lv' := [(2, .int y18), (0, .ref 261), (1, .int x1), (3, .int s3.2)]) e19 rfl (Nat.le_of_ble_eq_true rfl) rfl d_M_hasBy_45 rfl ?_
        obtain ⟨y20, e21, hf⟩ := mm_letE hf
        refine MM.iinc (k0 := 3) (lv' := [(3, .int y20), (2, .int y18), (0, .ref 261), (1, .int x1)]) (by rw [ic_1]; exact e21) rfl (Nat.le_of_ble_eq_true rfl) rfl d_M_hasBy_46 rfl ?_
        refine MM.goto (tgt := 15) d_M_hasBy_49 rfl ?_
        obtain rfl := Option.some.inj hf
        have h9 := mm_wxL hx5
        exact MM.sub [2, 3, 1, 0] (by rfl) h9
      clear hf
      have hf := e22
      clear e22
      obtain ⟨m16, m17⟩ := mm_ifE hf
      refine MM.icmp_ne (tgt := 43) d_M_hasBy_36 rfl rfl (fun c15 => ?_) (fun c15 => ?_)
      · replace hf := m17 c15
        refine MM.iconst ic_0 d_M_hasBy_43 rfl ?_
        obtain rfl := Option.some.inj hf
        exact MM.sub [0, 1, 3] (by rfl) K14
      · replace hf := m16 c15
        refine MM.iconst ic_1 d_M_hasBy_39 rfl ?_
        refine MM.goto (tgt := 44) d_M_hasBy_40 rfl ?_
        obtain rfl := Option.some.inj hf
        exact MM.sub [0, 1, 3] (by rfl) K14
  · replace hf := m33 c32
    refine MM.iconst ic_0 d_M_hasBy_9 rfl ?_
    obtain rfl := Option.some.inj hf
    subst hZ
    exact MM.iret rfl d_M_hasBy_10 ⟨rfl, rfl⟩
theorem d_M_may_0 : decode cX12_may 0 = .ok (.iload_n 2, 1) := by decide +kernel
theorem d_M_may_1 : decode cX12_may 1 = .ok (.ifCond .eq 34, 3) := by decide +kernel
theorem d_M_may_4 : decode cX12_may 4 = .ok (.iload_n 2, 1) := by decide +kernel
theorem d_M_may_5 : decode cX12_may 5 = .ok (.aload_n 0, 1) := by decide +kernel
theorem d_M_may_6 : decode cX12_may 6 = .ok (.getfield 13, 3) := by decide +kernel
theorem d_M_may_9 : decode cX12_may 9 = .ok (.iconst 1, 1) := by decide +kernel
theorem d_M_may_10 : decode cX12_may 10 = .ok (.iaload, 1) := by decide +kernel
theorem d_M_may_11 : decode cX12_may 11 = .ok (.if_icmp .gt 28, 3) := by decide +kernel
theorem d_M_may_14 : decode cX12_may 14 = .ok (.aload_n 0, 1) := by decide +kernel
theorem d_M_may_15 : decode cX12_may 15 = .ok (.getfield 129, 3) := by decide +kernel
theorem d_M_may_18 : decode cX12_may 18 = .ok (.iload_n 2, 1) := by decide +kernel
theorem d_M_may_19 : decode cX12_may 19 = .ok (.iconst 1, 1) := by decide +kernel
theorem d_M_may_20 : decode cX12_may 20 = .ok (.isub, 1) := by decide +kernel
theorem d_M_may_21 : decode cX12_may 21 = .ok (.iaload, 1) := by decide +kernel
theorem d_M_may_22 : decode cX12_may 22 = .ok (.aload_n 0, 1) := by decide +kernel
theorem d_M_may_23 : decode cX12_may 23 = .ok (.getfield 169, 3) := by decide +kernel
theorem d_M_may_26 : decode cX12_may 26 = .ok (.iload_n 1, 1) := by decide +kernel
theorem d_M_may_27 : decode cX12_may 27 = .ok (.iaload, 1) := by decide +kernel
theorem d_M_may_28 : decode cX12_may 28 = .ok (.ishr, 1) := by decide +kernel
theorem d_M_may_29 : decode cX12_may 29 = .ok (.iconst 1, 1) := by decide +kernel
theorem d_M_may_30 : decode cX12_may 30 = .ok (.iand, 1) := by decide +kernel
theorem d_M_may_31 : decode cX12_may 31 = .ok (.iconst 1, 1) := by decide +kernel
theorem d_M_may_32 : decode cX12_may 32 = .ok (.if_icmp .ne 7, 3) := by decide +kernel
theorem d_M_may_35 : decode cX12_may 35 = .ok (.iconst 1, 1) := by decide +kernel
theorem d_M_may_36 : decode cX12_may 36 = .ok (.goto 4, 3) := by decide +kernel
theorem d_M_may_39 : decode cX12_may 39 = .ok (.iconst 0, 1) := by decide +kernel
theorem d_M_may_40 : decode cX12_may 40 = .ok (.ireturn, 1) := by decide +kernel
noncomputable def f_M_may (x1 : Int32) (x2 : Int32) (h : mm_H) : Option Int32 := if x2 = 0 then (some 1) else (if (h.1 263 1) < x2 then (some 0) else ((mm_ix (x2 - 1) 123).bind fun k1 => (mm_ix x1 3).bind fun k3 => if (((h.1 301 k1) >>> ((h.1 314 k3) &&& 31)) &&& 1) = 1 then (some 1) else (some 0)))
theorem T_M_may (V : mm_V) (l : Launch) (x1 : Int32) (x2 : Int32) (h : mm_H) (r : Int32) (hf : f_M_may x1 x2 h = some r) : MT V l Y_M_may 1 [.ref 261, .int x1, .int x2] (fun r1 h1 => r1 = some (.int r) ∧ h1 = h) h := by
  unfold f_M_may at hf
  refine MT.intro (pn_M rfl) [(0, .ref 261), (1, .int x1), (2, .int x2)] rfl (Nat.le_of_ble_eq_true rfl) ?_
  generalize hZ : mm_Z V _ = Z0
  refine MM.iload_n (i := 2) rfl rfl d_M_may_0 rfl ?_
  obtain ⟨m12, m13⟩ := mm_ifE hf
  refine MM.if_eq (tgt := 35) d_M_may_1 rfl rfl (fun c11 => ?_) (fun c11 => ?_)
  · replace hf := m12 c11
    refine MM.iconst ic_1 d_M_may_35 rfl ?_
    refine MM.goto (tgt := 40) d_M_may_36 rfl ?_
    obtain rfl := Option.some.inj hf
    subst hZ
    exact MM.zret (Or.inr rfl) rfl d_M_may_40 ⟨rfl, rfl⟩
  · replace hf := m13 c11
    refine MM.iload_n (i := 2) rfl rfl d_M_may_4 rfl ?_
    refine MM.aload_n (i := 0) rfl rfl d_M_may_5 rfl ?_
    refine MM.gR 9 2 tg_261 rq_9_10 rfl lays_9 ww_1368 d_M_may_6 rfl ?_
    refine MM.iconst ic_1 d_M_may_9 rfl ?_
    refine MM.gI ix_1_8 al_263 d_M_may_10 rfl ?_
    obtain ⟨m9, m10⟩ := mm_ifE hf
    refine MM.icmp_gt (tgt := 39) d_M_may_11 rfl rfl (fun c8 => ?_) (fun c8 => ?_)
    · replace hf := m9 c8
      refine MM.iconst ic_0 d_M_may_39 rfl ?_
      obtain rfl := Option.some.inj hf
      subst hZ
      exact MM.zret (Or.inl rfl) rfl d_M_may_40 ⟨rfl, rfl⟩
    · replace hf := m10 c8
      refine MM.aload_n (i := 0) rfl rfl d_M_may_14 rfl ?_
      refine MM.gR 9 40 tg_261 rq_9_50 rfl lays_9 ww_1408 d_M_may_15 rfl ?_
      refine MM.iload_n (i := 2) rfl rfl d_M_may_18 rfl ?_
      refine MM.iconst ic_1 d_M_may_19 rfl ?_
      refine MM.isub d_M_may_20 rfl ?_
      obtain ⟨k1, e2, hf⟩ := mm_bind hf
      refine MM.gI e2 al_301 d_M_may_21 rfl ?_
      refine MM.aload_n (i := 0) rfl rfl d_M_may_22 rfl ?_
      refine MM.gR 9 53 tg_261 rq_9_66 rfl lays_9 ww_1424 d_M_may_23 rfl ?_
      refine MM.iload_n (i := 1) rfl rfl d_M_may_26 rfl ?_
      obtain ⟨k3, e4, hf⟩ := mm_bind hf
      refine MM.gI e4 al_314 d_M_may_27 rfl ?_
      refine MM.ishr d_M_may_28 rfl ?_
      refine MM.iconst ic_1 d_M_may_29 rfl ?_
      refine MM.iand d_M_may_30 rfl ?_
      refine MM.iconst ic_1 d_M_may_31 rfl ?_
      obtain ⟨m6, m7⟩ := mm_ifE hf
      refine MM.icmp_ne (tgt := 39) d_M_may_32 rfl rfl (fun c5 => ?_) (fun c5 => ?_)
      · replace hf := m7 c5
        refine MM.iconst ic_0 d_M_may_39 rfl ?_
        obtain rfl := Option.some.inj hf
        subst hZ
        exact MM.zret (Or.inl rfl) rfl d_M_may_40 ⟨rfl, rfl⟩
      · replace hf := m6 c5
        refine MM.iconst ic_1 d_M_may_35 rfl ?_
        refine MM.goto (tgt := 40) d_M_may_36 rfl ?_
        obtain rfl := Option.some.inj hf
        subst hZ
        exact MM.zret (Or.inr rfl) rfl d_M_may_40 ⟨rfl, rfl⟩
theorem d_M_isRest_0 : decode cX12_isRest 0 = .ok (.iconst 0, 1) := by decide +kernel
theorem d_M_isRest_1 : decode cX12_isRest 1 = .ok (.istore_n 1, 1) := by decide +kernel
theorem d_M_isRest_2 : decode cX12_isRest 2 = .ok (.iload_n 1, 1) := by decide +kernel
theorem d_M_isRest_3 : decode cX12_isRest 3 = .ok (.aload_n 0, 1) := by decide +kernel
theorem d_M_isRest_4 : decode cX12_isRest 4 = .ok (.getfield 531, 3) := by decide +kernel
theorem d_M_isRest_7 : decode cX12_isRest 7 = .ok (.if_icmp .ge 101, 3) := by decide +kernel
theorem d_M_isRest_10 : decode cX12_isRest 10 = .ok (.aload_n 0, 1) := by decide +kernel
theorem d_M_isRest_11 : decode cX12_isRest 11 = .ok (.getfield 172, 3) := by decide +kernel
theorem d_M_isRest_14 : decode cX12_isRest 14 = .ok (.iload_n 1, 1) := by decide +kernel
theorem d_M_isRest_15 : decode cX12_isRest 15 = .ok (.iaload, 1) := by decide +kernel
theorem d_M_isRest_16 : decode cX12_isRest 16 = .ok (.istore_n 2, 1) := by decide +kernel
theorem d_M_isRest_17 : decode cX12_isRest 17 = .ok (.aload_n 0, 1) := by decide +kernel
theorem d_M_isRest_18 : decode cX12_isRest 18 = .ok (.iload_n 1, 1) := by decide +kernel
theorem d_M_isRest_19 : decode cX12_isRest 19 = .ok (.invokevirtual 534, 3) := by decide +kernel
theorem d_M_isRest_22 : decode cX12_isRest 22 = .ok (.istore_n 3, 1) := by decide +kernel
theorem d_M_isRest_23 : decode cX12_isRest 23 = .ok (.iconst 0, 1) := by decide +kernel
theorem d_M_isRest_24 : decode cX12_isRest 24 = .ok (.istore 4, 2) := by decide +kernel
theorem d_M_isRest_26 : decode cX12_isRest 26 = .ok (.iconst 0, 1) := by decide +kernel
theorem d_M_isRest_27 : decode cX12_isRest 27 = .ok (.istore 5, 2) := by decide +kernel
theorem d_M_isRest_29 : decode cX12_isRest 29 = .ok (.iload 5, 2) := by decide +kernel
theorem d_M_isRest_31 : decode cX12_isRest 31 = .ok (.aload_n 0, 1) := by decide +kernel
theorem d_M_isRest_32 : decode cX12_isRest 32 = .ok (.getfield 13, 3) := by decide +kernel
theorem d_M_isRest_35 : decode cX12_isRest 35 = .ok (.iconst 1, 1) := by decide +kernel
theorem d_M_isRest_36 : decode cX12_isRest 36 = .ok (.iaload, 1) := by decide +kernel
theorem d_M_isRest_37 : decode cX12_isRest 37 = .ok (.if_icmp .gt 51, 3) := by decide +kernel
theorem d_M_isRest_40 : decode cX12_isRest 40 = .ok (.aload_n 0, 1) := by decide +kernel
theorem d_M_isRest_41 : decode cX12_isRest 41 = .ok (.iload_n 1, 1) := by decide +kernel
theorem d_M_isRest_42 : decode cX12_isRest 42 = .ok (.iload 5, 2) := by decide +kernel
theorem d_M_isRest_44 : decode cX12_isRest 44 = .ok (.invokevirtual 537, 3) := by decide +kernel
theorem d_M_isRest_47 : decode cX12_isRest 47 = .ok (.ifCond .ne 6, 3) := by decide +kernel
theorem d_M_isRest_50 : decode cX12_isRest 50 = .ok (.goto 32, 3) := by decide +kernel
theorem d_M_isRest_53 : decode cX12_isRest 53 = .ok (.aload_n 0, 1) := by decide +kernel
theorem d_M_isRest_54 : decode cX12_isRest 54 = .ok (.getfield 172, 3) := by decide +kernel
theorem d_M_isRest_57 : decode cX12_isRest 57 = .ok (.iload_n 1, 1) := by decide +kernel
theorem d_M_isRest_58 : decode cX12_isRest 58 = .ok (.iload 5, 2) := by decide +kernel
theorem d_M_isRest_60 : decode cX12_isRest 60 = .ok (.iastore, 1) := by decide +kernel
theorem d_M_isRest_61 : decode cX12_isRest 61 = .ok (.iload 4, 2) := by decide +kernel
theorem d_M_isRest_63 : decode cX12_isRest 63 = .ok (.ifCond .ne 12, 3) := by decide +kernel
theorem d_M_isRest_66 : decode cX12_isRest 66 = .ok (.aload_n 0, 1) := by decide +kernel
theorem d_M_isRest_67 : decode cX12_isRest 67 = .ok (.iload_n 1, 1) := by decide +kernel
theorem d_M_isRest_68 : decode cX12_isRest 68 = .ok (.invokevirtual 534, 3) := by decide +kernel
theorem d_M_isRest_71 : decode cX12_isRest 71 = .ok (.iload_n 3, 1) := by decide +kernel
theorem d_M_isRest_72 : decode cX12_isRest 72 = .ok (.if_icmp .le 7, 3) := by decide +kernel
theorem d_M_isRest_75 : decode cX12_isRest 75 = .ok (.iconst 1, 1) := by decide +kernel
theorem d_M_isRest_76 : decode cX12_isRest 76 = .ok (.goto 4, 3) := by decide +kernel
theorem d_M_isRest_79 : decode cX12_isRest 79 = .ok (.iconst 0, 1) := by decide +kernel
theorem d_M_isRest_80 : decode cX12_isRest 80 = .ok (.istore 4, 2) := by decide +kernel
theorem d_M_isRest_82 : decode cX12_isRest 82 = .ok (.iinc 5 1, 3) := by decide +kernel
theorem d_M_isRest_85 : decode cX12_isRest 85 = .ok (.goto (-56), 3) := by decide +kernel
theorem d_M_isRest_88 : decode cX12_isRest 88 = .ok (.aload_n 0, 1) := by decide +kernel
theorem d_M_isRest_89 : decode cX12_isRest 89 = .ok (.getfield 172, 3) := by decide +kernel
theorem d_M_isRest_92 : decode cX12_isRest 92 = .ok (.iload_n 1, 1) := by decide +kernel
theorem d_M_isRest_93 : decode cX12_isRest 93 = .ok (.iload_n 2, 1) := by decide +kernel
theorem d_M_isRest_94 : decode cX12_isRest 94 = .ok (.iastore, 1) := by decide +kernel
theorem d_M_isRest_95 : decode cX12_isRest 95 = .ok (.iload 4, 2) := by decide +kernel
theorem d_M_isRest_97 : decode cX12_isRest 97 = .ok (.ifCond .eq 5, 3) := by decide +kernel
theorem d_M_isRest_100 : decode cX12_isRest 100 = .ok (.iconst 0, 1) := by decide +kernel
theorem d_M_isRest_101 : decode cX12_isRest 101 = .ok (.ireturn, 1) := by decide +kernel
theorem d_M_isRest_102 : decode cX12_isRest 102 = .ok (.iinc 1 1, 3) := by decide +kernel
theorem d_M_isRest_105 : decode cX12_isRest 105 = .ok (.goto (-103), 3) := by decide +kernel
theorem d_M_isRest_108 : decode cX12_isRest 108 = .ok (.iconst 1, 1) := by decide +kernel
theorem d_M_isRest_109 : decode cX12_isRest 109 = .ok (.ireturn, 1) := by decide +kernel
noncomputable def f_M_isRest (h : mm_H) : Option (Int32 × mm_H) := mm_while (σ := (Int32 × mm_H)) (ρ := (Int32 × mm_H)) (fun s1 => if (s1.2.1 261 68) ≤ s1.1 then (some (Sum.inr (1, s1.2))) else ((mm_ix s1.1 3).bind fun k4 => mm_let (s1.2.1 315 k4) fun y6 => (f_M_hasBy s1.1 s1.2).bind fun v9 => (mm_while (σ := (Int32 × Int32 × mm_H)) (ρ := (Int32 × mm_H)) (fun s10 => if (s10.2.2.1 263 1) < s10.2.1 then (some (Sum.inr (s10.1, s10.2.2))) else ((f_M_may s1.1 s10.2.1 s10.2.2).bind fun v17 => (if v17 = 0 then (some (s10.1, s10.2.2)) else ((mm_ix s1.1 3).bind fun k20 => mm_let (mm_pI s10.2.2 315 k20 s10.2.1) fun h22 => (if s10.1 = 0 then ((f_M_hasBy s1.1 h22).bind fun v27 => if v27.1 ≤ v9.1 then (some (0, v27.2)) else (some (1, v27.2))) else (some (1, h22)) : Option (Int32 × mm_H)).bind fun j24 => some (j24.1, j24.2)) : Option (Int32 × mm_H)).bind fun j18 => mm_let (s10.2.1 + 1) fun y38 => some (Sum.inl (j18.1, y38, j18.2)))) (0, 0, v9.2)).bind fun v13 => (mm_ix s1.1 3).bind fun k44 => mm_let (mm_pI v13.2 315 k44 y6) fun h46 => if v13.1 = 0 then (mm_let (s1.1 + 1) fun y48 => some (Sum.inl (y48, h46))) else (some (Sum.inr (0, h46))))) (0, h)
theorem T_M_isRest (V : mm_V) (l : Launch) (h : mm_H) (r : (Int32 × mm_H)) (hf : f_M_isRest h = some r) : MT V l Y_M_isRest 19 [.ref 261] (fun r1 h1 => r1 = some (.int r.1) ∧ h1 = r.2) h := by
  unfold f_M_isRest at hf
  refine MT.intro (pn_M rfl) [(0, .ref 261)] rfl (Nat.le_of_ble_eq_true rfl) ?_
  generalize hZ : mm_Z V _ = Z0
  refine MM.iconst ic_0 d_M_isRest_0 rfl ?_
  refine MM.istore_n (i := 1) (lv' := [(1, .int 0), (0, .ref 261)]) rfl rfl (Nat.le_of_ble_eq_true rfl) rfl d_M_isRest_1 rfl ?_
  refine MM.sub [1, 0] (by rfl) (mm_while_ind (fun s1 => MM V l Y_M_isRest 19 0 0 Z0 2 [(0, .ref 261), (1, .int s1.1)] [] s1.2) hf (fun s1 q2 hf hx3 => ?_))
  refine MM.iload_n (i := 1) rfl rfl d_M_isRest_2 rfl ?_
  refine MM.aload_n (i := 0) rfl rfl d_M_isRest_3 rfl ?_
  refine MM.getI 9 tg_261 lays_9 gq_9_68 ww_1426 d_M_isRest_4 rfl ?_
  obtain ⟨m54, m55⟩ := mm_ifE hf
  refine MM.icmp_ge (tgt := 108) d_M_isRest_7 rfl rfl (fun c53 => ?_) (fun c53 => ?_)
  · replace hf := m54 c53
    refine MM.iconst ic_1 d_M_isRest_108 rfl ?_
    obtain rfl := Option.some.inj hf
    replace hf := mm_wxR hx3
    obtain rfl := Option.some.inj hf
    subst hZ
    exact MM.zret (Or.inr rfl) rfl d_M_isRest_109 ⟨rfl, rfl⟩
  · replace hf := m55 c53
    refine MM.aload_n (i := 0) rfl rfl d_M_isRest_10 rfl ?_
    refine MM.gR 9 54 tg_261 rq_9_67 rfl lays_9 ww_1425 d_M_isRest_11 rfl ?_
    refine MM.iload_n (i := 1) rfl rfl d_M_isRest_14 rfl ?_
    obtain ⟨k4, e5, hf⟩ := mm_bind hf
    refine MM.gI e5 al_315 d_M_isRest_15 rfl ?_
    obtain ⟨y6, e7, hf⟩ := mm_letE hf
    refine MM.istore_n (i := 2) (lv' := [(2, .int y6), (0, .ref 261), (1, .int s1.1)]) e7 rfl (Nat.le_of_ble_eq_true rfl) rfl d_M_isRest_16 rfl ?_
    refine MM.aload_n (i := 0) rfl rfl d_M_isRest_17 rfl ?_
    refine MM.iload_n (i := 1) rfl rfl d_M_isRest_18 rfl ?_
    obtain ⟨v9, e8, hf⟩ := mm_bind hf
    refine MM.callV1 (T_M_hasBy V l s1.1 s1.2 _ e8) (fun _ _ q => q) cal_M_hasBy rfl tg_261 ct_9 ww_105 ww_2001 ww_1999 (by decide) (by simp [Value.category]) d_M_isRest_19 rfl ⟨rfl, rfl⟩ rfl ?_
    refine MM.istore_n (i := 3) (lv' := [(3, .int v9.1), (2, .int y6), (0, .ref 261), (1, .int s1.1)]) rfl rfl (Nat.le_of_ble_eq_true rfl) rfl d_M_isRest_22 rfl ?_
    refine MM.iconst ic_0 d_M_isRest_23 rfl ?_
    refine MM.istore (lv' := [(4, .int 0), (3, .int v9.1), (2, .int y6), (0, .ref 261), (1, .int s1.1)]) rfl (Nat.le_of_ble_eq_true rfl) rfl d_M_isRest_24 rfl ?_
    refine MM.iconst ic_0 d_M_isRest_26 rfl ?_
    refine MM.istore (lv' := [(5, .int 0), (4, .int 0), (3, .int v9.1), (2, .int y6), (0, .ref 261), (1, .int s1.1)]) rfl (Nat.le_of_ble_eq_true rfl) rfl d_M_isRest_27 rfl ?_
    obtain ⟨v13, e15, hf⟩ := mm_bind hf
    have K14 : MM V l Y_M_isRest 19 0 0 Z0 88 [(0, .ref 261), (1, .int s1.1), (2, .int y6), (4, .int v13.1)] [] v13.2 := by
      refine MM.aload_n (i := 0) rfl rfl d_M_isRest_88 rfl ?_
      refine MM.gR 9 54 tg_261 rq_9_67 rfl lays_9 ww_1425 d_M_isRest_89 rfl ?_
      refine MM.iload_n (i := 1) rfl rfl d_M_isRest_92 rfl ?_
      refine MM.iload_n (i := 2) rfl rfl d_M_isRest_93 rfl ?_
      obtain ⟨k44, e45, hf⟩ := mm_bind hf
      obtain ⟨h46, e47, hf⟩ := mm_letE hf
      refine MM.sI e45 e47 al_315 d_M_isRest_94 rfl ?_
      refine MM.iload rfl d_M_isRest_95 rfl ?_
      obtain ⟨m51, m52⟩ := mm_ifE hf
      refine MM.if_eq (tgt := 102) d_M_isRest_97 rfl rfl (fun c50 => ?_) (fun c50 => ?_)
      · replace hf := m51 c50
        obtain ⟨y48, e49, hf⟩ := mm_letE hf
        refine MM.iinc (k0 := 1) (lv' := [(1, .int y48), (0, .ref 261), (2, .int y6), (4, .int v13.1)]) (by rw [ic_1]; exact e49) rfl (Nat.le_of_ble_eq_true rfl) rfl d_M_isRest_102 rfl ?_
        refine MM.goto (tgt := 2) d_M_isRest_105 rfl ?_
        obtain rfl := Option.some.inj hf
        have h9 := mm_wxL hx3
        exact MM.sub [1, 0] (by rfl) h9
      · replace hf := m52 c50
        refine MM.iconst ic_0 d_M_isRest_100 rfl ?_
        obtain rfl := Option.some.inj hf
        replace hf := mm_wxR hx3
        obtain rfl := Option.some.inj hf
        subst hZ
        exact MM.zret (Or.inl rfl) rfl d_M_isRest_101 ⟨rfl, rfl⟩
    clear hf
    refine MM.sub [4, 5, 3, 2, 1, 0] (by rfl) (mm_while_ind (fun s10 => MM V l Y_M_isRest 19 0 0 Z0 29 [(0, .ref 261), (1, .int s1.1), (2, .int y6), (3, .int v9.1), (4, .int s10.1), (5, .int s10.2.1)] [] s10.2.2) e15 (fun s10 q11 hf hx12 => ?_))
    refine MM.iload rfl d_M_isRest_29 rfl ?_
    refine MM.aload_n (i := 0) rfl rfl d_M_isRest_31 rfl ?_
    refine MM.gR 9 2 tg_261 rq_9_10 rfl lays_9 ww_1368 d_M_isRest_32 rfl ?_
    refine MM.iconst ic_1 d_M_isRest_35 rfl ?_
    refine MM.gI ix_1_8 al_263 d_M_isRest_36 rfl ?_
    obtain ⟨m42, m43⟩ := mm_ifE hf
    refine MM.icmp_gt (tgt := 88) d_M_isRest_37 rfl rfl (fun c41 => ?_) (fun c41 => ?_)
    · replace hf := m42 c41
      obtain rfl := Option.some.inj hf
      obtain rfl := Option.some.inj (mm_wxR hx12)
      exact MM.sub [0, 1, 2, 4] (by rfl) K14
    · replace hf := m43 c41
      refine MM.aload_n (i := 0) rfl rfl d_M_isRest_40 rfl ?_
      refine MM.iload_n (i := 1) rfl rfl d_M_isRest_41 rfl ?_
      refine MM.iload rfl d_M_isRest_42 rfl ?_
      obtain ⟨v17, e16, hf⟩ := mm_bind hf
      refine MM.callV1 (T_M_may V l s1.1 s10.2.1 s10.2.2 _ e16) (fun _ _ q => q) cal_M_may rfl tg_261 ct_9 ww_103 ww_1993 ww_1991 (by decide) (by simp [Value.category]) d_M_isRest_44 rfl ⟨rfl, rfl⟩ rfl ?_
      obtain ⟨j18, e40, hf⟩ := mm_bind hf
      have K19 : MM V l Y_M_isRest 19 0 0 Z0 82 [(0, .ref 261), (1, .int s1.1), (2, .int y6), (3, .int v9.1), (4, .int j18.1), (5, .int s10.2.1)] [] j18.2 := by
        obtain ⟨y38, e39, hf⟩ := mm_letE hf
        refine MM.iinc (k0 := 5) (lv' := [(5, .int y38), (0, .ref 261), (1, .int s1.1), (2, .int y6), (3, .int v9.1), (4, .int j18.1)]) (by rw [ic_1]; exact e39) rfl (Nat.le_of_ble_eq_true rfl) rfl d_M_isRest_82 rfl ?_
        refine MM.goto (tgt := 29) d_M_isRest_85 rfl ?_
        obtain rfl := Option.some.inj hf
        have h9 := mm_wxL hx12
        exact MM.sub [1, 2, 3, 4, 5, 0] (by rfl) h9
      clear hf
      have hf := e40
      clear e40
      obtain ⟨m36, m37⟩ := mm_ifE hf
      refine MM.if_ne (tgt := 53) d_M_isRest_47 rfl rfl (fun c35 => ?_) (fun c35 => ?_)
      · replace hf := m37 c35
        refine MM.aload_n (i := 0) rfl rfl d_M_isRest_53 rfl ?_
        refine MM.gR 9 54 tg_261 rq_9_67 rfl lays_9 ww_1425 d_M_isRest_54 rfl ?_
        refine MM.iload_n (i := 1) rfl rfl d_M_isRest_57 rfl ?_
        refine MM.iload rfl d_M_isRest_58 rfl ?_
        obtain ⟨k20, e21, hf⟩ := mm_bind hf
        obtain ⟨h22, e23, hf⟩ := mm_letE hf
        refine MM.sI e21 e23 al_315 d_M_isRest_60 rfl ?_
        refine MM.iload rfl d_M_isRest_61 rfl ?_
        obtain ⟨j24, e34, hf⟩ := mm_bind hf
        have K25 : MM V l Y_M_isRest 19 0 0 Z0 80 [(0, .ref 261), (1, .int s1.1), (2, .int y6), (3, .int v9.1), (5, .int s10.2.1)] [.int j24.1] j24.2 := by
          refine MM.istore (lv' := [(4, .int j24.1), (0, .ref 261), (1, .int s1.1), (2, .int y6), (3, .int v9.1), (5, .int s10.2.1)]) rfl (Nat.le_of_ble_eq_true rfl) rfl d_M_isRest_80 rfl ?_
          obtain rfl := Option.some.inj hf
          exact MM.sub [1, 2, 3, 4, 0, 5] (by rfl) K19
        clear hf
        have hf := e34
        clear e34
        obtain ⟨m32, m33⟩ := mm_ifE hf
        refine MM.if_ne (tgt := 75) d_M_isRest_63 rfl rfl (fun c31 => ?_) (fun c31 => ?_)
        · replace hf := m33 c31
          refine MM.iconst ic_1 d_M_isRest_75 rfl ?_
          refine MM.goto (tgt := 80) d_M_isRest_76 rfl ?_
          obtain rfl := Option.some.inj hf
          exact MM.sub [0, 1, 2, 3, 5] (by rfl) K25
        · replace hf := m32 c31
          refine MM.aload_n (i := 0) rfl rfl d_M_isRest_66 rfl ?_
          refine MM.iload_n (i := 1) rfl rfl d_M_isRest_67 rfl ?_
          obtain ⟨v27, e26, hf⟩ := mm_bind hf
          refine MM.callV1 (T_M_hasBy V l s1.1 h22 _ e26) (fun _ _ q => q) cal_M_hasBy rfl tg_261 ct_9 ww_105 ww_2001 ww_1999 (by decide) (by simp [Value.category]) d_M_isRest_68 rfl ⟨rfl, rfl⟩ rfl ?_
          refine MM.iload_n (i := 3) rfl rfl d_M_isRest_71 rfl ?_
          obtain ⟨m29, m30⟩ := mm_ifE hf
          refine MM.icmp_le (tgt := 79) d_M_isRest_72 rfl rfl (fun c28 => ?_) (fun c28 => ?_)
          · replace hf := m29 c28
            refine MM.iconst ic_0 d_M_isRest_79 rfl ?_
            obtain rfl := Option.some.inj hf
            exact MM.sub [0, 1, 2, 3, 5] (by rfl) K25
          · replace hf := m30 c28
            refine MM.iconst ic_1 d_M_isRest_75 rfl ?_
            refine MM.goto (tgt := 80) d_M_isRest_76 rfl ?_
            obtain rfl := Option.some.inj hf
            exact MM.sub [0, 1, 2, 3, 5] (by rfl) K25
      · replace hf := m36 c35
        refine MM.goto (tgt := 82) d_M_isRest_50 rfl ?_
        obtain rfl := Option.some.inj hf
        exact MM.sub [0, 1, 2, 3, 4, 5] (by rfl) K19
theorem d_M_rests_0 : decode cX12_rests 0 = .ok (.aload_n 0, 1) := by decide +kernel
theorem d_M_rests_1 : decode cX12_rests 1 = .ok (.iconst 0, 1) := by decide +kernel
theorem d_M_rests_2 : decode cX12_rests 2 = .ok (.putfield 175, 3) := by decide +kernel
theorem d_M_rests_5 : decode cX12_rests 5 = .ok (.iload_n 1, 1) := by decide +kernel
theorem d_M_rests_6 : decode cX12_rests 6 = .ok (.ifCond .lt 32, 3) := by decide +kernel
theorem d_M_rests_9 : decode cX12_rests 9 = .ok (.iload_n 1, 1) := by decide +kernel
theorem d_M_rests_10 : decode cX12_rests 10 = .ok (.iconst 1, 1) := by decide +kernel
theorem d_M_rests_11 : decode cX12_rests 11 = .ok (.aload_n 0, 1) := by decide +kernel
theorem d_M_rests_12 : decode cX12_rests 12 = .ok (.getfield 13, 3) := by decide +kernel
theorem d_M_rests_15 : decode cX12_rests 15 = .ok (.iconst 0, 1) := by decide +kernel
theorem d_M_rests_16 : decode cX12_rests 16 = .ok (.iaload, 1) := by decide +kernel
theorem d_M_rests_17 : decode cX12_rests 17 = .ok (.ishl, 1) := by decide +kernel
theorem d_M_rests_18 : decode cX12_rests 18 = .ok (.if_icmp .ge 20, 3) := by decide +kernel
theorem d_M_rests_21 : decode cX12_rests 21 = .ok (.iload_n 2, 1) := by decide +kernel
theorem d_M_rests_22 : decode cX12_rests 22 = .ok (.iconst (-1), 1) := by decide +kernel
theorem d_M_rests_23 : decode cX12_rests 23 = .ok (.if_icmp .lt 15, 3) := by decide +kernel
theorem d_M_rests_26 : decode cX12_rests 26 = .ok (.iload_n 1, 1) := by decide +kernel
theorem d_M_rests_27 : decode cX12_rests 27 = .ok (.invokestatic 492, 3) := by decide +kernel
theorem d_M_rests_30 : decode cX12_rests 30 = .ok (.iconst 2, 1) := by decide +kernel
theorem d_M_rests_31 : decode cX12_rests 31 = .ok (.iconst 3, 1) := by decide +kernel
theorem d_M_rests_32 : decode cX12_rests 32 = .ok (.invokestatic 308, 3) := by decide +kernel
theorem d_M_rests_35 : decode cX12_rests 35 = .ok (.ifCond .ne 5, 3) := by decide +kernel
theorem d_M_rests_38 : decode cX12_rests 38 = .ok (.iconst (-1), 1) := by decide +kernel
theorem d_M_rests_39 : decode cX12_rests 39 = .ok (.ireturn, 1) := by decide +kernel
theorem d_M_rests_40 : decode cX12_rests 40 = .ok (.aload_n 0, 1) := by decide +kernel
theorem d_M_rests_41 : decode cX12_rests 41 = .ok (.iconst 0, 1) := by decide +kernel
theorem d_M_rests_42 : decode cX12_rests 42 = .ok (.putfield 531, 3) := by decide +kernel
theorem d_M_rests_45 : decode cX12_rests 45 = .ok (.iconst 1, 1) := by decide +kernel
theorem d_M_rests_46 : decode cX12_rests 46 = .ok (.istore_n 3, 1) := by decide +kernel
theorem d_M_rests_47 : decode cX12_rests 47 = .ok (.iconst 0, 1) := by decide +kernel
theorem d_M_rests_48 : decode cX12_rests 48 = .ok (.istore 4, 2) := by decide +kernel
theorem d_M_rests_50 : decode cX12_rests 50 = .ok (.iload 4, 2) := by decide +kernel
theorem d_M_rests_52 : decode cX12_rests 52 = .ok (.bipush 6, 2) := by decide +kernel
theorem d_M_rests_54 : decode cX12_rests 54 = .ok (.if_icmp .ge 47, 3) := by decide +kernel
theorem d_M_rests_57 : decode cX12_rests 57 = .ok (.iload_n 1, 1) := by decide +kernel
theorem d_M_rests_58 : decode cX12_rests 58 = .ok (.iload 4, 2) := by decide +kernel
theorem d_M_rests_60 : decode cX12_rests 60 = .ok (.ishr, 1) := by decide +kernel
theorem d_M_rests_61 : decode cX12_rests 61 = .ok (.iconst 1, 1) := by decide +kernel
theorem d_M_rests_62 : decode cX12_rests 62 = .ok (.iand, 1) := by decide +kernel
theorem d_M_rests_63 : decode cX12_rests 63 = .ok (.ifCond .ne 6, 3) := by decide +kernel
theorem d_M_rests_66 : decode cX12_rests 66 = .ok (.goto 29, 3) := by decide +kernel
theorem d_M_rests_69 : decode cX12_rests 69 = .ok (.aload_n 0, 1) := by decide +kernel
theorem d_M_rests_70 : decode cX12_rests 70 = .ok (.getfield 169, 3) := by decide +kernel
theorem d_M_rests_73 : decode cX12_rests 73 = .ok (.aload_n 0, 1) := by decide +kernel
theorem d_M_rests_74 : decode cX12_rests 74 = .ok (.getfield 531, 3) := by decide +kernel
theorem d_M_rests_77 : decode cX12_rests 77 = .ok (.iload 4, 2) := by decide +kernel
theorem d_M_rests_79 : decode cX12_rests 79 = .ok (.iastore, 1) := by decide +kernel
theorem d_M_rests_80 : decode cX12_rests 80 = .ok (.aload_n 0, 1) := by decide +kernel
theorem d_M_rests_81 : decode cX12_rests 81 = .ok (.dup, 1) := by decide +kernel
theorem d_M_rests_82 : decode cX12_rests 82 = .ok (.getfield 531, 3) := by decide +kernel
theorem d_M_rests_85 : decode cX12_rests 85 = .ok (.iconst 1, 1) := by decide +kernel
theorem d_M_rests_86 : decode cX12_rests 86 = .ok (.iadd, 1) := by decide +kernel
theorem d_M_rests_87 : decode cX12_rests 87 = .ok (.putfield 531, 3) := by decide +kernel
theorem d_M_rests_90 : decode cX12_rests 90 = .ok (.iload_n 3, 1) := by decide +kernel
theorem d_M_rests_91 : decode cX12_rests 91 = .ok (.bipush 11, 2) := by decide +kernel
theorem d_M_rests_93 : decode cX12_rests 93 = .ok (.imul, 1) := by decide +kernel
theorem d_M_rests_94 : decode cX12_rests 94 = .ok (.istore_n 3, 1) := by decide +kernel
theorem d_M_rests_95 : decode cX12_rests 95 = .ok (.iinc 4 1, 3) := by decide +kernel
theorem d_M_rests_98 : decode cX12_rests 98 = .ok (.goto (-48), 3) := by decide +kernel
theorem d_M_rests_101 : decode cX12_rests 101 = .ok (.iconst 0, 1) := by decide +kernel
theorem d_M_rests_102 : decode cX12_rests 102 = .ok (.istore 4, 2) := by decide +kernel
theorem d_M_rests_104 : decode cX12_rests 104 = .ok (.iconst 0, 1) := by decide +kernel
theorem d_M_rests_105 : decode cX12_rests 105 = .ok (.istore 5, 2) := by decide +kernel
theorem d_M_rests_107 : decode cX12_rests 107 = .ok (.iload 5, 2) := by decide +kernel
theorem d_M_rests_109 : decode cX12_rests 109 = .ok (.iload_n 3, 1) := by decide +kernel
theorem d_M_rests_110 : decode cX12_rests 110 = .ok (.if_icmp .ge 109, 3) := by decide +kernel
theorem d_M_rests_113 : decode cX12_rests 113 = .ok (.iload 5, 2) := by decide +kernel
theorem d_M_rests_115 : decode cX12_rests 115 = .ok (.istore 6, 2) := by decide +kernel
theorem d_M_rests_117 : decode cX12_rests 117 = .ok (.iconst 1, 1) := by decide +kernel
theorem d_M_rests_118 : decode cX12_rests 118 = .ok (.istore 7, 2) := by decide +kernel
theorem d_M_rests_120 : decode cX12_rests 120 = .ok (.aload_n 0, 1) := by decide +kernel
theorem d_M_rests_121 : decode cX12_rests 121 = .ok (.getfield 531, 3) := by decide +kernel
theorem d_M_rests_124 : decode cX12_rests 124 = .ok (.iconst 1, 1) := by decide +kernel
theorem d_M_rests_125 : decode cX12_rests 125 = .ok (.isub, 1) := by decide +kernel
theorem d_M_rests_126 : decode cX12_rests 126 = .ok (.istore 8, 2) := by decide +kernel
theorem d_M_rests_128 : decode cX12_rests 128 = .ok (.iload 8, 2) := by decide +kernel
theorem d_M_rests_130 : decode cX12_rests 130 = .ok (.ifCond .lt 56, 3) := by decide +kernel
theorem d_M_rests_133 : decode cX12_rests 133 = .ok (.aload_n 0, 1) := by decide +kernel
theorem d_M_rests_134 : decode cX12_rests 134 = .ok (.getfield 172, 3) := by decide +kernel
theorem d_M_rests_137 : decode cX12_rests 137 = .ok (.iload 8, 2) := by decide +kernel
theorem d_M_rests_139 : decode cX12_rests 139 = .ok (.iload 6, 2) := by decide +kernel
theorem d_M_rests_141 : decode cX12_rests 141 = .ok (.bipush 11, 2) := by decide +kernel
theorem d_M_rests_143 : decode cX12_rests 143 = .ok (.irem, 1) := by decide +kernel
theorem d_M_rests_144 : decode cX12_rests 144 = .ok (.iastore, 1) := by decide +kernel
theorem d_M_rests_145 : decode cX12_rests 145 = .ok (.iload 7, 2) := by decide +kernel
theorem d_M_rests_147 : decode cX12_rests 147 = .ok (.ifCond .eq 23, 3) := by decide +kernel
theorem d_M_rests_150 : decode cX12_rests 150 = .ok (.aload_n 0, 1) := by decide +kernel
theorem d_M_rests_151 : decode cX12_rests 151 = .ok (.iload 8, 2) := by decide +kernel
theorem d_M_rests_153 : decode cX12_rests 153 = .ok (.aload_n 0, 1) := by decide +kernel
theorem d_M_rests_154 : decode cX12_rests 154 = .ok (.getfield 172, 3) := by decide +kernel
theorem d_M_rests_157 : decode cX12_rests 157 = .ok (.iload 8, 2) := by decide +kernel
theorem d_M_rests_159 : decode cX12_rests 159 = .ok (.iaload, 1) := by decide +kernel
theorem d_M_rests_160 : decode cX12_rests 160 = .ok (.invokevirtual 537, 3) := by decide +kernel
theorem d_M_rests_163 : decode cX12_rests 163 = .ok (.ifCond .eq 7, 3) := by decide +kernel
theorem d_M_rests_166 : decode cX12_rests 166 = .ok (.iconst 1, 1) := by decide +kernel
theorem d_M_rests_167 : decode cX12_rests 167 = .ok (.goto 4, 3) := by decide +kernel
theorem d_M_rests_170 : decode cX12_rests 170 = .ok (.iconst 0, 1) := by decide +kernel
theorem d_M_rests_171 : decode cX12_rests 171 = .ok (.istore 7, 2) := by decide +kernel
theorem d_M_rests_173 : decode cX12_rests 173 = .ok (.iload 6, 2) := by decide +kernel
theorem d_M_rests_175 : decode cX12_rests 175 = .ok (.bipush 11, 2) := by decide +kernel
theorem d_M_rests_177 : decode cX12_rests 177 = .ok (.idiv, 1) := by decide +kernel
theorem d_M_rests_178 : decode cX12_rests 178 = .ok (.istore 6, 2) := by decide +kernel
theorem d_M_rests_180 : decode cX12_rests 180 = .ok (.iinc 8 (-1), 3) := by decide +kernel
theorem d_M_rests_183 : decode cX12_rests 183 = .ok (.goto (-55), 3) := by decide +kernel
theorem d_M_rests_186 : decode cX12_rests 186 = .ok (.iload 7, 2) := by decide +kernel
theorem d_M_rests_188 : decode cX12_rests 188 = .ok (.ifCond .eq 25, 3) := by decide +kernel
theorem d_M_rests_191 : decode cX12_rests 191 = .ok (.aload_n 0, 1) := by decide +kernel
theorem d_M_rests_192 : decode cX12_rests 192 = .ok (.invokevirtual 540, 3) := by decide +kernel
theorem d_M_rests_195 : decode cX12_rests 195 = .ok (.ifCond .ne 6, 3) := by decide +kernel
theorem d_M_rests_198 : decode cX12_rests 198 = .ok (.goto 15, 3) := by decide +kernel
theorem d_M_rests_201 : decode cX12_rests 201 = .ok (.iload 4, 2) := by decide +kernel
theorem d_M_rests_203 : decode cX12_rests 203 = .ok (.iload_n 2, 1) := by decide +kernel
theorem d_M_rests_204 : decode cX12_rests 204 = .ok (.if_icmp .ne 6, 3) := by decide +kernel
theorem d_M_rests_207 : decode cX12_rests 207 = .ok (.iload 5, 2) := by decide +kernel
theorem d_M_rests_209 : decode cX12_rests 209 = .ok (.ireturn, 1) := by decide +kernel
theorem d_M_rests_210 : decode cX12_rests 210 = .ok (.iinc 4 1, 3) := by decide +kernel
theorem d_M_rests_213 : decode cX12_rests 213 = .ok (.iinc 5 1, 3) := by decide +kernel
theorem d_M_rests_216 : decode cX12_rests 216 = .ok (.goto (-109), 3) := by decide +kernel
theorem d_M_rests_219 : decode cX12_rests 219 = .ok (.iload_n 2, 1) := by decide +kernel
theorem d_M_rests_220 : decode cX12_rests 220 = .ok (.iconst (-1), 1) := by decide +kernel
theorem d_M_rests_221 : decode cX12_rests 221 = .ok (.if_icmp .ne 8, 3) := by decide +kernel
theorem d_M_rests_224 : decode cX12_rests 224 = .ok (.iload 4, 2) := by decide +kernel
theorem d_M_rests_226 : decode cX12_rests 226 = .ok (.goto 4, 3) := by decide +kernel
theorem d_M_rests_229 : decode cX12_rests 229 = .ok (.iconst (-1), 1) := by decide +kernel
theorem d_M_rests_230 : decode cX12_rests 230 = .ok (.ireturn, 1) := by decide +kernel
noncomputable def f_M_rests (x1 : Int32) (x2 : Int32) (h : mm_H) : Option (Int32 × mm_H) := mm_let (mm_pI h 261 0 0) fun h1 => if x1 < 0 then (some ((-1), h1)) else (if ((1 : Int32) <<< ((h1.1 263 0) &&& 31)) ≤ x1 then (some ((-1), h1)) else (if x2 < (-1) then (some ((-1), h1)) else ((f_M_bits x1).bind fun v4 => (f_M_within v4 2 3).bind fun v6 => if v6 = 0 then (some ((-1), h1)) else (mm_let (mm_pI h1 261 68 0) fun h7 => (mm_while (σ := (Int32 × Int32 × mm_H)) (ρ := (Int32 × mm_H)) (fun s9 => if 6 ≤ s9.2.1 then (some (Sum.inr (s9.1, s9.2.2))) else ((if ((x1 >>> (s9.2.1 &&& 31)) &&& 1) = 0 then (some (s9.1, s9.2.2)) else ((mm_ix (s9.2.2.1 261 68) 3).bind fun k17 => mm_let (mm_pI s9.2.2 314 k17 s9.2.1) fun h19 => mm_let (mm_pI h19 261 68 ((h19.1 261 68) + 1)) fun h21 => mm_let (s9.1 * 11) fun y23 => some (y23, h21)) : Option (Int32 × mm_H)).bind fun j15 => mm_let (s9.2.1 + 1) fun y28 => some (Sum.inl (j15.1, y28, j15.2)))) (1, 0, h7)).bind fun v12 => mm_while (σ := (Int32 × Int32 × mm_H)) (ρ := (Int32 × mm_H)) (fun s34 => if v12.1 ≤ s34.2.1 then (if x2 = (-1) then (some (Sum.inr (s34.1, s34.2.2))) else (some (Sum.inr ((-1), s34.2.2)))) else (mm_let ((s34.2.2.1 261 68) - 1) fun y40 => (mm_while (σ := (Int32 × Int32 × Int32 × mm_H)) (ρ := (Int32 × mm_H)) (fun s42 => if s42.2.2.1 < 0 then (some (Sum.inr (s42.2.1, s42.2.2.2))) else ((mm_ix s42.2.2.1 3).bind fun k48 => mm_let (mm_pI s42.2.2.2 315 k48 (s42.1 - s42.1 / 11 * 11)) fun h50 => (if s42.2.1 = 0 then (some 0) else ((mm_ix s42.2.2.1 3).bind fun k54 => (f_M_may s42.2.2.1 (h50.1 315 k54) h50).bind fun v57 => if v57 = 0 then (some 0) else (some 1)) : Option Int32).bind fun j52 => mm_let (s42.1 / 11) fun y64 => mm_let (s42.2.2.1 + (-1)) fun y66 => some (Sum.inl (y64, j52, y66, h50)))) (s34.2.1, 1, y40, s34.2.2)).bind fun v45 => mm_jp (fun (j72 : (Int32 × mm_H)) => (mm_let (s34.2.1 + 1) fun y75 => some (Sum.inl (j72.1, y75, j72.2)))) fun k74 => if v45.1 = 0 then (k74 (s34.1, v45.2)) else ((f_M_isRest v45.2).bind fun v78 => if v78.1 = 0 then (k74 (s34.1, v78.2)) else (if s34.1 = x2 then (some (Sum.inr (s34.2.1, v78.2))) else (mm_let (s34.1 + 1) fun y79 => k74 (y79, v78.2)))))) (0, 0, v12.2)))))
theorem T_M_rests (V : mm_V) (l : Launch) (x1 : Int32) (x2 : Int32) (h : mm_H) (r : (Int32 × mm_H)) (hf : f_M_rests x1 x2 h = some r) : MT V l Y_M_rests 20 [.ref 261, .int x1, .int x2] (fun r1 h1 => r1 = some (.int r.1) ∧ h1 = r.2) h := by
  unfold f_M_rests at hf
  refine MT.intro (pn_M rfl) [(0, .ref 261), (1, .int x1), (2, .int x2)] rfl (Nat.le_of_ble_eq_true rfl) ?_
  generalize hZ : mm_Z V _ = Z0
  refine MM.aload_n (i := 0) rfl rfl d_M_rests_0 rfl ?_
  refine MM.iconst ic_0 d_M_rests_1 rfl ?_
  obtain ⟨h1, e2, hf⟩ := mm_letE hf
  refine MM.putI e2 9 tg_261 lays_9 toks_9 pq_9_0 ww_1358 d_M_rests_2 rfl ?_
  refine MM.iload_n (i := 1) rfl rfl d_M_rests_5 rfl ?_
  obtain ⟨m104, m105⟩ := mm_ifE hf
  refine MM.if_lt (tgt := 38) d_M_rests_6 rfl rfl (fun c103 => ?_) (fun c103 => ?_)
  · replace hf := m104 c103
    refine MM.iconst ic_m1 d_M_rests_38 rfl ?_
    obtain rfl := Option.some.inj hf
    subst hZ
    exact MM.iret rfl d_M_rests_39 ⟨rfl, rfl⟩
  · replace hf := m105 c103
    refine MM.iload_n (i := 1) rfl rfl d_M_rests_9 rfl ?_
    refine MM.iconst ic_1 d_M_rests_10 rfl ?_
    refine MM.aload_n (i := 0) rfl rfl d_M_rests_11 rfl ?_
    refine MM.gR 9 2 tg_261 rq_9_10 rfl lays_9 ww_1368 d_M_rests_12 rfl ?_
    refine MM.iconst ic_0 d_M_rests_15 rfl ?_
    refine MM.gI ix_0_8 al_263 d_M_rests_16 rfl ?_
    refine MM.ishl d_M_rests_17 rfl ?_
    obtain ⟨m101, m102⟩ := mm_ifE hf
    refine MM.icmp_ge (tgt := 38) d_M_rests_18 rfl rfl (fun c100 => ?_) (fun c100 => ?_)
    · replace hf := m101 c100
      refine MM.iconst ic_m1 d_M_rests_38 rfl ?_
      obtain rfl := Option.some.inj hf
      subst hZ
      exact MM.iret rfl d_M_rests_39 ⟨rfl, rfl⟩
    · replace hf := m102 c100
      refine MM.iload_n (i := 2) rfl rfl d_M_rests_21 rfl ?_
      refine MM.iconst ic_m1 d_M_rests_22 rfl ?_
      obtain ⟨m98, m99⟩ := mm_ifE hf
      refine MM.icmp_lt (tgt := 38) d_M_rests_23 rfl rfl (fun c97 => ?_) (fun c97 => ?_)
      · replace hf := m98 c97
        refine MM.iconst ic_m1 d_M_rests_38 rfl ?_
        obtain rfl := Option.some.inj hf
        subst hZ
        exact MM.iret rfl d_M_rests_39 ⟨rfl, rfl⟩
      · replace hf := m99 c97
        refine MM.iload_n (i := 1) rfl rfl d_M_rests_26 rfl ?_
        obtain ⟨v4, e3, hf⟩ := mm_bind hf
        refine MM.callS1 (T_M_bits V l x1 h1 _ e3) (fun _ _ q => q) cal_M_bits rfl ww_1922 ww_1921 (by decide) (by simp [Value.category]) d_M_rests_27 rfl ⟨rfl, rfl⟩ rfl ?_
        refine MM.iconst ic_2 d_M_rests_30 rfl ?_
        refine MM.iconst ic_3 d_M_rests_31 rfl ?_
        obtain ⟨v6, e5, hf⟩ := mm_bind hf
        refine MM.callS1 (T_M_within V l v4 2 3 h1 _ e5) (fun _ _ q => q) cal_M_within rfl ww_1669 ww_1668 (by decide) (by simp [Value.category]) d_M_rests_32 rfl ⟨rfl, rfl⟩ rfl ?_
        obtain ⟨m95, m96⟩ := mm_ifE hf
        refine MM.if_ne (tgt := 40) d_M_rests_35 rfl rfl (fun c94 => ?_) (fun c94 => ?_)
        · replace hf := m96 c94
          refine MM.aload_n (i := 0) rfl rfl d_M_rests_40 rfl ?_
          refine MM.iconst ic_0 d_M_rests_41 rfl ?_
          obtain ⟨h7, e8, hf⟩ := mm_letE hf
          refine MM.putI e8 9 tg_261 lays_9 toks_9 pq_9_68 ww_1426 d_M_rests_42 rfl ?_
          refine MM.iconst ic_1 d_M_rests_45 rfl ?_
          refine MM.istore_n (i := 3) (lv' := [(3, .int 1), (0, .ref 261), (1, .int x1), (2, .int x2)]) rfl rfl (Nat.le_of_ble_eq_true rfl) rfl d_M_rests_46 rfl ?_
          refine MM.iconst ic_0 d_M_rests_47 rfl ?_
          refine MM.istore (lv' := [(4, .int 0), (3, .int 1), (0, .ref 261), (1, .int x1), (2, .int x2)]) rfl (Nat.le_of_ble_eq_true rfl) rfl d_M_rests_48 rfl ?_
          obtain ⟨v12, e14, hf⟩ := mm_bind hf
          have K13 : MM V l Y_M_rests 20 0 0 Z0 101 [(0, .ref 261), (2, .int x2), (3, .int v12.1)] [] v12.2 := by
            refine MM.iconst ic_0 d_M_rests_101 rfl ?_
            refine MM.istore (lv' := [(4, .int 0), (0, .ref 261), (2, .int x2), (3, .int v12.1)]) rfl (Nat.le_of_ble_eq_true rfl) rfl d_M_rests_102 rfl ?_
            refine MM.iconst ic_0 d_M_rests_104 rfl ?_
            refine MM.istore (lv' := [(5, .int 0), (4, .int 0), (0, .ref 261), (2, .int x2), (3, .int v12.1)]) rfl (Nat.le_of_ble_eq_true rfl) rfl d_M_rests_105 rfl ?_
            refine MM.sub [2, 3, 4, 1, 0] (by rfl) (mm_while_ind (fun s34 => MM V l Y_M_rests 20 0 0 Z0 107 [(0, .ref 261), (2, .int x2), (3, .int v12.1), (4, .int s34.1), (5, .int s34.2.1)] [] s34.2.2) hf (fun s34 q35 hf hx36 => ?_))
            refine MM.iload rfl d_M_rests_107 rfl ?_
            refine MM.iload_n (i := 3) rfl rfl d_M_rests_109 rfl ?_
            obtain ⟨m92, m93⟩ := mm_ifE hf
            refine MM.icmp_ge (tgt := 219) d_M_rests_110 rfl rfl (fun c91 => ?_) (fun c91 => ?_)
            · replace hf := m92 c91
              refine MM.iload_n (i := 2) rfl rfl d_M_rests_219 rfl ?_
              refine MM.iconst ic_m1 d_M_rests_220 rfl ?_
              obtain ⟨m38, m39⟩ := mm_ifE hf
              refine MM.icmp_ne (tgt := 229) d_M_rests_221 rfl rfl (fun c37 => ?_) (fun c37 => ?_)
              · replace hf := m39 c37
                refine MM.iconst ic_m1 d_M_rests_229 rfl ?_
                obtain rfl := Option.some.inj hf
                replace hf := mm_wxR hx36
                obtain rfl := Option.some.inj hf
                subst hZ
                exact MM.iret rfl d_M_rests_230 ⟨rfl, rfl⟩
              · replace hf := m38 c37
                refine MM.iload rfl d_M_rests_224 rfl ?_
                refine MM.goto (tgt := 230) d_M_rests_226 rfl ?_
                obtain rfl := Option.some.inj hf
                replace hf := mm_wxR hx36
                obtain rfl := Option.some.inj hf
                subst hZ
                exact MM.iret rfl d_M_rests_230 ⟨rfl, rfl⟩
            · replace hf := m93 c91
              refine MM.iload rfl d_M_rests_113 rfl ?_
              refine MM.istore (lv' := [(6, .int s34.2.1), (0, .ref 261), (2, .int x2), (3, .int v12.1), (4, .int s34.1), (5, .int s34.2.1)]) rfl (Nat.le_of_ble_eq_true rfl) rfl d_M_rests_115 rfl ?_
              refine MM.iconst ic_1 d_M_rests_117 rfl ?_
              refine MM.istore (lv' := [(7, .int 1), (6, .int s34.2.1), (0, .ref 261), (2, .int x2), (3, .int v12.1), (4, .int s34.1), (5, .int s34.2.1)]) rfl (Nat.le_of_ble_eq_true rfl) rfl d_M_rests_118 rfl ?_
              refine MM.aload_n (i := 0) rfl rfl d_M_rests_120 rfl ?_
              refine MM.getI 9 tg_261 lays_9 gq_9_68 ww_1426 d_M_rests_121 rfl ?_
              refine MM.iconst ic_1 d_M_rests_124 rfl ?_
              refine MM.isub d_M_rests_125 rfl ?_
              obtain ⟨y40, e41, hf⟩ := mm_letE hf
              refine MM.istore (lv' := [(8, .int y40), (7, .int 1), (6, .int s34.2.1), (0, .ref 261), (2, .int x2), (3, .int v12.1), (4, .int s34.1), (5, .int s34.2.1)]) e41 (Nat.le_of_ble_eq_true rfl) rfl d_M_rests_126 rfl ?_
              obtain ⟨v45, e47, hf⟩ := mm_bind hf
              have K46 : MM V l Y_M_rests 20 0 0 Z0 186 [(0, .ref 261), (2, .int x2), (3, .int v12.1), (4, .int s34.1), (5, .int s34.2.1), (7, .int v45.1)] [] v45.2 := by
                refine MM.iload rfl d_M_rests_186 rfl ?_
                obtain ⟨k74, e90, hf⟩ := mm_jpE hf
                have K73 : ∀ j72, k74 j72 = some q35 → MM V l Y_M_rests 20 0 0 Z0 213 [(0, .ref 261), (2, .int x2), (3, .int v12.1), (4, .int j72.1), (5, .int s34.2.1)] [] j72.2 := by
                  intro j72 hf
                  rw [e90] at hf
                  obtain ⟨y75, e76, hf⟩ := mm_letE hf
                  refine MM.iinc (k0 := 4) (lv' := [(5, .int y75), (0, .ref 261), (2, .int x2), (3, .int v12.1), (4, .int j72.1)]) (by rw [ic_1]; exact e76) rfl (Nat.le_of_ble_eq_true rfl) rfl d_M_rests_213 rfl ?_
                  refine MM.goto (tgt := 107) d_M_rests_216 rfl ?_
                  obtain rfl := Option.some.inj hf
                  have h9 := mm_wxL hx36
                  exact MM.sub [1, 2, 3, 4, 0] (by rfl) h9
                clear e90
                obtain ⟨m88, m89⟩ := mm_ifE hf
                refine MM.if_eq (tgt := 213) d_M_rests_188 rfl rfl (fun c87 => ?_) (fun c87 => ?_)
                · replace hf := m88 c87
                  exact MM.sub [0, 1, 2, 3, 4] (by rfl) (K73 (s34.1, v45.2) hf)
                · replace hf := m89 c87
                  refine MM.aload_n (i := 0) rfl rfl d_M_rests_191 rfl ?_
                  obtain ⟨v78, e77, hf⟩ := mm_bind hf
                  refine MM.callV1 (T_M_isRest V l  v45.2 _ e77) (fun _ _ q => q) cal_M_isRest rfl tg_261 ct_9 ww_104 ww_1997 ww_1995 (by decide) (by simp [Value.category]) d_M_rests_192 rfl ⟨rfl, rfl⟩ rfl ?_
                  obtain ⟨m85, m86⟩ := mm_ifE hf
                  refine MM.if_ne (tgt := 201) d_M_rests_195 rfl rfl (fun c84 => ?_) (fun c84 => ?_)
                  · replace hf := m86 c84
                    refine MM.iload rfl d_M_rests_201 rfl ?_
                    refine MM.iload_n (i := 2) rfl rfl d_M_rests_203 rfl ?_
                    obtain ⟨m82, m83⟩ := mm_ifE hf
                    refine MM.icmp_ne (tgt := 210) d_M_rests_204 rfl rfl (fun c81 => ?_) (fun c81 => ?_)
                    · replace hf := m83 c81
                      obtain ⟨y79, e80, hf⟩ := mm_letE hf
                      refine MM.iinc (k0 := 3) (lv' := [(4, .int y79), (0, .ref 261), (2, .int x2), (3, .int v12.1), (5, .int s34.2.1), (7, .int v45.1)]) (by rw [ic_1]; exact e80) rfl (Nat.le_of_ble_eq_true rfl) rfl d_M_rests_210 rfl ?_
                      exact MM.sub [1, 2, 3, 0, 4] (by rfl) (K73 (y79, v78.2) hf)
                    · replace hf := m82 c81
                      refine MM.iload rfl d_M_rests_207 rfl ?_
                      obtain rfl := Option.some.inj hf
                      replace hf := mm_wxR hx36
                      obtain rfl := Option.some.inj hf
                      subst hZ
                      exact MM.iret rfl d_M_rests_209 ⟨rfl, rfl⟩
                  · replace hf := m85 c84
                    refine MM.goto (tgt := 213) d_M_rests_198 rfl ?_
                    exact MM.sub [0, 1, 2, 3, 4] (by rfl) (K73 (s34.1, v78.2) hf)
              clear hf
              refine MM.sub [3, 4, 5, 6, 7, 2, 1, 0] (by rfl) (mm_while_ind (fun s42 => MM V l Y_M_rests 20 0 0 Z0 128 [(0, .ref 261), (2, .int x2), (3, .int v12.1), (4, .int s34.1), (5, .int s34.2.1), (6, .int s42.1), (7, .int s42.2.1), (8, .int s42.2.2.1)] [] s42.2.2.2) e47 (fun s42 q43 hf hx44 => ?_))
              refine MM.iload rfl d_M_rests_128 rfl ?_
              obtain ⟨m70, m71⟩ := mm_ifE hf
              refine MM.if_lt (tgt := 186) d_M_rests_130 rfl rfl (fun c69 => ?_) (fun c69 => ?_)
              · replace hf := m70 c69
                obtain rfl := Option.some.inj hf
                obtain rfl := Option.some.inj (mm_wxR hx44)
                exact MM.sub [0, 1, 2, 3, 4, 6] (by rfl) K46
              · replace hf := m71 c69
                refine MM.aload_n (i := 0) rfl rfl d_M_rests_133 rfl ?_
                refine MM.gR 9 54 tg_261 rq_9_67 rfl lays_9 ww_1425 d_M_rests_134 rfl ?_
                refine MM.iload rfl d_M_rests_137 rfl ?_
                refine MM.iload rfl d_M_rests_139 rfl ?_
                refine MM.bipush bp_11 d_M_rests_141 rfl ?_
                refine MM.irem (by decide) d_M_rests_143 rfl ?_
                obtain ⟨k48, e49, hf⟩ := mm_bind hf
                obtain ⟨h50, e51, hf⟩ := mm_letE hf
                refine MM.sI e49 e51 al_315 d_M_rests_144 rfl ?_
                refine MM.iload rfl d_M_rests_145 rfl ?_
                obtain ⟨j52, e68, hf⟩ := mm_bind hf
                have K53 : MM V l Y_M_rests 20 0 0 Z0 171 [(0, .ref 261), (2, .int x2), (3, .int v12.1), (4, .int s34.1), (5, .int s34.2.1), (6, .int s42.1), (8, .int s42.2.2.1)] [.int j52] h50 := by
                  refine MM.istore (lv' := [(7, .int j52), (0, .ref 261), (2, .int x2), (3, .int v12.1), (4, .int s34.1), (5, .int s34.2.1), (6, .int s42.1), (8, .int s42.2.2.1)]) rfl (Nat.le_of_ble_eq_true rfl) rfl d_M_rests_171 rfl ?_
                  refine MM.iload rfl d_M_rests_173 rfl ?_
                  refine MM.bipush bp_11 d_M_rests_175 rfl ?_
                  refine MM.idiv (by decide) d_M_rests_177 rfl ?_
                  obtain ⟨y64, e65, hf⟩ := mm_letE hf
                  refine MM.istore (lv' := [(6, .int y64), (7, .int j52), (0, .ref 261), (2, .int x2), (3, .int v12.1), (4, .int s34.1), (5, .int s34.2.1), (8, .int s42.2.2.1)]) e65 (Nat.le_of_ble_eq_true rfl) rfl d_M_rests_178 rfl ?_
                  obtain ⟨y66, e67, hf⟩ := mm_letE hf
                  refine MM.iinc (k0 := 7) (lv' := [(8, .int y66), (6, .int y64), (7, .int j52), (0, .ref 261), (2, .int x2), (3, .int v12.1), (4, .int s34.1), (5, .int s34.2.1)]) (by rw [ic_m1]; exact e67) rfl (Nat.le_of_ble_eq_true rfl) rfl d_M_rests_180 rfl ?_
                  refine MM.goto (tgt := 128) d_M_rests_183 rfl ?_
                  obtain rfl := Option.some.inj hf
                  have h9 := mm_wxL hx44
                  exact MM.sub [3, 4, 5, 6, 7, 1, 2, 0] (by rfl) h9
                clear hf
                have hf := e68
                clear e68
                obtain ⟨m62, m63⟩ := mm_ifE hf
                refine MM.if_eq (tgt := 170) d_M_rests_147 rfl rfl (fun c61 => ?_) (fun c61 => ?_)
                · replace hf := m62 c61
                  refine MM.iconst ic_0 d_M_rests_170 rfl ?_
                  obtain rfl := Option.some.inj hf
                  exact MM.sub [0, 1, 2, 3, 4, 5, 7] (by rfl) K53
                · replace hf := m63 c61
                  refine MM.aload_n (i := 0) rfl rfl d_M_rests_150 rfl ?_
                  refine MM.iload rfl d_M_rests_151 rfl ?_
                  refine MM.aload_n (i := 0) rfl rfl d_M_rests_153 rfl ?_
                  refine MM.gR 9 54 tg_261 rq_9_67 rfl lays_9 ww_1425 d_M_rests_154 rfl ?_
                  refine MM.iload rfl d_M_rests_157 rfl ?_
                  obtain ⟨k54, e55, hf⟩ := mm_bind hf
                  refine MM.gI e55 al_315 d_M_rests_159 rfl ?_
                  obtain ⟨v57, e56, hf⟩ := mm_bind hf
                  refine MM.callV1 (T_M_may V l s42.2.2.1 (h50.1 315 k54) h50 _ e56) (fun _ _ q => q) cal_M_may rfl tg_261 ct_9 ww_103 ww_1993 ww_1991 (by decide) (by simp [Value.category]) d_M_rests_160 rfl ⟨rfl, rfl⟩ rfl ?_
                  obtain ⟨m59, m60⟩ := mm_ifE hf
                  refine MM.if_eq (tgt := 170) d_M_rests_163 rfl rfl (fun c58 => ?_) (fun c58 => ?_)
                  · replace hf := m59 c58
                    refine MM.iconst ic_0 d_M_rests_170 rfl ?_
                    obtain rfl := Option.some.inj hf
                    exact MM.sub [0, 1, 2, 3, 4, 5, 7] (by rfl) K53
                  · replace hf := m60 c58
                    refine MM.iconst ic_1 d_M_rests_166 rfl ?_
                    refine MM.goto (tgt := 171) d_M_rests_167 rfl ?_
                    obtain rfl := Option.some.inj hf
                    exact MM.sub [0, 1, 2, 3, 4, 5, 7] (by rfl) K53
          clear hf
          refine MM.sub [2, 3, 4, 1, 0] (by rfl) (mm_while_ind (fun s9 => MM V l Y_M_rests 20 0 0 Z0 50 [(0, .ref 261), (1, .int x1), (2, .int x2), (3, .int s9.1), (4, .int s9.2.1)] [] s9.2.2) e14 (fun s9 q10 hf hx11 => ?_))
          refine MM.iload rfl d_M_rests_50 rfl ?_
          refine MM.bipush bp_6 d_M_rests_52 rfl ?_
          obtain ⟨m32, m33⟩ := mm_ifE hf
          refine MM.icmp_ge (tgt := 101) d_M_rests_54 rfl rfl (fun c31 => ?_) (fun c31 => ?_)
          · replace hf := m32 c31
            obtain rfl := Option.some.inj hf
            obtain rfl := Option.some.inj (mm_wxR hx11)
            exact MM.sub [0, 2, 3] (by rfl) K13
          · replace hf := m33 c31
            refine MM.iload_n (i := 1) rfl rfl d_M_rests_57 rfl ?_
            refine MM.iload rfl d_M_rests_58 rfl ?_
            refine MM.ishr d_M_rests_60 rfl ?_
            refine MM.iconst ic_1 d_M_rests_61 rfl ?_
            refine MM.iand d_M_rests_62 rfl ?_
            obtain ⟨j15, e30, hf⟩ := mm_bind hf
            have K16 : MM V l Y_M_rests 20 0 0 Z0 95 [(0, .ref 261), (1, .int x1), (2, .int x2), (3, .int j15.1), (4, .int s9.2.1)] [] j15.2 := by
              obtain ⟨y28, e29, hf⟩ := mm_letE hf
              refine MM.iinc (k0 := 4) (lv' := [(4, .int y28), (0, .ref 261), (1, .int x1), (2, .int x2), (3, .int j15.1)]) (by rw [ic_1]; exact e29) rfl (Nat.le_of_ble_eq_true rfl) rfl d_M_rests_95 rfl ?_
              refine MM.goto (tgt := 50) d_M_rests_98 rfl ?_
              obtain rfl := Option.some.inj hf
              have h9 := mm_wxL hx11
              exact MM.sub [1, 2, 3, 4, 0] (by rfl) h9
            clear hf
            have hf := e30
            clear e30
            obtain ⟨m26, m27⟩ := mm_ifE hf
            refine MM.if_ne (tgt := 69) d_M_rests_63 rfl rfl (fun c25 => ?_) (fun c25 => ?_)
            · replace hf := m27 c25
              refine MM.aload_n (i := 0) rfl rfl d_M_rests_69 rfl ?_
              refine MM.gR 9 53 tg_261 rq_9_66 rfl lays_9 ww_1424 d_M_rests_70 rfl ?_
              refine MM.aload_n (i := 0) rfl rfl d_M_rests_73 rfl ?_
              refine MM.getI 9 tg_261 lays_9 gq_9_68 ww_1426 d_M_rests_74 rfl ?_
              refine MM.iload rfl d_M_rests_77 rfl ?_
              obtain ⟨k17, e18, hf⟩ := mm_bind hf
              obtain ⟨h19, e20, hf⟩ := mm_letE hf
              refine MM.sI e18 e20 al_314 d_M_rests_79 rfl ?_
              refine MM.aload_n (i := 0) rfl rfl d_M_rests_80 rfl ?_
              refine MM.dup rfl d_M_rests_81 rfl ?_
              refine MM.getI 9 tg_261 lays_9 gq_9_68 ww_1426 d_M_rests_82 rfl ?_
              refine MM.iconst ic_1 d_M_rests_85 rfl ?_
              refine MM.iadd d_M_rests_86 rfl ?_
              obtain ⟨h21, e22, hf⟩ := mm_letE hf
              refine MM.putI e22 9 tg_261 lays_9 toks_9 pq_9_68 ww_1426 d_M_rests_87 rfl ?_
              refine MM.iload_n (i := 3) rfl rfl d_M_rests_90 rfl ?_
              refine MM.bipush bp_11 d_M_rests_91 rfl ?_
              refine MM.imul d_M_rests_93 rfl ?_
              obtain ⟨y23, e24, hf⟩ := mm_letE hf
              refine MM.istore_n (i := 3) (lv' := [(3, .int y23), (0, .ref 261), (1, .int x1), (2, .int x2), (4, .int s9.2.1)]) e24 rfl (Nat.le_of_ble_eq_true rfl) rfl d_M_rests_94 rfl ?_
              obtain rfl := Option.some.inj hf
              exact MM.sub [1, 2, 3, 0, 4] (by rfl) K16
            · replace hf := m26 c25
              refine MM.goto (tgt := 95) d_M_rests_66 rfl ?_
              obtain rfl := Option.some.inj hf
              exact MM.sub [0, 1, 2, 3, 4] (by rfl) K16
        · replace hf := m95 c94
          refine MM.iconst ic_m1 d_M_rests_38 rfl ?_
          obtain rfl := Option.some.inj hf
          subst hZ
          exact MM.iret rfl d_M_rests_39 ⟨rfl, rfl⟩
theorem d_M_draws_0 : decode cX12_draws 0 = .ok (.aload_n 0, 1) := by decide +kernel
theorem d_M_draws_1 : decode cX12_draws 1 = .ok (.aload_n 0, 1) := by decide +kernel
theorem d_M_draws_2 : decode cX12_draws 2 = .ok (.getfield 543, 3) := by decide +kernel
theorem d_M_draws_5 : decode cX12_draws 5 = .ok (.ldc2_w 546, 3) := by decide +kernel
theorem d_M_draws_8 : decode cX12_draws 8 = .ok (.lmul, 1) := by decide +kernel
theorem d_M_draws_9 : decode cX12_draws 9 = .ok (.ldc2_w 548, 3) := by decide +kernel
theorem d_M_draws_12 : decode cX12_draws 12 = .ok (.ladd, 1) := by decide +kernel
theorem d_M_draws_13 : decode cX12_draws 13 = .ok (.ldc2_w 550, 3) := by decide +kernel
theorem d_M_draws_16 : decode cX12_draws 16 = .ok (.lrem, 1) := by decide +kernel
theorem d_M_draws_17 : decode cX12_draws 17 = .ok (.putfield 543, 3) := by decide +kernel
theorem d_M_draws_20 : decode cX12_draws 20 = .ok (.aload_n 0, 1) := by decide +kernel
theorem d_M_draws_21 : decode cX12_draws 21 = .ok (.getfield 543, 3) := by decide +kernel
theorem d_M_draws_24 : decode cX12_draws 24 = .ok (.ldc2_w 552, 3) := by decide +kernel
theorem d_M_draws_27 : decode cX12_draws 27 = .ok (.ldiv, 1) := by decide +kernel
theorem d_M_draws_28 : decode cX12_draws 28 = .ok (.iload_n 1, 1) := by decide +kernel
theorem d_M_draws_29 : decode cX12_draws 29 = .ok (.i2l, 1) := by decide +kernel
theorem d_M_draws_30 : decode cX12_draws 30 = .ok (.lrem, 1) := by decide +kernel
theorem d_M_draws_31 : decode cX12_draws 31 = .ok (.l2i, 1) := by decide +kernel
theorem d_M_draws_32 : decode cX12_draws 32 = .ok (.ireturn, 1) := by decide +kernel
noncomputable def f_M_draws (x1 : Int32) (h : mm_H) : Option (Int32 × mm_H) := mm_let (mm_pL h 261 69 ((((h.2.1 261 69) * 1103515245) + 12345) - (((h.2.1 261 69) * 1103515245) + 12345) / 2147483648 * 2147483648)) fun h1 => (mm_nzL (Int32.toInt64 x1)).bind fun _ => some ((Int64.toInt32 (((h1.2.1 261 69) / 65536) - ((h1.2.1 261 69) / 65536) / (Int32.toInt64 x1) * (Int32.toInt64 x1))), h1)
theorem T_M_draws (V : mm_V) (l : Launch) (x1 : Int32) (h : mm_H) (r : (Int32 × mm_H)) (hf : f_M_draws x1 h = some r) : MT V l Y_M_draws 1 [.ref 261, .int x1] (fun r1 h1 => r1 = some (.int r.1) ∧ h1 = r.2) h := by
  unfold f_M_draws at hf
  refine MT.intro (pn_M rfl) [(0, .ref 261), (1, .int x1)] rfl (Nat.le_of_ble_eq_true rfl) ?_
  generalize hZ : mm_Z V _ = Z0
  refine MM.aload_n (i := 0) rfl rfl d_M_draws_0 rfl ?_
  refine MM.aload_n (i := 0) rfl rfl d_M_draws_1 rfl ?_
  refine MM.getL 9 tg_261 lays_9 gq_9_69 ww_1427 d_M_draws_2 rfl ?_
  refine MM.ldc2 ww_2015 d_M_draws_5 rfl ?_
  refine MM.lmul d_M_draws_8 rfl ?_
  refine MM.ldc2 ww_2016 d_M_draws_9 rfl ?_
  refine MM.ladd d_M_draws_12 rfl ?_
  refine MM.ldc2 ww_2017 d_M_draws_13 rfl ?_
  refine MM.lrem (by decide) d_M_draws_16 rfl ?_
  obtain ⟨h1, e2, hf⟩ := mm_letE hf
  refine MM.putL e2 9 tg_261 lays_9 toks_9 pq_9_69 ww_1427 d_M_draws_17 rfl ?_
  refine MM.aload_n (i := 0) rfl rfl d_M_draws_20 rfl ?_
  refine MM.getL 9 tg_261 lays_9 gq_9_69 ww_1427 d_M_draws_21 rfl ?_
  refine MM.ldc2 ww_2018 d_M_draws_24 rfl ?_
  refine MM.ldiv (by decide) d_M_draws_27 rfl ?_
  refine MM.iload_n (i := 1) rfl rfl d_M_draws_28 rfl ?_
  refine MM.i2l d_M_draws_29 rfl ?_
  obtain ⟨u3, e4, hf⟩ := mm_bind hf
  refine MM.lrem (mm_nzLE e4) d_M_draws_30 rfl ?_
  refine MM.l2i d_M_draws_31 rfl ?_
  obtain rfl := Option.some.inj hf
  subst hZ
  exact MM.iret rfl d_M_draws_32 ⟨rfl, rfl⟩
theorem d_M_whispers_0 : decode cX12_whispers 0 = .ok (.iconst 0, 1) := by decide +kernel
theorem d_M_whispers_1 : decode cX12_whispers 1 = .ok (.istore_n 1, 1) := by decide +kernel
theorem d_M_whispers_2 : decode cX12_whispers 2 = .ok (.iconst 0, 1) := by decide +kernel
theorem d_M_whispers_3 : decode cX12_whispers 3 = .ok (.istore_n 2, 1) := by decide +kernel
theorem d_M_whispers_4 : decode cX12_whispers 4 = .ok (.iload_n 2, 1) := by decide +kernel
theorem d_M_whispers_5 : decode cX12_whispers 5 = .ok (.aload_n 0, 1) := by decide +kernel
theorem d_M_whispers_6 : decode cX12_whispers 6 = .ok (.getfield 13, 3) := by decide +kernel
theorem d_M_whispers_9 : decode cX12_whispers 9 = .ok (.iconst 2, 1) := by decide +kernel
theorem d_M_whispers_10 : decode cX12_whispers 10 = .ok (.iaload, 1) := by decide +kernel
theorem d_M_whispers_11 : decode cX12_whispers 11 = .ok (.if_icmp .ge 89, 3) := by decide +kernel
theorem d_M_whispers_14 : decode cX12_whispers 14 = .ok (.aload_n 0, 1) := by decide +kernel
theorem d_M_whispers_15 : decode cX12_whispers 15 = .ok (.bipush 10, 2) := by decide +kernel
theorem d_M_whispers_17 : decode cX12_whispers 17 = .ok (.invokevirtual 554, 3) := by decide +kernel
theorem d_M_whispers_20 : decode cX12_whispers 20 = .ok (.aload_n 0, 1) := by decide +kernel
theorem d_M_whispers_21 : decode cX12_whispers 21 = .ok (.iload_n 2, 1) := by decide +kernel
theorem d_M_whispers_22 : decode cX12_whispers 22 = .ok (.invokevirtual 454, 3) := by decide +kernel
theorem d_M_whispers_25 : decode cX12_whispers 25 = .ok (.if_icmp .ge 69, 3) := by decide +kernel
theorem d_M_whispers_28 : decode cX12_whispers 28 = .ok (.aload_n 0, 1) := by decide +kernel
theorem d_M_whispers_29 : decode cX12_whispers 29 = .ok (.getfield 13, 3) := by decide +kernel
theorem d_M_whispers_32 : decode cX12_whispers 32 = .ok (.iconst 1, 1) := by decide +kernel
theorem d_M_whispers_33 : decode cX12_whispers 33 = .ok (.iaload, 1) := by decide +kernel
theorem d_M_whispers_34 : decode cX12_whispers 34 = .ok (.ifCond .ne 6, 3) := by decide +kernel
theorem d_M_whispers_37 : decode cX12_whispers 37 = .ok (.goto 57, 3) := by decide +kernel
theorem d_M_whispers_40 : decode cX12_whispers 40 = .ok (.aload_n 0, 1) := by decide +kernel
theorem d_M_whispers_41 : decode cX12_whispers 41 = .ok (.aload_n 0, 1) := by decide +kernel
theorem d_M_whispers_42 : decode cX12_whispers 42 = .ok (.getfield 13, 3) := by decide +kernel
theorem d_M_whispers_45 : decode cX12_whispers 45 = .ok (.iconst 1, 1) := by decide +kernel
theorem d_M_whispers_46 : decode cX12_whispers 46 = .ok (.iaload, 1) := by decide +kernel
theorem d_M_whispers_47 : decode cX12_whispers 47 = .ok (.invokevirtual 554, 3) := by decide +kernel
theorem d_M_whispers_50 : decode cX12_whispers 50 = .ok (.istore_n 3, 1) := by decide +kernel
theorem d_M_whispers_51 : decode cX12_whispers 51 = .ok (.aload_n 0, 1) := by decide +kernel
theorem d_M_whispers_52 : decode cX12_whispers 52 = .ok (.aload_n 0, 1) := by decide +kernel
theorem d_M_whispers_53 : decode cX12_whispers 53 = .ok (.getfield 50, 3) := by decide +kernel
theorem d_M_whispers_56 : decode cX12_whispers 56 = .ok (.iload_n 2, 1) := by decide +kernel
theorem d_M_whispers_57 : decode cX12_whispers 57 = .ok (.iaload, 1) := by decide +kernel
theorem d_M_whispers_58 : decode cX12_whispers 58 = .ok (.aload_n 0, 1) := by decide +kernel
theorem d_M_whispers_59 : decode cX12_whispers 59 = .ok (.getfield 53, 3) := by decide +kernel
theorem d_M_whispers_62 : decode cX12_whispers 62 = .ok (.iload_n 2, 1) := by decide +kernel
theorem d_M_whispers_63 : decode cX12_whispers 63 = .ok (.iaload, 1) := by decide +kernel
theorem d_M_whispers_64 : decode cX12_whispers 64 = .ok (.iload_n 3, 1) := by decide +kernel
theorem d_M_whispers_65 : decode cX12_whispers 65 = .ok (.invokevirtual 464, 3) := by decide +kernel
theorem d_M_whispers_68 : decode cX12_whispers 68 = .ok (.ifCond .ne 6, 3) := by decide +kernel
theorem d_M_whispers_71 : decode cX12_whispers 71 = .ok (.goto 23, 3) := by decide +kernel
theorem d_M_whispers_74 : decode cX12_whispers 74 = .ok (.aload_n 0, 1) := by decide +kernel
theorem d_M_whispers_75 : decode cX12_whispers 75 = .ok (.aload_n 0, 1) := by decide +kernel
theorem d_M_whispers_76 : decode cX12_whispers 76 = .ok (.getfield 50, 3) := by decide +kernel
theorem d_M_whispers_79 : decode cX12_whispers 79 = .ok (.iload_n 2, 1) := by decide +kernel
theorem d_M_whispers_80 : decode cX12_whispers 80 = .ok (.iaload, 1) := by decide +kernel
theorem d_M_whispers_81 : decode cX12_whispers 81 = .ok (.aload_n 0, 1) := by decide +kernel
theorem d_M_whispers_82 : decode cX12_whispers 82 = .ok (.getfield 53, 3) := by decide +kernel
theorem d_M_whispers_85 : decode cX12_whispers 85 = .ok (.iload_n 2, 1) := by decide +kernel
theorem d_M_whispers_86 : decode cX12_whispers 86 = .ok (.iaload, 1) := by decide +kernel
theorem d_M_whispers_87 : decode cX12_whispers 87 = .ok (.iload_n 3, 1) := by decide +kernel
theorem d_M_whispers_88 : decode cX12_whispers 88 = .ok (.invokevirtual 470, 3) := by decide +kernel
theorem d_M_whispers_91 : decode cX12_whispers 91 = .ok (.iinc 1 1, 3) := by decide +kernel
theorem d_M_whispers_94 : decode cX12_whispers 94 = .ok (.iinc 2 1, 3) := by decide +kernel
theorem d_M_whispers_97 : decode cX12_whispers 97 = .ok (.goto (-93), 3) := by decide +kernel
theorem d_M_whispers_100 : decode cX12_whispers 100 = .ok (.iload_n 1, 1) := by decide +kernel
theorem d_M_whispers_101 : decode cX12_whispers 101 = .ok (.ireturn, 1) := by decide +kernel
noncomputable def f_M_whispers (h : mm_H) : Option (Int32 × mm_H) := (mm_while (σ := (Int32 × Int32 × mm_H)) (ρ := (Int32 × mm_H)) (fun s1 => if (s1.2.2.1 263 2) ≤ s1.2.1 then (some (Sum.inr (s1.1, s1.2.2))) else ((f_M_draws 10 s1.2.2).bind fun v8 => (f_M_chanceOf s1.2.1 v8.2).bind fun v10 => (if v10 ≤ v8.1 then (some (s1.1, v8.2)) else (if (v8.2.1 263 1) = 0 then (some (s1.1, v8.2)) else ((f_M_draws (v8.2.1 263 1) v8.2).bind fun v14 => (mm_ix s1.2.1 60).bind fun k15 => (mm_ix s1.2.1 60).bind fun k17 => (f_M_canTell (v14.2.1 275 k15) (v14.2.1 276 k17) v14.1 v14.2).bind fun v20 => if v20 = 0 then (some (s1.1, v14.2)) else ((mm_ix s1.2.1 60).bind fun k21 => (mm_ix s1.2.1 60).bind fun k23 => (f_M_tells (v14.2.1 275 k21) (v14.2.1 276 k23) v14.1 v14.2).bind fun v26 => mm_let (s1.1 + 1) fun y27 => some (y27, v26)))) : Option (Int32 × mm_H)).bind fun j11 => mm_let (s1.2.1 + 1) fun y38 => some (Sum.inl (j11.1, y38, j11.2)))) (0, 0, h)).bind fun v4 => some (v4.1, v4.2)
theorem T_M_whispers (V : mm_V) (l : Launch) (h : mm_H) (r : (Int32 × mm_H)) (hf : f_M_whispers h = some r) : MT V l Y_M_whispers 3 [.ref 261] (fun r1 h1 => r1 = some (.int r.1) ∧ h1 = r.2) h := by
  unfold f_M_whispers at hf
  refine MT.intro (pn_M rfl) [(0, .ref 261)] rfl (Nat.le_of_ble_eq_true rfl) ?_
  generalize hZ : mm_Z V _ = Z0
  refine MM.iconst ic_0 d_M_whispers_0 rfl ?_
  refine MM.istore_n (i := 1) (lv' := [(1, .int 0), (0, .ref 261)]) rfl rfl (Nat.le_of_ble_eq_true rfl) rfl d_M_whispers_1 rfl ?_
  refine MM.iconst ic_0 d_M_whispers_2 rfl ?_
  refine MM.istore_n (i := 2) (lv' := [(2, .int 0), (1, .int 0), (0, .ref 261)]) rfl rfl (Nat.le_of_ble_eq_true rfl) rfl d_M_whispers_3 rfl ?_
  obtain ⟨v4, e6, hf⟩ := mm_bind hf
  have K5 : MM V l Y_M_whispers 3 0 0 Z0 100 [(1, .int v4.1)] [] v4.2 := by
    refine MM.iload_n (i := 1) rfl rfl d_M_whispers_100 rfl ?_
    obtain rfl := Option.some.inj hf
    subst hZ
    exact MM.iret rfl d_M_whispers_101 ⟨rfl, rfl⟩
  clear hf
  refine MM.sub [2, 1, 0] (by rfl) (mm_while_ind (fun s1 => MM V l Y_M_whispers 3 0 0 Z0 4 [(0, .ref 261), (1, .int s1.1), (2, .int s1.2.1)] [] s1.2.2) e6 (fun s1 q2 hf hx3 => ?_))
  refine MM.iload_n (i := 2) rfl rfl d_M_whispers_4 rfl ?_
  refine MM.aload_n (i := 0) rfl rfl d_M_whispers_5 rfl ?_
  refine MM.gR 9 2 tg_261 rq_9_10 rfl lays_9 ww_1368 d_M_whispers_6 rfl ?_
  refine MM.iconst ic_2 d_M_whispers_9 rfl ?_
  refine MM.gI ix_2_8 al_263 d_M_whispers_10 rfl ?_
  obtain ⟨m42, m43⟩ := mm_ifE hf
  refine MM.icmp_ge (tgt := 100) d_M_whispers_11 rfl rfl (fun c41 => ?_) (fun c41 => ?_)
  · replace hf := m42 c41
    obtain rfl := Option.some.inj hf
    obtain rfl := Option.some.inj (mm_wxR hx3)
    exact MM.sub [1] (by rfl) K5
  · replace hf := m43 c41
    refine MM.aload_n (i := 0) rfl rfl d_M_whispers_14 rfl ?_
    refine MM.bipush bp_10 d_M_whispers_15 rfl ?_
    obtain ⟨v8, e7, hf⟩ := mm_bind hf
    refine MM.callV1 (T_M_draws V l 10 s1.2.2 _ e7) (fun _ _ q => q) cal_M_draws rfl tg_261 ct_9 ww_107 ww_2013 ww_2011 (by decide) (by simp [Value.category]) d_M_whispers_17 rfl ⟨rfl, rfl⟩ rfl ?_
    refine MM.aload_n (i := 0) rfl rfl d_M_whispers_20 rfl ?_
    refine MM.iload_n (i := 2) rfl rfl d_M_whispers_21 rfl ?_
    obtain ⟨v10, e9, hf⟩ := mm_bind hf
    refine MM.callV1 (T_M_chanceOf V l s1.2.1 v8.2 _ e9) (fun _ _ q => q) cal_M_chanceOf rfl tg_261 ct_9 ww_84 ww_1839 ww_1837 (by decide) (by simp [Value.category]) d_M_whispers_22 rfl ⟨rfl, rfl⟩ rfl ?_
    obtain ⟨j11, e40, hf⟩ := mm_bind hf
    have K12 : MM V l Y_M_whispers 3 0 0 Z0 94 [(0, .ref 261), (1, .int j11.1), (2, .int s1.2.1)] [] j11.2 := by
      obtain ⟨y38, e39, hf⟩ := mm_letE hf
      refine MM.iinc (k0 := 2) (lv' := [(2, .int y38), (0, .ref 261), (1, .int j11.1)]) (by rw [ic_1]; exact e39) rfl (Nat.le_of_ble_eq_true rfl) rfl d_M_whispers_94 rfl ?_
      refine MM.goto (tgt := 4) d_M_whispers_97 rfl ?_
      obtain rfl := Option.some.inj hf
      have h9 := mm_wxL hx3
      exact MM.sub [1, 2, 0] (by rfl) h9
    clear hf
    have hf := e40
    clear e40
    obtain ⟨m36, m37⟩ := mm_ifE hf
    refine MM.icmp_ge (tgt := 94) d_M_whispers_25 rfl rfl (fun c35 => ?_) (fun c35 => ?_)
    · replace hf := m36 c35
      obtain rfl := Option.some.inj hf
      exact MM.sub [0, 1, 2] (by rfl) K12
    · replace hf := m37 c35
      refine MM.aload_n (i := 0) rfl rfl d_M_whispers_28 rfl ?_
      refine MM.gR 9 2 tg_261 rq_9_10 rfl lays_9 ww_1368 d_M_whispers_29 rfl ?_
      refine MM.iconst ic_1 d_M_whispers_32 rfl ?_
      refine MM.gI ix_1_8 al_263 d_M_whispers_33 rfl ?_
      obtain ⟨m33, m34⟩ := mm_ifE hf
      refine MM.if_ne (tgt := 40) d_M_whispers_34 rfl rfl (fun c32 => ?_) (fun c32 => ?_)
      · replace hf := m34 c32
        refine MM.aload_n (i := 0) rfl rfl d_M_whispers_40 rfl ?_
        refine MM.aload_n (i := 0) rfl rfl d_M_whispers_41 rfl ?_
        refine MM.gR 9 2 tg_261 rq_9_10 rfl lays_9 ww_1368 d_M_whispers_42 rfl ?_
        refine MM.iconst ic_1 d_M_whispers_45 rfl ?_
        refine MM.gI ix_1_8 al_263 d_M_whispers_46 rfl ?_
        obtain ⟨v14, e13, hf⟩ := mm_bind hf
        refine MM.callV1 (T_M_draws V l (v8.2.1 263 1) v8.2 _ e13) (fun _ _ q => q) cal_M_draws rfl tg_261 ct_9 ww_107 ww_2013 ww_2011 (by decide) (by simp [Value.category]) d_M_whispers_47 rfl ⟨rfl, rfl⟩ rfl ?_
        refine MM.istore_n (i := 3) (lv' := [(3, .int v14.1), (0, .ref 261), (1, .int s1.1), (2, .int s1.2.1)]) rfl rfl (Nat.le_of_ble_eq_true rfl) rfl d_M_whispers_50 rfl ?_
        refine MM.aload_n (i := 0) rfl rfl d_M_whispers_51 rfl ?_
        refine MM.aload_n (i := 0) rfl rfl d_M_whispers_52 rfl ?_
        refine MM.gR 9 14 tg_261 rq_9_22 rfl lays_9 ww_1380 d_M_whispers_53 rfl ?_
        refine MM.iload_n (i := 2) rfl rfl d_M_whispers_56 rfl ?_
        obtain ⟨k15, e16, hf⟩ := mm_bind hf
        refine MM.gI e16 al_275 d_M_whispers_57 rfl ?_
        refine MM.aload_n (i := 0) rfl rfl d_M_whispers_58 rfl ?_
        refine MM.gR 9 15 tg_261 rq_9_23 rfl lays_9 ww_1381 d_M_whispers_59 rfl ?_
        refine MM.iload_n (i := 2) rfl rfl d_M_whispers_62 rfl ?_
        obtain ⟨k17, e18, hf⟩ := mm_bind hf
        refine MM.gI e18 al_276 d_M_whispers_63 rfl ?_
        refine MM.iload_n (i := 3) rfl rfl d_M_whispers_64 rfl ?_
        obtain ⟨v20, e19, hf⟩ := mm_bind hf
        refine MM.callV1 (T_M_canTell V l (v14.2.1 275 k15) (v14.2.1 276 k17) v14.1 v14.2 _ e19) (fun _ _ q => q) cal_M_canTell rfl tg_261 ct_9 ww_85 ww_1848 ww_1846 (by decide) (by simp [Value.category]) d_M_whispers_65 rfl ⟨rfl, rfl⟩ rfl ?_
        obtain ⟨m30, m31⟩ := mm_ifE hf
        refine MM.if_ne (tgt := 74) d_M_whispers_68 rfl rfl (fun c29 => ?_) (fun c29 => ?_)
        · replace hf := m31 c29
          refine MM.aload_n (i := 0) rfl rfl d_M_whispers_74 rfl ?_
          refine MM.aload_n (i := 0) rfl rfl d_M_whispers_75 rfl ?_
          refine MM.gR 9 14 tg_261 rq_9_22 rfl lays_9 ww_1380 d_M_whispers_76 rfl ?_
          refine MM.iload_n (i := 2) rfl rfl d_M_whispers_79 rfl ?_
          obtain ⟨k21, e22, hf⟩ := mm_bind hf
          refine MM.gI e22 al_275 d_M_whispers_80 rfl ?_
          refine MM.aload_n (i := 0) rfl rfl d_M_whispers_81 rfl ?_
          refine MM.gR 9 15 tg_261 rq_9_23 rfl lays_9 ww_1381 d_M_whispers_82 rfl ?_
          refine MM.iload_n (i := 2) rfl rfl d_M_whispers_85 rfl ?_
          obtain ⟨k23, e24, hf⟩ := mm_bind hf
          refine MM.gI e24 al_276 d_M_whispers_86 rfl ?_
          refine MM.iload_n (i := 3) rfl rfl d_M_whispers_87 rfl ?_
          obtain ⟨v26, e25, hf⟩ := mm_bind hf
          refine MM.callV0 (T_M_tells V l (v14.2.1 275 k21) (v14.2.1 276 k23) v14.1 v14.2 _ e25) (fun _ _ q => q) cal_M_tells rfl tg_261 ct_9 ww_88 ww_1863 ww_1861 (by decide) (by simp [Value.category]) d_M_whispers_88 rfl ⟨rfl, rfl⟩ rfl ?_
          obtain ⟨y27, e28, hf⟩ := mm_letE hf
          refine MM.iinc (k0 := 2) (lv' := [(1, .int y27), (3, .int v14.1), (0, .ref 261), (2, .int s1.2.1)]) (by rw [ic_1]; exact e28) rfl (Nat.le_of_ble_eq_true rfl) rfl d_M_whispers_91 rfl ?_
          obtain rfl := Option.some.inj hf
          exact MM.sub [2, 0, 3] (by rfl) K12
        · replace hf := m30 c29
          refine MM.goto (tgt := 94) d_M_whispers_71 rfl ?_
          obtain rfl := Option.some.inj hf
          exact MM.sub [1, 2, 3] (by rfl) K12
      · replace hf := m33 c32
        refine MM.goto (tgt := 94) d_M_whispers_37 rfl ?_
        obtain rfl := Option.some.inj hf
        exact MM.sub [0, 1, 2] (by rfl) K12
