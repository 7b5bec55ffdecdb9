/-! methods: M_needsPerson, M_needsSecret, M_readsPerson, M_readsKnowers, M_readsSecret, M_readsEar, M_readsClash, M_readsWorth, M_starts -/
theorem d_M_needsPerson_0 : decode cX12_needsPerson 0 = .ok (.aload_n 0, 1) := by decide +kernel
theorem d_M_needsPerson_1 : decode cX12_needsPerson 1 = .ok (.invokevirtual 322, 3) := by decide +kernel
theorem d_M_needsPerson_4 : decode cX12_needsPerson 4 = .ok (.ifCond .eq 9, 3) := by decide +kernel
theorem d_M_needsPerson_7 : decode cX12_needsPerson 7 = .ok (.aload_n 0, 1) := by decide +kernel
theorem d_M_needsPerson_8 : decode cX12_needsPerson 8 = .ok (.iconst 1, 1) := by decide +kernel
theorem d_M_needsPerson_9 : decode cX12_needsPerson 9 = .ok (.invokevirtual 239, 3) := by decide +kernel
theorem d_M_needsPerson_12 : decode cX12_needsPerson 12 = .ok (.ireturn, 1) := by decide +kernel
theorem d_M_needsPerson_13 : decode cX12_needsPerson 13 = .ok (.aload_n 0, 1) := by decide +kernel
theorem d_M_needsPerson_14 : decode cX12_needsPerson 14 = .ok (.aload_n 0, 1) := by decide +kernel
theorem d_M_needsPerson_15 : decode cX12_needsPerson 15 = .ok (.iload_n 1, 1) := by decide +kernel
theorem d_M_needsPerson_16 : decode cX12_needsPerson 16 = .ok (.invokevirtual 326, 3) := by decide +kernel
theorem d_M_needsPerson_19 : decode cX12_needsPerson 19 = .ok (.putfield 312, 3) := by decide +kernel
theorem d_M_needsPerson_22 : decode cX12_needsPerson 22 = .ok (.aload_n 0, 1) := by decide +kernel
theorem d_M_needsPerson_23 : decode cX12_needsPerson 23 = .ok (.getfield 312, 3) := by decide +kernel
theorem d_M_needsPerson_26 : decode cX12_needsPerson 26 = .ok (.ifCond .ge 11, 3) := by decide +kernel
theorem d_M_needsPerson_29 : decode cX12_needsPerson 29 = .ok (.aload_n 0, 1) := by decide +kernel
theorem d_M_needsPerson_30 : decode cX12_needsPerson 30 = .ok (.iconst 2, 1) := by decide +kernel
theorem d_M_needsPerson_31 : decode cX12_needsPerson 31 = .ok (.invokevirtual 239, 3) := by decide +kernel
theorem d_M_needsPerson_34 : decode cX12_needsPerson 34 = .ok (.ifCond .eq 7, 3) := by decide +kernel
theorem d_M_needsPerson_37 : decode cX12_needsPerson 37 = .ok (.iconst 1, 1) := by decide +kernel
theorem d_M_needsPerson_38 : decode cX12_needsPerson 38 = .ok (.goto 4, 3) := by decide +kernel
theorem d_M_needsPerson_41 : decode cX12_needsPerson 41 = .ok (.iconst 0, 1) := by decide +kernel
theorem d_M_needsPerson_42 : decode cX12_needsPerson 42 = .ok (.ireturn, 1) := by decide +kernel
noncomputable def f_M_needsPerson (x1 : Int32) (h : mm_H) : Option (Int32 × mm_H) := (f_M_isKept h).bind fun v2 => if v2 = 0 then ((f_M_personNamed x1 h).bind fun v4 => mm_let (mm_pI h 261 41 v4) fun h5 => if 0 ≤ (h5.1 261 41) then (some (1, h5)) else ((f_M_fails 2 h5).bind fun v8 => if v8.1 = 0 then (some (0, v8.2)) else (some (1, v8.2)))) else ((f_M_fails 1 h).bind fun v16 => (mm_bo v16.1).bind fun b17 => some (b17, v16.2))
theorem T_M_needsPerson (V : mm_V) (l : Launch) (x1 : Int32) (h : mm_H) (r : (Int32 × mm_H)) (hf : f_M_needsPerson x1 h = some r) : MT V l Y_M_needsPerson 3 [.ref 261, .int x1] (fun r1 h1 => r1 = some (.int r.1) ∧ h1 = r.2) h := by
  unfold f_M_needsPerson at hf
  refine MT.intro (pn_M rfl) [(0, .ref 261), (1, .int x1)] rfl (Nat.le_of_ble_eq_true rfl) ?_
  generalize hZ : mm_Z V _ = Z0
  refine MM.aload_n (i := 0) rfl rfl d_M_needsPerson_0 rfl ?_
  obtain ⟨v2, e1, hf⟩ := mm_bind hf
  refine MM.callV1 (T_M_isKept V l  h _ e1) (fun _ _ q => q) cal_M_isKept rfl tg_261 ct_9 ww_45 ww_1620 ww_1618 (by decide) (by simp [Value.category]) d_M_needsPerson_1 rfl ⟨rfl, rfl⟩ rfl ?_
  obtain ⟨m20, m21⟩ := mm_ifE hf
  refine MM.if_eq (tgt := 13) d_M_needsPerson_4 rfl rfl (fun c19 => ?_) (fun c19 => ?_)
  · replace hf := m20 c19
    refine MM.aload_n (i := 0) rfl rfl d_M_needsPerson_13 rfl ?_
    refine MM.aload_n (i := 0) rfl rfl d_M_needsPerson_14 rfl ?_
    refine MM.iload_n (i := 1) rfl rfl d_M_needsPerson_15 rfl ?_
    obtain ⟨v4, e3, hf⟩ := mm_bind hf
    refine MM.callV1 (T_M_personNamed V l x1 h _ e3) (fun _ _ q => q) cal_M_personNamed rfl tg_261 ct_9 ww_46 ww_1647 ww_1645 (by decide) (by simp [Value.category]) d_M_needsPerson_16 rfl ⟨rfl, rfl⟩ rfl ?_
    obtain ⟨h5, e6, hf⟩ := mm_letE hf
    refine MM.putI e6 9 tg_261 lays_9 toks_9 pq_9_41 ww_1399 d_M_needsPerson_19 rfl ?_
    refine MM.aload_n (i := 0) rfl rfl d_M_needsPerson_22 rfl ?_
    refine MM.getI 9 tg_261 lays_9 gq_9_41 ww_1399 d_M_needsPerson_23 rfl ?_
    obtain ⟨m13, m14⟩ := mm_ifE hf
    refine MM.if_ge (tgt := 37) d_M_needsPerson_26 rfl rfl (fun c12 => ?_) (fun c12 => ?_)
    · replace hf := m13 c12
      refine MM.iconst ic_1 d_M_needsPerson_37 rfl ?_
      refine MM.goto (tgt := 42) d_M_needsPerson_38 rfl ?_
      obtain rfl := Option.some.inj hf
      subst hZ
      exact MM.zret (Or.inr rfl) rfl d_M_needsPerson_42 ⟨rfl, rfl⟩
    · replace hf := m14 c12
      refine MM.aload_n (i := 0) rfl rfl d_M_needsPerson_29 rfl ?_
      refine MM.iconst ic_2 d_M_needsPerson_30 rfl ?_
      obtain ⟨v8, e7, hf⟩ := mm_bind hf
      refine MM.callV1 (T_M_fails V l 2 h5 _ e7) (fun _ _ q => q) cal_M_fails rfl tg_261 ct_9 ww_43 ww_1612 ww_1610 (by decide) (by simp [Value.category]) d_M_needsPerson_31 rfl ⟨rfl, rfl⟩ rfl ?_
      obtain ⟨m10, m11⟩ := mm_ifE hf
      refine MM.if_eq (tgt := 41) d_M_needsPerson_34 rfl rfl (fun c9 => ?_) (fun c9 => ?_)
      · replace hf := m10 c9
        refine MM.iconst ic_0 d_M_needsPerson_41 rfl ?_
        obtain rfl := Option.some.inj hf
        subst hZ
        exact MM.zret (Or.inl rfl) rfl d_M_needsPerson_42 ⟨rfl, rfl⟩
      · replace hf := m11 c9
        refine MM.iconst ic_1 d_M_needsPerson_37 rfl ?_
        refine MM.goto (tgt := 42) d_M_needsPerson_38 rfl ?_
        obtain rfl := Option.some.inj hf
        subst hZ
        exact MM.zret (Or.inr rfl) rfl d_M_needsPerson_42 ⟨rfl, rfl⟩
  · replace hf := m21 c19
    refine MM.aload_n (i := 0) rfl rfl d_M_needsPerson_7 rfl ?_
    refine MM.iconst ic_1 d_M_needsPerson_8 rfl ?_
    obtain ⟨v16, e15, hf⟩ := mm_bind hf
    refine MM.callV1 (T_M_fails V l 1 h _ e15) (fun _ _ q => q) cal_M_fails rfl tg_261 ct_9 ww_43 ww_1612 ww_1610 (by decide) (by simp [Value.category]) d_M_needsPerson_9 rfl ⟨rfl, rfl⟩ rfl ?_
    obtain ⟨b17, e18, hf⟩ := mm_bind hf
    obtain ⟨ob17, e18⟩ := mm_boE e18
    subst e18
    obtain rfl := Option.some.inj hf
    subst hZ
    exact MM.zret ob17 rfl d_M_needsPerson_12 ⟨rfl, rfl⟩
theorem d_M_needsSecret_0 : decode cX12_needsSecret 0 = .ok (.aload_n 0, 1) := by decide +kernel
theorem d_M_needsSecret_1 : decode cX12_needsSecret 1 = .ok (.invokevirtual 322, 3) := by decide +kernel
theorem d_M_needsSecret_4 : decode cX12_needsSecret 4 = .ok (.ifCond .eq 9, 3) := by decide +kernel
theorem d_M_needsSecret_7 : decode cX12_needsSecret 7 = .ok (.aload_n 0, 1) := by decide +kernel
theorem d_M_needsSecret_8 : decode cX12_needsSecret 8 = .ok (.iconst 1, 1) := by decide +kernel
theorem d_M_needsSecret_9 : decode cX12_needsSecret 9 = .ok (.invokevirtual 239, 3) := by decide +kernel
theorem d_M_needsSecret_12 : decode cX12_needsSecret 12 = .ok (.ireturn, 1) := by decide +kernel
theorem d_M_needsSecret_13 : decode cX12_needsSecret 13 = .ok (.aload_n 0, 1) := by decide +kernel
theorem d_M_needsSecret_14 : decode cX12_needsSecret 14 = .ok (.aload_n 0, 1) := by decide +kernel
theorem d_M_needsSecret_15 : decode cX12_needsSecret 15 = .ok (.iload_n 1, 1) := by decide +kernel
theorem d_M_needsSecret_16 : decode cX12_needsSecret 16 = .ok (.invokevirtual 329, 3) := by decide +kernel
theorem d_M_needsSecret_19 : decode cX12_needsSecret 19 = .ok (.putfield 312, 3) := by decide +kernel
theorem d_M_needsSecret_22 : decode cX12_needsSecret 22 = .ok (.aload_n 0, 1) := by decide +kernel
theorem d_M_needsSecret_23 : decode cX12_needsSecret 23 = .ok (.getfield 312, 3) := by decide +kernel
theorem d_M_needsSecret_26 : decode cX12_needsSecret 26 = .ok (.ifCond .ge 11, 3) := by decide +kernel
theorem d_M_needsSecret_29 : decode cX12_needsSecret 29 = .ok (.aload_n 0, 1) := by decide +kernel
theorem d_M_needsSecret_30 : decode cX12_needsSecret 30 = .ok (.iconst 2, 1) := by decide +kernel
theorem d_M_needsSecret_31 : decode cX12_needsSecret 31 = .ok (.invokevirtual 239, 3) := by decide +kernel
theorem d_M_needsSecret_34 : decode cX12_needsSecret 34 = .ok (.ifCond .eq 7, 3) := by decide +kernel
theorem d_M_needsSecret_37 : decode cX12_needsSecret 37 = .ok (.iconst 1, 1) := by decide +kernel
theorem d_M_needsSecret_38 : decode cX12_needsSecret 38 = .ok (.goto 4, 3) := by decide +kernel
theorem d_M_needsSecret_41 : decode cX12_needsSecret 41 = .ok (.iconst 0, 1) := by decide +kernel
theorem d_M_needsSecret_42 : decode cX12_needsSecret 42 = .ok (.ireturn, 1) := by decide +kernel
noncomputable def f_M_needsSecret (x1 : Int32) (h : mm_H) : Option (Int32 × mm_H) := (f_M_isKept h).bind fun v2 => if v2 = 0 then ((f_M_secretNamed x1 h).bind fun v4 => mm_let (mm_pI h 261 41 v4) fun h5 => if 0 ≤ (h5.1 261 41) then (some (1, h5)) else ((f_M_fails 2 h5).bind fun v8 => if v8.1 = 0 then (some (0, v8.2)) else (some (1, v8.2)))) else ((f_M_fails 1 h).bind fun v16 => (mm_bo v16.1).bind fun b17 => some (b17, v16.2))
theorem T_M_needsSecret (V : mm_V) (l : Launch) (x1 : Int32) (h : mm_H) (r : (Int32 × mm_H)) (hf : f_M_needsSecret x1 h = some r) : MT V l Y_M_needsSecret 3 [.ref 261, .int x1] (fun r1 h1 => r1 = some (.int r.1) ∧ h1 = r.2) h := by
  unfold f_M_needsSecret at hf
  refine MT.intro (pn_M rfl) [(0, .ref 261), (1, .int x1)] rfl (Nat.le_of_ble_eq_true rfl) ?_
  generalize hZ : mm_Z V _ = Z0
  refine MM.aload_n (i := 0) rfl rfl d_M_needsSecret_0 rfl ?_
  obtain ⟨v2, e1, hf⟩ := mm_bind hf
  refine MM.callV1 (T_M_isKept V l  h _ e1) (fun _ _ q => q) cal_M_isKept rfl tg_261 ct_9 ww_45 ww_1620 ww_1618 (by decide) (by simp [Value.category]) d_M_needsSecret_1 rfl ⟨rfl, rfl⟩ rfl ?_
  obtain ⟨m20, m21⟩ := mm_ifE hf
  refine MM.if_eq (tgt := 13) d_M_needsSecret_4 rfl rfl (fun c19 => ?_) (fun c19 => ?_)
  · replace hf := m20 c19
    refine MM.aload_n (i := 0) rfl rfl d_M_needsSecret_13 rfl ?_
    refine MM.aload_n (i := 0) rfl rfl d_M_needsSecret_14 rfl ?_
    refine MM.iload_n (i := 1) rfl rfl d_M_needsSecret_15 rfl ?_
    obtain ⟨v4, e3, hf⟩ := mm_bind hf
    refine MM.callV1 (T_M_secretNamed V l x1 h _ e3) (fun _ _ q => q) cal_M_secretNamed rfl tg_261 ct_9 ww_47 ww_1654 ww_1652 (by decide) (by simp [Value.category]) d_M_needsSecret_16 rfl ⟨rfl, rfl⟩ rfl ?_
    obtain ⟨h5, e6, hf⟩ := mm_letE hf
    refine MM.putI e6 9 tg_261 lays_9 toks_9 pq_9_41 ww_1399 d_M_needsSecret_19 rfl ?_
    refine MM.aload_n (i := 0) rfl rfl d_M_needsSecret_22 rfl ?_
    refine MM.getI 9 tg_261 lays_9 gq_9_41 ww_1399 d_M_needsSecret_23 rfl ?_
    obtain ⟨m13, m14⟩ := mm_ifE hf
    refine MM.if_ge (tgt := 37) d_M_needsSecret_26 rfl rfl (fun c12 => ?_) (fun c12 => ?_)
    · replace hf := m13 c12
      refine MM.iconst ic_1 d_M_needsSecret_37 rfl ?_
      refine MM.goto (tgt := 42) d_M_needsSecret_38 rfl ?_
      obtain rfl := Option.some.inj hf
      subst hZ
      exact MM.zret (Or.inr rfl) rfl d_M_needsSecret_42 ⟨rfl, rfl⟩
    · replace hf := m14 c12
      refine MM.aload_n (i := 0) rfl rfl d_M_needsSecret_29 rfl ?_
      refine MM.iconst ic_2 d_M_needsSecret_30 rfl ?_
      obtain ⟨v8, e7, hf⟩ := mm_bind hf
      refine MM.callV1 (T_M_fails V l 2 h5 _ e7) (fun _ _ q => q) cal_M_fails rfl tg_261 ct_9 ww_43 ww_1612 ww_1610 (by decide) (by simp [Value.category]) d_M_needsSecret_31 rfl ⟨rfl, rfl⟩ rfl ?_
      obtain ⟨m10, m11⟩ := mm_ifE hf
      refine MM.if_eq (tgt := 41) d_M_needsSecret_34 rfl rfl (fun c9 => ?_) (fun c9 => ?_)
      · replace hf := m10 c9
        refine MM.iconst ic_0 d_M_needsSecret_41 rfl ?_
        obtain rfl := Option.some.inj hf
        subst hZ
        exact MM.zret (Or.inl rfl) rfl d_M_needsSecret_42 ⟨rfl, rfl⟩
      · replace hf := m11 c9
        refine MM.iconst ic_1 d_M_needsSecret_37 rfl ?_
        refine MM.goto (tgt := 42) d_M_needsSecret_38 rfl ?_
        obtain rfl := Option.some.inj hf
        subst hZ
        exact MM.zret (Or.inr rfl) rfl d_M_needsSecret_42 ⟨rfl, rfl⟩
  · replace hf := m21 c19
    refine MM.aload_n (i := 0) rfl rfl d_M_needsSecret_7 rfl ?_
    refine MM.iconst ic_1 d_M_needsSecret_8 rfl ?_
    obtain ⟨v16, e15, hf⟩ := mm_bind hf
    refine MM.callV1 (T_M_fails V l 1 h _ e15) (fun _ _ q => q) cal_M_fails rfl tg_261 ct_9 ww_43 ww_1612 ww_1610 (by decide) (by simp [Value.category]) d_M_needsSecret_9 rfl ⟨rfl, rfl⟩ rfl ?_
    obtain ⟨b17, e18, hf⟩ := mm_bind hf
    obtain ⟨ob17, e18⟩ := mm_boE e18
    subst e18
    obtain rfl := Option.some.inj hf
    subst hZ
    exact MM.zret ob17 rfl d_M_needsSecret_12 ⟨rfl, rfl⟩
theorem d_M_readsPerson_0 : decode cX12_readsPerson 0 = .ok (.bipush 6, 2) := by decide +kernel
theorem d_M_readsPerson_2 : decode cX12_readsPerson 2 = .ok (.aload_n 0, 1) := by decide +kernel
theorem d_M_readsPerson_3 : decode cX12_readsPerson 3 = .ok (.getfield 13, 3) := by decide +kernel
theorem d_M_readsPerson_6 : decode cX12_readsPerson 6 = .ok (.iconst 4, 1) := by decide +kernel
theorem d_M_readsPerson_7 : decode cX12_readsPerson 7 = .ok (.iaload, 1) := by decide +kernel
theorem d_M_readsPerson_8 : decode cX12_readsPerson 8 = .ok (.iadd, 1) := by decide +kernel
theorem d_M_readsPerson_9 : decode cX12_readsPerson 9 = .ok (.istore_n 1, 1) := by decide +kernel
theorem d_M_readsPerson_10 : decode cX12_readsPerson 10 = .ok (.iload_n 1, 1) := by decide +kernel
theorem d_M_readsPerson_11 : decode cX12_readsPerson 11 = .ok (.bipush 12, 2) := by decide +kernel
theorem d_M_readsPerson_13 : decode cX12_readsPerson 13 = .ok (.if_icmp .ne 9, 3) := by decide +kernel
theorem d_M_readsPerson_16 : decode cX12_readsPerson 16 = .ok (.aload_n 0, 1) := by decide +kernel
theorem d_M_readsPerson_17 : decode cX12_readsPerson 17 = .ok (.iconst 5, 1) := by decide +kernel
theorem d_M_readsPerson_18 : decode cX12_readsPerson 18 = .ok (.invokevirtual 239, 3) := by decide +kernel
theorem d_M_readsPerson_21 : decode cX12_readsPerson 21 = .ok (.ireturn, 1) := by decide +kernel
theorem d_M_readsPerson_22 : decode cX12_readsPerson 22 = .ok (.aload_n 0, 1) := by decide +kernel
theorem d_M_readsPerson_23 : decode cX12_readsPerson 23 = .ok (.invokevirtual 246, 3) := by decide +kernel
theorem d_M_readsPerson_26 : decode cX12_readsPerson 26 = .ok (.aload_n 0, 1) := by decide +kernel
theorem d_M_readsPerson_27 : decode cX12_readsPerson 27 = .ok (.invokevirtual 332, 3) := by decide +kernel
theorem d_M_readsPerson_30 : decode cX12_readsPerson 30 = .ok (.ifCond .ne 5, 3) := by decide +kernel
theorem d_M_readsPerson_33 : decode cX12_readsPerson 33 = .ok (.iconst 0, 1) := by decide +kernel
theorem d_M_readsPerson_34 : decode cX12_readsPerson 34 = .ok (.ireturn, 1) := by decide +kernel
theorem d_M_readsPerson_35 : decode cX12_readsPerson 35 = .ok (.aload_n 0, 1) := by decide +kernel
theorem d_M_readsPerson_36 : decode cX12_readsPerson 36 = .ok (.getfield 193, 3) := by decide +kernel
theorem d_M_readsPerson_39 : decode cX12_readsPerson 39 = .ok (.lstore_n 2, 1) := by decide +kernel
theorem d_M_readsPerson_40 : decode cX12_readsPerson 40 = .ok (.aload_n 0, 1) := by decide +kernel
theorem d_M_readsPerson_41 : decode cX12_readsPerson 41 = .ok (.invokevirtual 246, 3) := by decide +kernel
theorem d_M_readsPerson_44 : decode cX12_readsPerson 44 = .ok (.aload_n 0, 1) := by decide +kernel
theorem d_M_readsPerson_45 : decode cX12_readsPerson 45 = .ok (.getfield 23, 3) := by decide +kernel
theorem d_M_readsPerson_48 : decode cX12_readsPerson 48 = .ok (.iload_n 1, 1) := by decide +kernel
theorem d_M_readsPerson_49 : decode cX12_readsPerson 49 = .ok (.aload_n 0, 1) := by decide +kernel
theorem d_M_readsPerson_50 : decode cX12_readsPerson 50 = .ok (.ldc2_w 292, 3) := by decide +kernel
theorem d_M_readsPerson_53 : decode cX12_readsPerson 53 = .ok (.invokevirtual 231, 3) := by decide +kernel
theorem d_M_readsPerson_56 : decode cX12_readsPerson 56 = .ok (.ifCond .eq 7, 3) := by decide +kernel
theorem d_M_readsPerson_59 : decode cX12_readsPerson 59 = .ok (.iconst 0, 1) := by decide +kernel
theorem d_M_readsPerson_60 : decode cX12_readsPerson 60 = .ok (.goto 46, 3) := by decide +kernel
theorem d_M_readsPerson_63 : decode cX12_readsPerson 63 = .ok (.aload_n 0, 1) := by decide +kernel
theorem d_M_readsPerson_64 : decode cX12_readsPerson 64 = .ok (.ldc2_w 294, 3) := by decide +kernel
theorem d_M_readsPerson_67 : decode cX12_readsPerson 67 = .ok (.invokevirtual 231, 3) := by decide +kernel
theorem d_M_readsPerson_70 : decode cX12_readsPerson 70 = .ok (.ifCond .eq 7, 3) := by decide +kernel
theorem d_M_readsPerson_73 : decode cX12_readsPerson 73 = .ok (.iconst 1, 1) := by decide +kernel
theorem d_M_readsPerson_74 : decode cX12_readsPerson 74 = .ok (.goto 32, 3) := by decide +kernel
theorem d_M_readsPerson_77 : decode cX12_readsPerson 77 = .ok (.aload_n 0, 1) := by decide +kernel
theorem d_M_readsPerson_78 : decode cX12_readsPerson 78 = .ok (.ldc2_w 296, 3) := by decide +kernel
theorem d_M_readsPerson_81 : decode cX12_readsPerson 81 = .ok (.invokevirtual 231, 3) := by decide +kernel
theorem d_M_readsPerson_84 : decode cX12_readsPerson 84 = .ok (.ifCond .eq 7, 3) := by decide +kernel
theorem d_M_readsPerson_87 : decode cX12_readsPerson 87 = .ok (.iconst 2, 1) := by decide +kernel
theorem d_M_readsPerson_88 : decode cX12_readsPerson 88 = .ok (.goto 18, 3) := by decide +kernel
theorem d_M_readsPerson_91 : decode cX12_readsPerson 91 = .ok (.aload_n 0, 1) := by decide +kernel
theorem d_M_readsPerson_92 : decode cX12_readsPerson 92 = .ok (.ldc2_w 298, 3) := by decide +kernel
theorem d_M_readsPerson_95 : decode cX12_readsPerson 95 = .ok (.invokevirtual 231, 3) := by decide +kernel
theorem d_M_readsPerson_98 : decode cX12_readsPerson 98 = .ok (.ifCond .eq 7, 3) := by decide +kernel
theorem d_M_readsPerson_101 : decode cX12_readsPerson 101 = .ok (.iconst 3, 1) := by decide +kernel
theorem d_M_readsPerson_102 : decode cX12_readsPerson 102 = .ok (.goto 4, 3) := by decide +kernel
theorem d_M_readsPerson_105 : decode cX12_readsPerson 105 = .ok (.iconst (-1), 1) := by decide +kernel
theorem d_M_readsPerson_106 : decode cX12_readsPerson 106 = .ok (.iastore, 1) := by decide +kernel
theorem d_M_readsPerson_107 : decode cX12_readsPerson 107 = .ok (.aload_n 0, 1) := by decide +kernel
theorem d_M_readsPerson_108 : decode cX12_readsPerson 108 = .ok (.getfield 23, 3) := by decide +kernel
theorem d_M_readsPerson_111 : decode cX12_readsPerson 111 = .ok (.iload_n 1, 1) := by decide +kernel
theorem d_M_readsPerson_112 : decode cX12_readsPerson 112 = .ok (.iaload, 1) := by decide +kernel
theorem d_M_readsPerson_113 : decode cX12_readsPerson 113 = .ok (.ifCond .ge 9, 3) := by decide +kernel
theorem d_M_readsPerson_116 : decode cX12_readsPerson 116 = .ok (.aload_n 0, 1) := by decide +kernel
theorem d_M_readsPerson_117 : decode cX12_readsPerson 117 = .ok (.iconst 1, 1) := by decide +kernel
theorem d_M_readsPerson_118 : decode cX12_readsPerson 118 = .ok (.invokevirtual 239, 3) := by decide +kernel
theorem d_M_readsPerson_121 : decode cX12_readsPerson 121 = .ok (.ireturn, 1) := by decide +kernel
theorem d_M_readsPerson_122 : decode cX12_readsPerson 122 = .ok (.aload_n 0, 1) := by decide +kernel
theorem d_M_readsPerson_123 : decode cX12_readsPerson 123 = .ok (.invokevirtual 246, 3) := by decide +kernel
theorem d_M_readsPerson_126 : decode cX12_readsPerson 126 = .ok (.aload_n 0, 1) := by decide +kernel
theorem d_M_readsPerson_127 : decode cX12_readsPerson 127 = .ok (.ldc2_w 264, 3) := by decide +kernel
theorem d_M_readsPerson_130 : decode cX12_readsPerson 130 = .ok (.iconst 0, 1) := by decide +kernel
theorem d_M_readsPerson_131 : decode cX12_readsPerson 131 = .ok (.bipush 9, 2) := by decide +kernel
theorem d_M_readsPerson_133 : decode cX12_readsPerson 133 = .ok (.invokevirtual 335, 3) := by decide +kernel
theorem d_M_readsPerson_136 : decode cX12_readsPerson 136 = .ok (.ifCond .ne 5, 3) := by decide +kernel
theorem d_M_readsPerson_139 : decode cX12_readsPerson 139 = .ok (.iconst 0, 1) := by decide +kernel
theorem d_M_readsPerson_140 : decode cX12_readsPerson 140 = .ok (.ireturn, 1) := by decide +kernel
theorem d_M_readsPerson_141 : decode cX12_readsPerson 141 = .ok (.aload_n 0, 1) := by decide +kernel
theorem d_M_readsPerson_142 : decode cX12_readsPerson 142 = .ok (.getfield 26, 3) := by decide +kernel
theorem d_M_readsPerson_145 : decode cX12_readsPerson 145 = .ok (.iload_n 1, 1) := by decide +kernel
theorem d_M_readsPerson_146 : decode cX12_readsPerson 146 = .ok (.aload_n 0, 1) := by decide +kernel
theorem d_M_readsPerson_147 : decode cX12_readsPerson 147 = .ok (.getfield 312, 3) := by decide +kernel
theorem d_M_readsPerson_150 : decode cX12_readsPerson 150 = .ok (.iastore, 1) := by decide +kernel
theorem d_M_readsPerson_151 : decode cX12_readsPerson 151 = .ok (.aload_n 0, 1) := by decide +kernel
theorem d_M_readsPerson_152 : decode cX12_readsPerson 152 = .ok (.ldc2_w 266, 3) := by decide +kernel
theorem d_M_readsPerson_155 : decode cX12_readsPerson 155 = .ok (.iconst 0, 1) := by decide +kernel
theorem d_M_readsPerson_156 : decode cX12_readsPerson 156 = .ok (.sipush 999, 3) := by decide +kernel
theorem d_M_readsPerson_159 : decode cX12_readsPerson 159 = .ok (.invokevirtual 335, 3) := by decide +kernel
theorem d_M_readsPerson_162 : decode cX12_readsPerson 162 = .ok (.ifCond .ne 5, 3) := by decide +kernel
theorem d_M_readsPerson_165 : decode cX12_readsPerson 165 = .ok (.iconst 0, 1) := by decide +kernel
theorem d_M_readsPerson_166 : decode cX12_readsPerson 166 = .ok (.ireturn, 1) := by decide +kernel
theorem d_M_readsPerson_167 : decode cX12_readsPerson 167 = .ok (.aload_n 0, 1) := by decide +kernel
theorem d_M_readsPerson_168 : decode cX12_readsPerson 168 = .ok (.getfield 29, 3) := by decide +kernel
theorem d_M_readsPerson_171 : decode cX12_readsPerson 171 = .ok (.iload_n 1, 1) := by decide +kernel
theorem d_M_readsPerson_172 : decode cX12_readsPerson 172 = .ok (.aload_n 0, 1) := by decide +kernel
theorem d_M_readsPerson_173 : decode cX12_readsPerson 173 = .ok (.getfield 312, 3) := by decide +kernel
theorem d_M_readsPerson_176 : decode cX12_readsPerson 176 = .ok (.iastore, 1) := by decide +kernel
theorem d_M_readsPerson_177 : decode cX12_readsPerson 177 = .ok (.aload_n 0, 1) := by decide +kernel
theorem d_M_readsPerson_178 : decode cX12_readsPerson 178 = .ok (.getfield 16, 3) := by decide +kernel
theorem d_M_readsPerson_181 : decode cX12_readsPerson 181 = .ok (.iload_n 1, 1) := by decide +kernel
theorem d_M_readsPerson_182 : decode cX12_readsPerson 182 = .ok (.lload_n 2, 1) := by decide +kernel
theorem d_M_readsPerson_183 : decode cX12_readsPerson 183 = .ok (.lastore, 1) := by decide +kernel
theorem d_M_readsPerson_184 : decode cX12_readsPerson 184 = .ok (.aload_n 0, 1) := by decide +kernel
theorem d_M_readsPerson_185 : decode cX12_readsPerson 185 = .ok (.getfield 13, 3) := by decide +kernel
theorem d_M_readsPerson_188 : decode cX12_readsPerson 188 = .ok (.iconst 4, 1) := by decide +kernel
theorem d_M_readsPerson_189 : decode cX12_readsPerson 189 = .ok (.dup2, 1) := by decide +kernel
theorem d_M_readsPerson_190 : decode cX12_readsPerson 190 = .ok (.iaload, 1) := by decide +kernel
theorem d_M_readsPerson_191 : decode cX12_readsPerson 191 = .ok (.iconst 1, 1) := by decide +kernel
theorem d_M_readsPerson_192 : decode cX12_readsPerson 192 = .ok (.iadd, 1) := by decide +kernel
theorem d_M_readsPerson_193 : decode cX12_readsPerson 193 = .ok (.iastore, 1) := by decide +kernel
theorem d_M_readsPerson_194 : decode cX12_readsPerson 194 = .ok (.aload_n 0, 1) := by decide +kernel
theorem d_M_readsPerson_195 : decode cX12_readsPerson 195 = .ok (.invokevirtual 339, 3) := by decide +kernel
theorem d_M_readsPerson_198 : decode cX12_readsPerson 198 = .ok (.ireturn, 1) := by decide +kernel
noncomputable def f_M_readsPerson (h : mm_H) : Option (Int32 × mm_H) := mm_let (6 + (h.1 263 4)) fun y1 => if y1 = 12 then ((f_M_fails 5 h).bind fun v81 => (mm_bo v81.1).bind fun b82 => some (b82, v81.2)) else ((f_M_nextToken h).bind fun v4 => (f_M_isNew v4).bind fun v6 => if v6.1 = 0 then (some (0, v6.2)) else (mm_let (v6.2.2.1 261 7) fun y7 => (f_M_nextToken v6.2).bind fun v10 => (f_M_isWord (8740238 : Int64) v10).bind fun v12 => (if v12 = 0 then ((f_M_isWord (108802051 : Int64) v10).bind fun v16 => if v16 = 0 then ((f_M_isWord (82410 : Int64) v10).bind fun v18 => if v18 = 0 then ((f_M_isWord (239329775 : Int64) v10).bind fun v20 => if v20 = 0 then (some (-1)) else (some 3)) else (some 2)) else (some 1)) else (some 0) : Option Int32).bind fun j13 => (mm_ix y1 12).bind fun k33 => mm_let (mm_pI v10 266 k33 j13) fun h35 => (mm_ix y1 12).bind fun k37 => if 0 ≤ (h35.1 266 k37) then ((f_M_nextToken h35).bind fun v40 => (f_M_needsBoth (355412 : Int64) 0 9 v40).bind fun v42 => if v42.1 = 0 then (some (0, v42.2)) else ((mm_ix y1 12).bind fun k43 => mm_let (mm_pI v42.2 267 k43 (v42.2.1 261 41)) fun h45 => (f_M_needsBoth (14631 : Int64) 0 999 h45).bind fun v48 => if v48.1 = 0 then (some (0, v48.2)) else ((mm_ix y1 12).bind fun k49 => mm_let (mm_pI v48.2 268 k49 (v48.2.1 261 41)) fun h51 => (mm_ix y1 12).bind fun k53 => mm_let (mm_pL h51 264 k53 y7) fun h55 => mm_let (mm_pI h55 263 4 ((h55.1 263 4) + 1)) fun h57 => (f_M_closes h57).bind fun v60 => (mm_bo v60.1).bind fun b61 => some (b61, v60.2)))) else ((f_M_fails 1 h35).bind fun v70 => (mm_bo v70.1).bind fun b71 => some (b71, v70.2))))
theorem T_M_readsPerson (V : mm_V) (l : Launch) (h : mm_H) (r : (Int32 × mm_H)) (hf : f_M_readsPerson h = some r) : MT V l Y_M_readsPerson 5 [.ref 261] (fun r1 h1 => r1 = some (.int r.1) ∧ h1 = r.2) h := by
  unfold f_M_readsPerson at hf
  refine MT.intro (pn_M rfl) [(0, .ref 261)] rfl (Nat.le_of_ble_eq_true rfl) ?_
  generalize hZ : mm_Z V _ = Z0
  refine MM.bipush bp_6 d_M_readsPerson_0 rfl ?_
  refine MM.aload_n (i := 0) rfl rfl d_M_readsPerson_2 rfl ?_
  refine MM.gR 9 2 tg_261 rq_9_10 rfl lays_9 ww_1368 d_M_readsPerson_3 rfl ?_
  refine MM.iconst ic_4 d_M_readsPerson_6 rfl ?_
  refine MM.gI ix_4_8 al_263 d_M_readsPerson_7 rfl ?_
  refine MM.iadd d_M_readsPerson_8 rfl ?_
  obtain ⟨y1, e2, hf⟩ := mm_letE hf
  refine MM.istore_n (i := 1) (lv' := [(1, .int y1), (0, .ref 261)]) e2 rfl (Nat.le_of_ble_eq_true rfl) rfl d_M_readsPerson_9 rfl ?_
  refine MM.iload_n (i := 1) rfl rfl d_M_readsPerson_10 rfl ?_
  refine MM.bipush bp_12 d_M_readsPerson_11 rfl ?_
  obtain ⟨m85, m86⟩ := mm_ifE hf
  refine MM.icmp_ne (tgt := 22) d_M_readsPerson_13 rfl rfl (fun c84 => ?_) (fun c84 => ?_)
  · replace hf := m86 c84
    refine MM.aload_n (i := 0) rfl rfl d_M_readsPerson_22 rfl ?_
    obtain ⟨v4, e3, hf⟩ := mm_bind hf
    refine MM.callV0 (T_M_nextToken V l  h _ e3) (fun _ _ q => q) cal_M_nextToken rfl tg_261 ct_9 ww_39 ww_1593 ww_1591 (by decide) (by simp [Value.category]) d_M_readsPerson_23 rfl ⟨rfl, rfl⟩ rfl ?_
    refine MM.aload_n (i := 0) rfl rfl d_M_readsPerson_26 rfl ?_
    obtain ⟨v6, e5, hf⟩ := mm_bind hf
    refine MM.callV1 (T_M_isNew V l  v4 _ e5) (fun _ _ q => q) cal_M_isNew rfl tg_261 ct_9 ww_44 ww_1616 ww_1614 (by decide) (by simp [Value.category]) d_M_readsPerson_27 rfl ⟨rfl, rfl⟩ rfl ?_
    obtain ⟨m78, m79⟩ := mm_ifE hf
    refine MM.if_ne (tgt := 35) d_M_readsPerson_30 rfl rfl (fun c77 => ?_) (fun c77 => ?_)
    · replace hf := m79 c77
      refine MM.aload_n (i := 0) rfl rfl d_M_readsPerson_35 rfl ?_
      refine MM.getL 9 tg_261 lays_9 gq_9_7 ww_1365 d_M_readsPerson_36 rfl ?_
      obtain ⟨y7, e8, hf⟩ := mm_letE hf
      refine MM.lstore_n (i := 2) (lv' := [(2, .long y7), (1, .int y1), (0, .ref 261)]) e8 rfl (Nat.le_of_ble_eq_true rfl) rfl d_M_readsPerson_39 rfl ?_
      refine MM.aload_n (i := 0) rfl rfl d_M_readsPerson_40 rfl ?_
      obtain ⟨v10, e9, hf⟩ := mm_bind hf
      refine MM.callV0 (T_M_nextToken V l  v6.2 _ e9) (fun _ _ q => q) cal_M_nextToken rfl tg_261 ct_9 ww_39 ww_1593 ww_1591 (by decide) (by simp [Value.category]) d_M_readsPerson_41 rfl ⟨rfl, rfl⟩ rfl ?_
      refine MM.aload_n (i := 0) rfl rfl d_M_readsPerson_44 rfl ?_
      refine MM.gR 9 5 tg_261 rq_9_13 rfl lays_9 ww_1371 d_M_readsPerson_45 rfl ?_
      refine MM.iload_n (i := 1) rfl rfl d_M_readsPerson_48 rfl ?_
      refine MM.aload_n (i := 0) rfl rfl d_M_readsPerson_49 rfl ?_
      refine MM.ldc2 ww_1636 d_M_readsPerson_50 rfl ?_
      obtain ⟨v12, e11, hf⟩ := mm_bind hf
      refine MM.callV1 (T_M_isWord V l (8740238 : Int64) v10 _ e11) (fun _ _ q => q) cal_M_isWord rfl tg_261 ct_9 ww_41 ww_1604 ww_1602 (by decide) (by simp [Value.category]) d_M_readsPerson_53 rfl ⟨rfl, rfl⟩ rfl ?_
      obtain ⟨j13, e76, hf⟩ := mm_bind hf
      have K14 : MM V l Y_M_readsPerson 5 0 0 Z0 106 [(0, .ref 261), (1, .int y1), (2, .long y7)] [.int j13, .int y1, .ref 266] v10 := by
        obtain ⟨k33, e34, hf⟩ := mm_bind hf
        obtain ⟨h35, e36, hf⟩ := mm_letE hf
        refine MM.sI e34 e36 al_266 d_M_readsPerson_106 rfl ?_
        refine MM.aload_n (i := 0) rfl rfl d_M_readsPerson_107 rfl ?_
        refine MM.gR 9 5 tg_261 rq_9_13 rfl lays_9 ww_1371 d_M_readsPerson_108 rfl ?_
        refine MM.iload_n (i := 1) rfl rfl d_M_readsPerson_111 rfl ?_
        obtain ⟨k37, e38, hf⟩ := mm_bind hf
        refine MM.gI e38 al_266 d_M_readsPerson_112 rfl ?_
        obtain ⟨m74, m75⟩ := mm_ifE hf
        refine MM.if_ge (tgt := 122) d_M_readsPerson_113 rfl rfl (fun c73 => ?_) (fun c73 => ?_)
        · replace hf := m74 c73
          refine MM.aload_n (i := 0) rfl rfl d_M_readsPerson_122 rfl ?_
          obtain ⟨v40, e39, hf⟩ := mm_bind hf
          refine MM.callV0 (T_M_nextToken V l  h35 _ e39) (fun _ _ q => q) cal_M_nextToken rfl tg_261 ct_9 ww_39 ww_1593 ww_1591 (by decide) (by simp [Value.category]) d_M_readsPerson_123 rfl ⟨rfl, rfl⟩ rfl ?_
          refine MM.aload_n (i := 0) rfl rfl d_M_readsPerson_126 rfl ?_
          refine MM.ldc2 ww_1622 d_M_readsPerson_127 rfl ?_
          refine MM.iconst ic_0 d_M_readsPerson_130 rfl ?_
          refine MM.bipush bp_9 d_M_readsPerson_131 rfl ?_
          obtain ⟨v42, e41, hf⟩ := mm_bind hf
          refine MM.callV1 (T_M_needsBoth V l (355412 : Int64) 0 9 v40 _ e41) (fun _ _ q => q) cal_M_needsBoth rfl tg_261 ct_9 ww_48 ww_1658 ww_1656 (by decide) (by simp [Value.category]) d_M_readsPerson_133 rfl ⟨rfl, rfl⟩ rfl ?_
          obtain ⟨m67, m68⟩ := mm_ifE hf
          refine MM.if_ne (tgt := 141) d_M_readsPerson_136 rfl rfl (fun c66 => ?_) (fun c66 => ?_)
          · replace hf := m68 c66
            refine MM.aload_n (i := 0) rfl rfl d_M_readsPerson_141 rfl ?_
            refine MM.gR 9 6 tg_261 rq_9_14 rfl lays_9 ww_1372 d_M_readsPerson_142 rfl ?_
            refine MM.iload_n (i := 1) rfl rfl d_M_readsPerson_145 rfl ?_
            refine MM.aload_n (i := 0) rfl rfl d_M_readsPerson_146 rfl ?_
            refine MM.getI 9 tg_261 lays_9 gq_9_41 ww_1399 d_M_readsPerson_147 rfl ?_
            obtain ⟨k43, e44, hf⟩ := mm_bind hf
            obtain ⟨h45, e46, hf⟩ := mm_letE hf
            refine MM.sI e44 e46 al_267 d_M_readsPerson_150 rfl ?_
            refine MM.aload_n (i := 0) rfl rfl d_M_readsPerson_151 rfl ?_
            refine MM.ldc2 ww_1623 d_M_readsPerson_152 rfl ?_
            refine MM.iconst ic_0 d_M_readsPerson_155 rfl ?_
            refine MM.sipush sp_999 d_M_readsPerson_156 rfl ?_
            obtain ⟨v48, e47, hf⟩ := mm_bind hf
            refine MM.callV1 (T_M_needsBoth V l (14631 : Int64) 0 999 h45 _ e47) (fun _ _ q => q) cal_M_needsBoth rfl tg_261 ct_9 ww_48 ww_1658 ww_1656 (by decide) (by simp [Value.category]) d_M_readsPerson_159 rfl ⟨rfl, rfl⟩ rfl ?_
            obtain ⟨m64, m65⟩ := mm_ifE hf
            refine MM.if_ne (tgt := 167) d_M_readsPerson_162 rfl rfl (fun c63 => ?_) (fun c63 => ?_)
            · replace hf := m65 c63
              refine MM.aload_n (i := 0) rfl rfl d_M_readsPerson_167 rfl ?_
              refine MM.gR 9 7 tg_261 rq_9_15 rfl lays_9 ww_1373 d_M_readsPerson_168 rfl ?_
              refine MM.iload_n (i := 1) rfl rfl d_M_readsPerson_171 rfl ?_
              refine MM.aload_n (i := 0) rfl rfl d_M_readsPerson_172 rfl ?_
              refine MM.getI 9 tg_261 lays_9 gq_9_41 ww_1399 d_M_readsPerson_173 rfl ?_
              obtain ⟨k49, e50, hf⟩ := mm_bind hf
              obtain ⟨h51, e52, hf⟩ := mm_letE hf
              refine MM.sI e50 e52 al_268 d_M_readsPerson_176 rfl ?_
              refine MM.aload_n (i := 0) rfl rfl d_M_readsPerson_177 rfl ?_
              refine MM.gR 9 3 tg_261 rq_9_11 rfl lays_9 ww_1369 d_M_readsPerson_178 rfl ?_
              refine MM.iload_n (i := 1) rfl rfl d_M_readsPerson_181 rfl ?_
              refine MM.lload_n (i := 2) rfl rfl d_M_readsPerson_182 rfl ?_
              obtain ⟨k53, e54, hf⟩ := mm_bind hf
              obtain ⟨h55, e56, hf⟩ := mm_letE hf
              refine MM.sL e54 e56 al_264 d_M_readsPerson_183 rfl ?_
              refine MM.aload_n (i := 0) rfl rfl d_M_readsPerson_184 rfl ?_
              refine MM.gR 9 2 tg_261 rq_9_10 rfl lays_9 ww_1368 d_M_readsPerson_185 rfl ?_
              refine MM.iconst ic_4 d_M_readsPerson_188 rfl ?_
              refine MM.dup2 rfl rfl d_M_readsPerson_189 rfl ?_
              refine MM.gI ix_4_8 al_263 d_M_readsPerson_190 rfl ?_
              refine MM.iconst ic_1 d_M_readsPerson_191 rfl ?_
              refine MM.iadd d_M_readsPerson_192 rfl ?_
              obtain ⟨h57, e58, hf⟩ := mm_letE hf
              refine MM.sI ix_4_8 e58 al_263 d_M_readsPerson_193 rfl ?_
              refine MM.aload_n (i := 0) rfl rfl d_M_readsPerson_194 rfl ?_
              obtain ⟨v60, e59, hf⟩ := mm_bind hf
              refine MM.callV1 (T_M_closes V l  h57 _ e59) (fun _ _ q => q) cal_M_closes rfl tg_261 ct_9 ww_51 ww_1673 ww_1671 (by decide) (by simp [Value.category]) d_M_readsPerson_195 rfl ⟨rfl, rfl⟩ rfl ?_
              obtain ⟨b61, e62, hf⟩ := mm_bind hf
              obtain ⟨ob61, e62⟩ := mm_boE e62
              subst e62
              obtain rfl := Option.some.inj hf
              subst hZ
              exact MM.zret ob61 rfl d_M_readsPerson_198 ⟨rfl, rfl⟩
            · replace hf := m64 c63
              refine MM.iconst ic_0 d_M_readsPerson_165 rfl ?_
              obtain rfl := Option.some.inj hf
              subst hZ
              exact MM.zret (Or.inl rfl) rfl d_M_readsPerson_166 ⟨rfl, rfl⟩
          · replace hf := m67 c66
            refine MM.iconst ic_0 d_M_readsPerson_139 rfl ?_
            obtain rfl := Option.some.inj hf
            subst hZ
            exact MM.zret (Or.inl rfl) rfl d_M_readsPerson_140 ⟨rfl, rfl⟩
        · replace hf := m75 c73
          refine MM.aload_n (i := 0) rfl rfl d_M_readsPerson_116 rfl ?_
          refine MM.iconst ic_1 d_M_readsPerson_117 rfl ?_
          obtain ⟨v70, e69, hf⟩ := mm_bind hf
          refine MM.callV1 (T_M_fails V l 1 h35 _ e69) (fun _ _ q => q) cal_M_fails rfl tg_261 ct_9 ww_43 ww_1612 ww_1610 (by decide) (by simp [Value.category]) d_M_readsPerson_118 rfl ⟨rfl, rfl⟩ rfl ?_
          obtain ⟨b71, e72, hf⟩ := mm_bind hf
          obtain ⟨ob71, e72⟩ := mm_boE e72
          subst e72
          obtain rfl := Option.some.inj hf
          subst hZ
          exact MM.zret ob71 rfl d_M_readsPerson_121 ⟨rfl, rfl⟩
      clear hf
      have hf := e76
      clear e76
      obtain ⟨m31, m32⟩ := mm_ifE hf
      refine MM.if_eq (tgt := 63) d_M_readsPerson_56 rfl rfl (fun c30 => ?_) (fun c30 => ?_)
      · replace hf := m31 c30
        refine MM.aload_n (i := 0) rfl rfl d_M_readsPerson_63 rfl ?_
        refine MM.ldc2 ww_1637 d_M_readsPerson_64 rfl ?_
        obtain ⟨v16, e15, hf⟩ := mm_bind hf
        refine MM.callV1 (T_M_isWord V l (108802051 : Int64) v10 _ e15) (fun _ _ q => q) cal_M_isWord rfl tg_261 ct_9 ww_41 ww_1604 ww_1602 (by decide) (by simp [Value.category]) d_M_readsPerson_67 rfl ⟨rfl, rfl⟩ rfl ?_
        obtain ⟨m28, m29⟩ := mm_ifE hf
        refine MM.if_eq (tgt := 77) d_M_readsPerson_70 rfl rfl (fun c27 => ?_) (fun c27 => ?_)
        · replace hf := m28 c27
          refine MM.aload_n (i := 0) rfl rfl d_M_readsPerson_77 rfl ?_
          refine MM.ldc2 ww_1638 d_M_readsPerson_78 rfl ?_
          obtain ⟨v18, e17, hf⟩ := mm_bind hf
          refine MM.callV1 (T_M_isWord V l (82410 : Int64) v10 _ e17) (fun _ _ q => q) cal_M_isWord rfl tg_261 ct_9 ww_41 ww_1604 ww_1602 (by decide) (by simp [Value.category]) d_M_readsPerson_81 rfl ⟨rfl, rfl⟩ rfl ?_
          obtain ⟨m25, m26⟩ := mm_ifE hf
          refine MM.if_eq (tgt := 91) d_M_readsPerson_84 rfl rfl (fun c24 => ?_) (fun c24 => ?_)
          · replace hf := m25 c24
            refine MM.aload_n (i := 0) rfl rfl d_M_readsPerson_91 rfl ?_
            refine MM.ldc2 ww_1639 d_M_readsPerson_92 rfl ?_
            obtain ⟨v20, e19, hf⟩ := mm_bind hf
            refine MM.callV1 (T_M_isWord V l (239329775 : Int64) v10 _ e19) (fun _ _ q => q) cal_M_isWord rfl tg_261 ct_9 ww_41 ww_1604 ww_1602 (by decide) (by simp [Value.category]) d_M_readsPerson_95 rfl ⟨rfl, rfl⟩ rfl ?_
            obtain ⟨m22, m23⟩ := mm_ifE hf
            refine MM.if_eq (tgt := 105) d_M_readsPerson_98 rfl rfl (fun c21 => ?_) (fun c21 => ?_)
            · replace hf := m22 c21
              refine MM.iconst ic_m1 d_M_readsPerson_105 rfl ?_
              obtain rfl := Option.some.inj hf
              exact MM.sub [2, 1, 0] (by rfl) K14
            · replace hf := m23 c21
              refine MM.iconst ic_3 d_M_readsPerson_101 rfl ?_
              refine MM.goto (tgt := 106) d_M_readsPerson_102 rfl ?_
              obtain rfl := Option.some.inj hf
              exact MM.sub [2, 1, 0] (by rfl) K14
          · replace hf := m26 c24
            refine MM.iconst ic_2 d_M_readsPerson_87 rfl ?_
            refine MM.goto (tgt := 106) d_M_readsPerson_88 rfl ?_
            obtain rfl := Option.some.inj hf
            exact MM.sub [2, 1, 0] (by rfl) K14
        · replace hf := m29 c27
          refine MM.iconst ic_1 d_M_readsPerson_73 rfl ?_
          refine MM.goto (tgt := 106) d_M_readsPerson_74 rfl ?_
          obtain rfl := Option.some.inj hf
          exact MM.sub [2, 1, 0] (by rfl) K14
      · replace hf := m32 c30
        refine MM.iconst ic_0 d_M_readsPerson_59 rfl ?_
        refine MM.goto (tgt := 106) d_M_readsPerson_60 rfl ?_
        obtain rfl := Option.some.inj hf
        exact MM.sub [2, 1, 0] (by rfl) K14
    · replace hf := m78 c77
      refine MM.iconst ic_0 d_M_readsPerson_33 rfl ?_
      obtain rfl := Option.some.inj hf
      subst hZ
      exact MM.zret (Or.inl rfl) rfl d_M_readsPerson_34 ⟨rfl, rfl⟩
  · replace hf := m85 c84
    refine MM.aload_n (i := 0) rfl rfl d_M_readsPerson_16 rfl ?_
    refine MM.iconst ic_5 d_M_readsPerson_17 rfl ?_
    obtain ⟨v81, e80, hf⟩ := mm_bind hf
    refine MM.callV1 (T_M_fails V l 5 h _ e80) (fun _ _ q => q) cal_M_fails rfl tg_261 ct_9 ww_43 ww_1612 ww_1610 (by decide) (by simp [Value.category]) d_M_readsPerson_18 rfl ⟨rfl, rfl⟩ rfl ?_
    obtain ⟨b82, e83, hf⟩ := mm_bind hf
    obtain ⟨ob82, e83⟩ := mm_boE e83
    subst e83
    obtain rfl := Option.some.inj hf
    subst hZ
    exact MM.zret ob82 rfl d_M_readsPerson_21 ⟨rfl, rfl⟩
theorem d_M_readsKnowers_0 : decode cX12_readsKnowers 0 = .ok (.aload_n 0, 1) := by decide +kernel
theorem d_M_readsKnowers_1 : decode cX12_readsKnowers 1 = .ok (.getfield 44, 3) := by decide +kernel
theorem d_M_readsKnowers_4 : decode cX12_readsKnowers 4 = .ok (.iload_n 1, 1) := by decide +kernel
theorem d_M_readsKnowers_5 : decode cX12_readsKnowers 5 = .ok (.iconst 0, 1) := by decide +kernel
theorem d_M_readsKnowers_6 : decode cX12_readsKnowers 6 = .ok (.iastore, 1) := by decide +kernel
theorem d_M_readsKnowers_7 : decode cX12_readsKnowers 7 = .ok (.aload_n 0, 1) := by decide +kernel
theorem d_M_readsKnowers_8 : decode cX12_readsKnowers 8 = .ok (.getfield 44, 3) := by decide +kernel
theorem d_M_readsKnowers_11 : decode cX12_readsKnowers 11 = .ok (.iload_n 1, 1) := by decide +kernel
theorem d_M_readsKnowers_12 : decode cX12_readsKnowers 12 = .ok (.iaload, 1) := by decide +kernel
theorem d_M_readsKnowers_13 : decode cX12_readsKnowers 13 = .ok (.ifCond .eq 12, 3) := by decide +kernel
theorem d_M_readsKnowers_16 : decode cX12_readsKnowers 16 = .ok (.aload_n 0, 1) := by decide +kernel
theorem d_M_readsKnowers_17 : decode cX12_readsKnowers 17 = .ok (.bipush 59, 2) := by decide +kernel
theorem d_M_readsKnowers_19 : decode cX12_readsKnowers 19 = .ok (.invokevirtual 235, 3) := by decide +kernel
theorem d_M_readsKnowers_22 : decode cX12_readsKnowers 22 = .ok (.ifCond .ne 58, 3) := by decide +kernel
theorem d_M_readsKnowers_25 : decode cX12_readsKnowers 25 = .ok (.aload_n 0, 1) := by decide +kernel
theorem d_M_readsKnowers_26 : decode cX12_readsKnowers 26 = .ok (.iconst 1, 1) := by decide +kernel
theorem d_M_readsKnowers_27 : decode cX12_readsKnowers 27 = .ok (.invokevirtual 342, 3) := by decide +kernel
theorem d_M_readsKnowers_30 : decode cX12_readsKnowers 30 = .ok (.ifCond .ne 5, 3) := by decide +kernel
theorem d_M_readsKnowers_33 : decode cX12_readsKnowers 33 = .ok (.iconst 0, 1) := by decide +kernel
theorem d_M_readsKnowers_34 : decode cX12_readsKnowers 34 = .ok (.ireturn, 1) := by decide +kernel
theorem d_M_readsKnowers_35 : decode cX12_readsKnowers 35 = .ok (.aload_n 0, 1) := by decide +kernel
theorem d_M_readsKnowers_36 : decode cX12_readsKnowers 36 = .ok (.getfield 44, 3) := by decide +kernel
theorem d_M_readsKnowers_39 : decode cX12_readsKnowers 39 = .ok (.iload_n 1, 1) := by decide +kernel
theorem d_M_readsKnowers_40 : decode cX12_readsKnowers 40 = .ok (.iaload, 1) := by decide +kernel
theorem d_M_readsKnowers_41 : decode cX12_readsKnowers 41 = .ok (.aload_n 0, 1) := by decide +kernel
theorem d_M_readsKnowers_42 : decode cX12_readsKnowers 42 = .ok (.getfield 312, 3) := by decide +kernel
theorem d_M_readsKnowers_45 : decode cX12_readsKnowers 45 = .ok (.ishr, 1) := by decide +kernel
theorem d_M_readsKnowers_46 : decode cX12_readsKnowers 46 = .ok (.iconst 1, 1) := by decide +kernel
theorem d_M_readsKnowers_47 : decode cX12_readsKnowers 47 = .ok (.iand, 1) := by decide +kernel
theorem d_M_readsKnowers_48 : decode cX12_readsKnowers 48 = .ok (.iconst 1, 1) := by decide +kernel
theorem d_M_readsKnowers_49 : decode cX12_readsKnowers 49 = .ok (.if_icmp .ne 9, 3) := by decide +kernel
theorem d_M_readsKnowers_52 : decode cX12_readsKnowers 52 = .ok (.aload_n 0, 1) := by decide +kernel
theorem d_M_readsKnowers_53 : decode cX12_readsKnowers 53 = .ok (.iconst 3, 1) := by decide +kernel
theorem d_M_readsKnowers_54 : decode cX12_readsKnowers 54 = .ok (.invokevirtual 239, 3) := by decide +kernel
theorem d_M_readsKnowers_57 : decode cX12_readsKnowers 57 = .ok (.ireturn, 1) := by decide +kernel
theorem d_M_readsKnowers_58 : decode cX12_readsKnowers 58 = .ok (.aload_n 0, 1) := by decide +kernel
theorem d_M_readsKnowers_59 : decode cX12_readsKnowers 59 = .ok (.getfield 44, 3) := by decide +kernel
theorem d_M_readsKnowers_62 : decode cX12_readsKnowers 62 = .ok (.iload_n 1, 1) := by decide +kernel
theorem d_M_readsKnowers_63 : decode cX12_readsKnowers 63 = .ok (.dup2, 1) := by decide +kernel
theorem d_M_readsKnowers_64 : decode cX12_readsKnowers 64 = .ok (.iaload, 1) := by decide +kernel
theorem d_M_readsKnowers_65 : decode cX12_readsKnowers 65 = .ok (.iconst 1, 1) := by decide +kernel
theorem d_M_readsKnowers_66 : decode cX12_readsKnowers 66 = .ok (.aload_n 0, 1) := by decide +kernel
theorem d_M_readsKnowers_67 : decode cX12_readsKnowers 67 = .ok (.getfield 312, 3) := by decide +kernel
theorem d_M_readsKnowers_70 : decode cX12_readsKnowers 70 = .ok (.ishl, 1) := by decide +kernel
theorem d_M_readsKnowers_71 : decode cX12_readsKnowers 71 = .ok (.ior, 1) := by decide +kernel
theorem d_M_readsKnowers_72 : decode cX12_readsKnowers 72 = .ok (.iastore, 1) := by decide +kernel
theorem d_M_readsKnowers_73 : decode cX12_readsKnowers 73 = .ok (.aload_n 0, 1) := by decide +kernel
theorem d_M_readsKnowers_74 : decode cX12_readsKnowers 74 = .ok (.invokevirtual 246, 3) := by decide +kernel
theorem d_M_readsKnowers_77 : decode cX12_readsKnowers 77 = .ok (.goto (-70), 3) := by decide +kernel
theorem d_M_readsKnowers_80 : decode cX12_readsKnowers 80 = .ok (.iconst 1, 1) := by decide +kernel
theorem d_M_readsKnowers_81 : decode cX12_readsKnowers 81 = .ok (.ireturn, 1) := by decide +kernel
noncomputable def f_M_readsKnowers (x1 : Int32) (h : mm_H) : Option (Int32 × mm_H) := (mm_ix x1 20).bind fun k1 => mm_let (mm_pI h 273 k1 0) fun h3 => mm_while (σ := mm_H) (ρ := (Int32 × mm_H)) (fun s5 => (mm_ix x1 20).bind fun k8 => mm_jp (fun (j10 : Unit) => ((f_M_needsPerson 1 s5).bind fun v14 => if v14.1 = 0 then (some (Sum.inr (0, v14.2))) else ((mm_ix x1 20).bind fun k15 => if (((v14.2.1 273 k15) >>> ((v14.2.1 261 41) &&& 31)) &&& 1) = 1 then ((f_M_fails 3 v14.2).bind fun v26 => (mm_bo v26.1).bind fun b27 => some (Sum.inr (b27, v26.2))) else ((mm_ix x1 20).bind fun k17 => (mm_ix x1 20).bind fun k19 => mm_let (mm_pI v14.2 273 k19 ((v14.2.1 273 k17) ||| ((1 : Int32) <<< ((v14.2.1 261 41) &&& 31)))) fun h21 => (f_M_nextToken h21).bind fun v24 => some (Sum.inl v24))))) fun k12 => if (s5.1 273 k8) = 0 then (k12 ()) else ((f_M_isSign 59 s5).bind fun v36 => if v36 = 0 then (k12 ()) else (some (Sum.inr (1, s5))))) h3
theorem T_M_readsKnowers (V : mm_V) (l : Launch) (x1 : Int32) (h : mm_H) (r : (Int32 × mm_H)) (hf : f_M_readsKnowers x1 h = some r) : MT V l Y_M_readsKnowers 4 [.ref 261, .int x1] (fun r1 h1 => r1 = some (.int r.1) ∧ h1 = r.2) h := by
  unfold f_M_readsKnowers at hf
  refine MT.intro (pn_M rfl) [(0, .ref 261), (1, .int x1)] rfl (Nat.le_of_ble_eq_true rfl) ?_
  generalize hZ : mm_Z V _ = Z0
  refine MM.aload_n (i := 0) rfl rfl d_M_readsKnowers_0 rfl ?_
  refine MM.gR 9 12 tg_261 rq_9_20 rfl lays_9 ww_1378 d_M_readsKnowers_1 rfl ?_
  refine MM.iload_n (i := 1) rfl rfl d_M_readsKnowers_4 rfl ?_
  refine MM.iconst ic_0 d_M_readsKnowers_5 rfl ?_
  obtain ⟨k1, e2, hf⟩ := mm_bind hf
  obtain ⟨h3, e4, hf⟩ := mm_letE hf
  refine MM.sI e2 e4 al_273 d_M_readsKnowers_6 rfl ?_
  refine MM.sub [0, 1] (by rfl) (mm_while_ind (fun s5 => MM V l Y_M_readsKnowers 4 0 0 Z0 7 [(0, .ref 261), (1, .int x1)] [] s5) hf (fun s5 q6 hf hx7 => ?_))
  refine MM.aload_n (i := 0) rfl rfl d_M_readsKnowers_7 rfl ?_
  refine MM.gR 9 12 tg_261 rq_9_20 rfl lays_9 ww_1378 d_M_readsKnowers_8 rfl ?_
  refine MM.iload_n (i := 1) rfl rfl d_M_readsKnowers_11 rfl ?_
  obtain ⟨k8, e9, hf⟩ := mm_bind hf
  refine MM.gI e9 al_273 d_M_readsKnowers_12 rfl ?_
  obtain ⟨k12, e43, hf⟩ := mm_jpE hf
  have K11 : ∀ j10, k12 j10 = some q6 → MM V l Y_M_readsKnowers 4 0 0 Z0 25 [(0, .ref 261), (1, .int x1)] [] s5 := by
    intro j10 hf
    rw [e43] at hf
    refine MM.aload_n (i := 0) rfl rfl d_M_readsKnowers_25 rfl ?_
    refine MM.iconst ic_1 d_M_readsKnowers_26 rfl ?_
    obtain ⟨v14, e13, hf⟩ := mm_bind hf
    refine MM.callV1 (T_M_needsPerson V l 1 s5 _ e13) (fun _ _ q => q) cal_M_needsPerson rfl tg_261 ct_9 ww_54 ww_1685 ww_1683 (by decide) (by simp [Value.category]) d_M_readsKnowers_27 rfl ⟨rfl, rfl⟩ rfl ?_
    obtain ⟨m33, m34⟩ := mm_ifE hf
    refine MM.if_ne (tgt := 35) d_M_readsKnowers_30 rfl rfl (fun c32 => ?_) (fun c32 => ?_)
    · replace hf := m34 c32
      refine MM.aload_n (i := 0) rfl rfl d_M_readsKnowers_35 rfl ?_
      refine MM.gR 9 12 tg_261 rq_9_20 rfl lays_9 ww_1378 d_M_readsKnowers_36 rfl ?_
      refine MM.iload_n (i := 1) rfl rfl d_M_readsKnowers_39 rfl ?_
      obtain ⟨k15, e16, hf⟩ := mm_bind hf
      refine MM.gI e16 al_273 d_M_readsKnowers_40 rfl ?_
      refine MM.aload_n (i := 0) rfl rfl d_M_readsKnowers_41 rfl ?_
      refine MM.getI 9 tg_261 lays_9 gq_9_41 ww_1399 d_M_readsKnowers_42 rfl ?_
      refine MM.ishr d_M_readsKnowers_45 rfl ?_
      refine MM.iconst ic_1 d_M_readsKnowers_46 rfl ?_
      refine MM.iand d_M_readsKnowers_47 rfl ?_
      refine MM.iconst ic_1 d_M_readsKnowers_48 rfl ?_
      obtain ⟨m30, m31⟩ := mm_ifE hf
      refine MM.icmp_ne (tgt := 58) d_M_readsKnowers_49 rfl rfl (fun c29 => ?_) (fun c29 => ?_)
      · replace hf := m31 c29
        refine MM.aload_n (i := 0) rfl rfl d_M_readsKnowers_58 rfl ?_
        refine MM.gR 9 12 tg_261 rq_9_20 rfl lays_9 ww_1378 d_M_readsKnowers_59 rfl ?_
        refine MM.iload_n (i := 1) rfl rfl d_M_readsKnowers_62 rfl ?_
        refine MM.dup2 rfl rfl d_M_readsKnowers_63 rfl ?_
        obtain ⟨k17, e18, hf⟩ := mm_bind hf
        refine MM.gI e18 al_273 d_M_readsKnowers_64 rfl ?_
        refine MM.iconst ic_1 d_M_readsKnowers_65 rfl ?_
        refine MM.aload_n (i := 0) rfl rfl d_M_readsKnowers_66 rfl ?_
        refine MM.getI 9 tg_261 lays_9 gq_9_41 ww_1399 d_M_readsKnowers_67 rfl ?_
        refine MM.ishl d_M_readsKnowers_70 rfl ?_
        refine MM.ior d_M_readsKnowers_71 rfl ?_
        obtain ⟨k19, e20, hf⟩ := mm_bind hf
        obtain ⟨h21, e22, hf⟩ := mm_letE hf
        refine MM.sI e20 e22 al_273 d_M_readsKnowers_72 rfl ?_
        refine MM.aload_n (i := 0) rfl rfl d_M_readsKnowers_73 rfl ?_
        obtain ⟨v24, e23, hf⟩ := mm_bind hf
        refine MM.callV0 (T_M_nextToken V l  h21 _ e23) (fun _ _ q => q) cal_M_nextToken rfl tg_261 ct_9 ww_39 ww_1593 ww_1591 (by decide) (by simp [Value.category]) d_M_readsKnowers_74 rfl ⟨rfl, rfl⟩ rfl ?_
        refine MM.goto (tgt := 7) d_M_readsKnowers_77 rfl ?_
        obtain rfl := Option.some.inj hf
        have h9 := mm_wxL hx7
        exact MM.sub [0, 1] (by rfl) h9
      · replace hf := m30 c29
        refine MM.aload_n (i := 0) rfl rfl d_M_readsKnowers_52 rfl ?_
        refine MM.iconst ic_3 d_M_readsKnowers_53 rfl ?_
        obtain ⟨v26, e25, hf⟩ := mm_bind hf
        refine MM.callV1 (T_M_fails V l 3 v14.2 _ e25) (fun _ _ q => q) cal_M_fails rfl tg_261 ct_9 ww_43 ww_1612 ww_1610 (by decide) (by simp [Value.category]) d_M_readsKnowers_54 rfl ⟨rfl, rfl⟩ rfl ?_
        obtain ⟨b27, e28, hf⟩ := mm_bind hf
        obtain ⟨ob27, e28⟩ := mm_boE e28
        subst e28
        obtain rfl := Option.some.inj hf
        replace hf := mm_wxR hx7
        obtain rfl := Option.some.inj hf
        subst hZ
        exact MM.zret ob27 rfl d_M_readsKnowers_57 ⟨rfl, rfl⟩
    · replace hf := m33 c32
      refine MM.iconst ic_0 d_M_readsKnowers_33 rfl ?_
      obtain rfl := Option.some.inj hf
      replace hf := mm_wxR hx7
      obtain rfl := Option.some.inj hf
      subst hZ
      exact MM.zret (Or.inl rfl) rfl d_M_readsKnowers_34 ⟨rfl, rfl⟩
  clear e43
  obtain ⟨m41, m42⟩ := mm_ifE hf
  refine MM.if_eq (tgt := 25) d_M_readsKnowers_13 rfl rfl (fun c40 => ?_) (fun c40 => ?_)
  · replace hf := m41 c40
    exact MM.sub [0, 1] (by rfl) (K11 _ hf)
  · replace hf := m42 c40
    refine MM.aload_n (i := 0) rfl rfl d_M_readsKnowers_16 rfl ?_
    refine MM.bipush bp_59 d_M_readsKnowers_17 rfl ?_
    obtain ⟨v36, e35, hf⟩ := mm_bind hf
    refine MM.callV1 (T_M_isSign V l 59 s5 _ e35) (fun _ _ q => q) cal_M_isSign rfl tg_261 ct_9 ww_52 ww_1677 ww_1675 (by decide) (by simp [Value.category]) d_M_readsKnowers_19 rfl ⟨rfl, rfl⟩ rfl ?_
    obtain ⟨m38, m39⟩ := mm_ifE hf
    refine MM.if_ne (tgt := 80) d_M_readsKnowers_22 rfl rfl (fun c37 => ?_) (fun c37 => ?_)
    · replace hf := m39 c37
      refine MM.iconst ic_1 d_M_readsKnowers_80 rfl ?_
      obtain rfl := Option.some.inj hf
      replace hf := mm_wxR hx7
      obtain rfl := Option.some.inj hf
      subst hZ
      exact MM.zret (Or.inr rfl) rfl d_M_readsKnowers_81 ⟨rfl, rfl⟩
    · replace hf := m38 c37
      exact MM.sub [0, 1] (by rfl) (K11 _ hf)
theorem d_M_readsSecret_0 : decode cX12_readsSecret 0 = .ok (.bipush 10, 2) := by decide +kernel
theorem d_M_readsSecret_2 : decode cX12_readsSecret 2 = .ok (.aload_n 0, 1) := by decide +kernel
theorem d_M_readsSecret_3 : decode cX12_readsSecret 3 = .ok (.getfield 13, 3) := by decide +kernel
theorem d_M_readsSecret_6 : decode cX12_readsSecret 6 = .ok (.iconst 5, 1) := by decide +kernel
theorem d_M_readsSecret_7 : decode cX12_readsSecret 7 = .ok (.iaload, 1) := by decide +kernel
theorem d_M_readsSecret_8 : decode cX12_readsSecret 8 = .ok (.iadd, 1) := by decide +kernel
theorem d_M_readsSecret_9 : decode cX12_readsSecret 9 = .ok (.istore_n 1, 1) := by decide +kernel
theorem d_M_readsSecret_10 : decode cX12_readsSecret 10 = .ok (.iload_n 1, 1) := by decide +kernel
theorem d_M_readsSecret_11 : decode cX12_readsSecret 11 = .ok (.bipush 20, 2) := by decide +kernel
theorem d_M_readsSecret_13 : decode cX12_readsSecret 13 = .ok (.if_icmp .ne 9, 3) := by decide +kernel
theorem d_M_readsSecret_16 : decode cX12_readsSecret 16 = .ok (.aload_n 0, 1) := by decide +kernel
theorem d_M_readsSecret_17 : decode cX12_readsSecret 17 = .ok (.iconst 5, 1) := by decide +kernel
theorem d_M_readsSecret_18 : decode cX12_readsSecret 18 = .ok (.invokevirtual 239, 3) := by decide +kernel
theorem d_M_readsSecret_21 : decode cX12_readsSecret 21 = .ok (.ireturn, 1) := by decide +kernel
theorem d_M_readsSecret_22 : decode cX12_readsSecret 22 = .ok (.aload_n 0, 1) := by decide +kernel
theorem d_M_readsSecret_23 : decode cX12_readsSecret 23 = .ok (.invokevirtual 246, 3) := by decide +kernel
theorem d_M_readsSecret_26 : decode cX12_readsSecret 26 = .ok (.aload_n 0, 1) := by decide +kernel
theorem d_M_readsSecret_27 : decode cX12_readsSecret 27 = .ok (.invokevirtual 332, 3) := by decide +kernel
theorem d_M_readsSecret_30 : decode cX12_readsSecret 30 = .ok (.ifCond .ne 5, 3) := by decide +kernel
theorem d_M_readsSecret_33 : decode cX12_readsSecret 33 = .ok (.iconst 0, 1) := by decide +kernel
theorem d_M_readsSecret_34 : decode cX12_readsSecret 34 = .ok (.ireturn, 1) := by decide +kernel
theorem d_M_readsSecret_35 : decode cX12_readsSecret 35 = .ok (.aload_n 0, 1) := by decide +kernel
theorem d_M_readsSecret_36 : decode cX12_readsSecret 36 = .ok (.getfield 193, 3) := by decide +kernel
theorem d_M_readsSecret_39 : decode cX12_readsSecret 39 = .ok (.lstore_n 2, 1) := by decide +kernel
theorem d_M_readsSecret_40 : decode cX12_readsSecret 40 = .ok (.aload_n 0, 1) := by decide +kernel
theorem d_M_readsSecret_41 : decode cX12_readsSecret 41 = .ok (.invokevirtual 246, 3) := by decide +kernel
theorem d_M_readsSecret_44 : decode cX12_readsSecret 44 = .ok (.aload_n 0, 1) := by decide +kernel
theorem d_M_readsSecret_45 : decode cX12_readsSecret 45 = .ok (.getfield 32, 3) := by decide +kernel
theorem d_M_readsSecret_48 : decode cX12_readsSecret 48 = .ok (.iload_n 1, 1) := by decide +kernel
theorem d_M_readsSecret_49 : decode cX12_readsSecret 49 = .ok (.aload_n 0, 1) := by decide +kernel
theorem d_M_readsSecret_50 : decode cX12_readsSecret 50 = .ok (.ldc2_w 300, 3) := by decide +kernel
theorem d_M_readsSecret_53 : decode cX12_readsSecret 53 = .ok (.invokevirtual 231, 3) := by decide +kernel
theorem d_M_readsSecret_56 : decode cX12_readsSecret 56 = .ok (.ifCond .eq 7, 3) := by decide +kernel
theorem d_M_readsSecret_59 : decode cX12_readsSecret 59 = .ok (.iconst 0, 1) := by decide +kernel
theorem d_M_readsSecret_60 : decode cX12_readsSecret 60 = .ok (.goto 18, 3) := by decide +kernel
theorem d_M_readsSecret_63 : decode cX12_readsSecret 63 = .ok (.aload_n 0, 1) := by decide +kernel
theorem d_M_readsSecret_64 : decode cX12_readsSecret 64 = .ok (.ldc2_w 302, 3) := by decide +kernel
theorem d_M_readsSecret_67 : decode cX12_readsSecret 67 = .ok (.invokevirtual 231, 3) := by decide +kernel
theorem d_M_readsSecret_70 : decode cX12_readsSecret 70 = .ok (.ifCond .eq 7, 3) := by decide +kernel
theorem d_M_readsSecret_73 : decode cX12_readsSecret 73 = .ok (.iconst 1, 1) := by decide +kernel
theorem d_M_readsSecret_74 : decode cX12_readsSecret 74 = .ok (.goto 4, 3) := by decide +kernel
theorem d_M_readsSecret_77 : decode cX12_readsSecret 77 = .ok (.iconst (-1), 1) := by decide +kernel
theorem d_M_readsSecret_78 : decode cX12_readsSecret 78 = .ok (.iastore, 1) := by decide +kernel
theorem d_M_readsSecret_79 : decode cX12_readsSecret 79 = .ok (.aload_n 0, 1) := by decide +kernel
theorem d_M_readsSecret_80 : decode cX12_readsSecret 80 = .ok (.getfield 32, 3) := by decide +kernel
theorem d_M_readsSecret_83 : decode cX12_readsSecret 83 = .ok (.iload_n 1, 1) := by decide +kernel
theorem d_M_readsSecret_84 : decode cX12_readsSecret 84 = .ok (.iaload, 1) := by decide +kernel
theorem d_M_readsSecret_85 : decode cX12_readsSecret 85 = .ok (.ifCond .ge 9, 3) := by decide +kernel
theorem d_M_readsSecret_88 : decode cX12_readsSecret 88 = .ok (.aload_n 0, 1) := by decide +kernel
theorem d_M_readsSecret_89 : decode cX12_readsSecret 89 = .ok (.iconst 1, 1) := by decide +kernel
theorem d_M_readsSecret_90 : decode cX12_readsSecret 90 = .ok (.invokevirtual 239, 3) := by decide +kernel
theorem d_M_readsSecret_93 : decode cX12_readsSecret 93 = .ok (.ireturn, 1) := by decide +kernel
theorem d_M_readsSecret_94 : decode cX12_readsSecret 94 = .ok (.aload_n 0, 1) := by decide +kernel
theorem d_M_readsSecret_95 : decode cX12_readsSecret 95 = .ok (.invokevirtual 246, 3) := by decide +kernel
theorem d_M_readsSecret_98 : decode cX12_readsSecret 98 = .ok (.aload_n 0, 1) := by decide +kernel
theorem d_M_readsSecret_99 : decode cX12_readsSecret 99 = .ok (.ldc2_w 270, 3) := by decide +kernel
theorem d_M_readsSecret_102 : decode cX12_readsSecret 102 = .ok (.invokevirtual 315, 3) := by decide +kernel
theorem d_M_readsSecret_105 : decode cX12_readsSecret 105 = .ok (.ifCond .eq 11, 3) := by decide +kernel
theorem d_M_readsSecret_108 : decode cX12_readsSecret 108 = .ok (.aload_n 0, 1) := by decide +kernel
theorem d_M_readsSecret_109 : decode cX12_readsSecret 109 = .ok (.iconst 1, 1) := by decide +kernel
theorem d_M_readsSecret_110 : decode cX12_readsSecret 110 = .ok (.invokevirtual 342, 3) := by decide +kernel
theorem d_M_readsSecret_113 : decode cX12_readsSecret 113 = .ok (.ifCond .ne 5, 3) := by decide +kernel
theorem d_M_readsSecret_116 : decode cX12_readsSecret 116 = .ok (.iconst 0, 1) := by decide +kernel
theorem d_M_readsSecret_117 : decode cX12_readsSecret 117 = .ok (.ireturn, 1) := by decide +kernel
theorem d_M_readsSecret_118 : decode cX12_readsSecret 118 = .ok (.aload_n 0, 1) := by decide +kernel
theorem d_M_readsSecret_119 : decode cX12_readsSecret 119 = .ok (.getfield 35, 3) := by decide +kernel
theorem d_M_readsSecret_122 : decode cX12_readsSecret 122 = .ok (.iload_n 1, 1) := by decide +kernel
theorem d_M_readsSecret_123 : decode cX12_readsSecret 123 = .ok (.aload_n 0, 1) := by decide +kernel
theorem d_M_readsSecret_124 : decode cX12_readsSecret 124 = .ok (.getfield 312, 3) := by decide +kernel
theorem d_M_readsSecret_127 : decode cX12_readsSecret 127 = .ok (.iastore, 1) := by decide +kernel
theorem d_M_readsSecret_128 : decode cX12_readsSecret 128 = .ok (.aload_n 0, 1) := by decide +kernel
theorem d_M_readsSecret_129 : decode cX12_readsSecret 129 = .ok (.invokevirtual 246, 3) := by decide +kernel
theorem d_M_readsSecret_132 : decode cX12_readsSecret 132 = .ok (.aload_n 0, 1) := by decide +kernel
theorem d_M_readsSecret_133 : decode cX12_readsSecret 133 = .ok (.ldc2_w 272, 3) := by decide +kernel
theorem d_M_readsSecret_136 : decode cX12_readsSecret 136 = .ok (.iconst 1, 1) := by decide +kernel
theorem d_M_readsSecret_137 : decode cX12_readsSecret 137 = .ok (.bipush 99, 2) := by decide +kernel
theorem d_M_readsSecret_139 : decode cX12_readsSecret 139 = .ok (.invokevirtual 335, 3) := by decide +kernel
theorem d_M_readsSecret_142 : decode cX12_readsSecret 142 = .ok (.ifCond .ne 5, 3) := by decide +kernel
theorem d_M_readsSecret_145 : decode cX12_readsSecret 145 = .ok (.iconst 0, 1) := by decide +kernel
theorem d_M_readsSecret_146 : decode cX12_readsSecret 146 = .ok (.ireturn, 1) := by decide +kernel
theorem d_M_readsSecret_147 : decode cX12_readsSecret 147 = .ok (.aload_n 0, 1) := by decide +kernel
theorem d_M_readsSecret_148 : decode cX12_readsSecret 148 = .ok (.getfield 38, 3) := by decide +kernel
theorem d_M_readsSecret_151 : decode cX12_readsSecret 151 = .ok (.iload_n 1, 1) := by decide +kernel
theorem d_M_readsSecret_152 : decode cX12_readsSecret 152 = .ok (.aload_n 0, 1) := by decide +kernel
theorem d_M_readsSecret_153 : decode cX12_readsSecret 153 = .ok (.getfield 312, 3) := by decide +kernel
theorem d_M_readsSecret_156 : decode cX12_readsSecret 156 = .ok (.iastore, 1) := by decide +kernel
theorem d_M_readsSecret_157 : decode cX12_readsSecret 157 = .ok (.aload_n 0, 1) := by decide +kernel
theorem d_M_readsSecret_158 : decode cX12_readsSecret 158 = .ok (.getfield 41, 3) := by decide +kernel
theorem d_M_readsSecret_161 : decode cX12_readsSecret 161 = .ok (.iload_n 1, 1) := by decide +kernel
theorem d_M_readsSecret_162 : decode cX12_readsSecret 162 = .ok (.iconst (-1), 1) := by decide +kernel
theorem d_M_readsSecret_163 : decode cX12_readsSecret 163 = .ok (.iastore, 1) := by decide +kernel
theorem d_M_readsSecret_164 : decode cX12_readsSecret 164 = .ok (.aload_n 0, 1) := by decide +kernel
theorem d_M_readsSecret_165 : decode cX12_readsSecret 165 = .ok (.ldc2_w 274, 3) := by decide +kernel
theorem d_M_readsSecret_168 : decode cX12_readsSecret 168 = .ok (.invokevirtual 231, 3) := by decide +kernel
theorem d_M_readsSecret_171 : decode cX12_readsSecret 171 = .ok (.ifCond .eq 31, 3) := by decide +kernel
theorem d_M_readsSecret_174 : decode cX12_readsSecret 174 = .ok (.aload_n 0, 1) := by decide +kernel
theorem d_M_readsSecret_175 : decode cX12_readsSecret 175 = .ok (.invokevirtual 246, 3) := by decide +kernel
theorem d_M_readsSecret_178 : decode cX12_readsSecret 178 = .ok (.aload_n 0, 1) := by decide +kernel
theorem d_M_readsSecret_179 : decode cX12_readsSecret 179 = .ok (.iconst 1, 1) := by decide +kernel
theorem d_M_readsSecret_180 : decode cX12_readsSecret 180 = .ok (.invokevirtual 345, 3) := by decide +kernel
theorem d_M_readsSecret_183 : decode cX12_readsSecret 183 = .ok (.ifCond .ne 5, 3) := by decide +kernel
theorem d_M_readsSecret_186 : decode cX12_readsSecret 186 = .ok (.iconst 0, 1) := by decide +kernel
theorem d_M_readsSecret_187 : decode cX12_readsSecret 187 = .ok (.ireturn, 1) := by decide +kernel
theorem d_M_readsSecret_188 : decode cX12_readsSecret 188 = .ok (.aload_n 0, 1) := by decide +kernel
theorem d_M_readsSecret_189 : decode cX12_readsSecret 189 = .ok (.getfield 41, 3) := by decide +kernel
theorem d_M_readsSecret_192 : decode cX12_readsSecret 192 = .ok (.iload_n 1, 1) := by decide +kernel
theorem d_M_readsSecret_193 : decode cX12_readsSecret 193 = .ok (.aload_n 0, 1) := by decide +kernel
theorem d_M_readsSecret_194 : decode cX12_readsSecret 194 = .ok (.getfield 312, 3) := by decide +kernel
theorem d_M_readsSecret_197 : decode cX12_readsSecret 197 = .ok (.iastore, 1) := by decide +kernel
theorem d_M_readsSecret_198 : decode cX12_readsSecret 198 = .ok (.aload_n 0, 1) := by decide +kernel
theorem d_M_readsSecret_199 : decode cX12_readsSecret 199 = .ok (.invokevirtual 246, 3) := by decide +kernel
theorem d_M_readsSecret_202 : decode cX12_readsSecret 202 = .ok (.aload_n 0, 1) := by decide +kernel
theorem d_M_readsSecret_203 : decode cX12_readsSecret 203 = .ok (.ldc2_w 276, 3) := by decide +kernel
theorem d_M_readsSecret_206 : decode cX12_readsSecret 206 = .ok (.invokevirtual 315, 3) := by decide +kernel
theorem d_M_readsSecret_209 : decode cX12_readsSecret 209 = .ok (.ifCond .eq 11, 3) := by decide +kernel
theorem d_M_readsSecret_212 : decode cX12_readsSecret 212 = .ok (.aload_n 0, 1) := by decide +kernel
theorem d_M_readsSecret_213 : decode cX12_readsSecret 213 = .ok (.iload_n 1, 1) := by decide +kernel
theorem d_M_readsSecret_214 : decode cX12_readsSecret 214 = .ok (.invokevirtual 348, 3) := by decide +kernel
theorem d_M_readsSecret_217 : decode cX12_readsSecret 217 = .ok (.ifCond .ne 5, 3) := by decide +kernel
theorem d_M_readsSecret_220 : decode cX12_readsSecret 220 = .ok (.iconst 0, 1) := by decide +kernel
theorem d_M_readsSecret_221 : decode cX12_readsSecret 221 = .ok (.ireturn, 1) := by decide +kernel
theorem d_M_readsSecret_222 : decode cX12_readsSecret 222 = .ok (.aload_n 0, 1) := by decide +kernel
theorem d_M_readsSecret_223 : decode cX12_readsSecret 223 = .ok (.getfield 47, 3) := by decide +kernel
theorem d_M_readsSecret_226 : decode cX12_readsSecret 226 = .ok (.iload_n 1, 1) := by decide +kernel
theorem d_M_readsSecret_227 : decode cX12_readsSecret 227 = .ok (.iconst 0, 1) := by decide +kernel
theorem d_M_readsSecret_228 : decode cX12_readsSecret 228 = .ok (.iastore, 1) := by decide +kernel
theorem d_M_readsSecret_229 : decode cX12_readsSecret 229 = .ok (.aload_n 0, 1) := by decide +kernel
theorem d_M_readsSecret_230 : decode cX12_readsSecret 230 = .ok (.getfield 20, 3) := by decide +kernel
theorem d_M_readsSecret_233 : decode cX12_readsSecret 233 = .ok (.iload_n 1, 1) := by decide +kernel
theorem d_M_readsSecret_234 : decode cX12_readsSecret 234 = .ok (.lload_n 2, 1) := by decide +kernel
theorem d_M_readsSecret_235 : decode cX12_readsSecret 235 = .ok (.lastore, 1) := by decide +kernel
theorem d_M_readsSecret_236 : decode cX12_readsSecret 236 = .ok (.aload_n 0, 1) := by decide +kernel
theorem d_M_readsSecret_237 : decode cX12_readsSecret 237 = .ok (.getfield 13, 3) := by decide +kernel
theorem d_M_readsSecret_240 : decode cX12_readsSecret 240 = .ok (.iconst 5, 1) := by decide +kernel
theorem d_M_readsSecret_241 : decode cX12_readsSecret 241 = .ok (.dup2, 1) := by decide +kernel
theorem d_M_readsSecret_242 : decode cX12_readsSecret 242 = .ok (.iaload, 1) := by decide +kernel
theorem d_M_readsSecret_243 : decode cX12_readsSecret 243 = .ok (.iconst 1, 1) := by decide +kernel
theorem d_M_readsSecret_244 : decode cX12_readsSecret 244 = .ok (.iadd, 1) := by decide +kernel
theorem d_M_readsSecret_245 : decode cX12_readsSecret 245 = .ok (.iastore, 1) := by decide +kernel
theorem d_M_readsSecret_246 : decode cX12_readsSecret 246 = .ok (.aload_n 0, 1) := by decide +kernel
theorem d_M_readsSecret_247 : decode cX12_readsSecret 247 = .ok (.invokevirtual 339, 3) := by decide +kernel
theorem d_M_readsSecret_250 : decode cX12_readsSecret 250 = .ok (.ireturn, 1) := by decide +kernel
noncomputable def f_M_readsSecret (h : mm_H) : Option (Int32 × mm_H) := mm_let (10 + (h.1 263 5)) fun y1 => if y1 = 20 then ((f_M_fails 5 h).bind fun v118 => (mm_bo v118.1).bind fun b119 => some (b119, v118.2)) else ((f_M_nextToken h).bind fun v4 => (f_M_isNew v4).bind fun v6 => if v6.1 = 0 then (some (0, v6.2)) else (mm_let (v6.2.2.1 261 7) fun y7 => (f_M_nextToken v6.2).bind fun v10 => (f_M_isWord (407354 : Int64) v10).bind fun v12 => (if v12 = 0 then ((f_M_isWord (3217595 : Int64) v10).bind fun v16 => if v16 = 0 then (some (-1)) else (some 1)) else (some 0) : Option Int32).bind fun j13 => (mm_ix y1 20).bind fun k23 => mm_let (mm_pI v10 269 k23 j13) fun h25 => (mm_ix y1 20).bind fun k27 => if 0 ≤ (h25.1 269 k27) then ((f_M_nextToken h25).bind fun v30 => (f_M_needsWord (411 : Int64) v30).bind fun v32 => if v32.1 = 0 then (some (0, v32.2)) else ((f_M_needsPerson 1 v32.2).bind fun v34 => if v34.1 = 0 then (some (0, v34.2)) else ((mm_ix y1 20).bind fun k35 => mm_let (mm_pI v34.2 270 k35 (v34.2.1 261 41)) fun h37 => (f_M_nextToken h37).bind fun v40 => (f_M_needsBoth (1903978 : Int64) 1 99 v40).bind fun v42 => if v42.1 = 0 then (some (0, v42.2)) else ((mm_ix y1 20).bind fun k43 => mm_let (mm_pI v42.2 271 k43 (v42.2.1 261 41)) fun h45 => (mm_ix y1 20).bind fun k47 => mm_let (mm_pI h45 272 k47 (-1)) fun h49 => (f_M_isWord (419 : Int64) h49).bind fun v52 => mm_jp (fun (j53 : mm_H) => ((f_M_needsWord (79 : Int64) j53).bind fun v57 => if v57.1 = 0 then (some (0, v57.2)) else ((f_M_readsKnowers y1 v57.2).bind fun v59 => if v59.1 = 0 then (some (0, v59.2)) else ((mm_ix y1 20).bind fun k60 => mm_let (mm_pI v59.2 274 k60 0) fun h62 => (mm_ix y1 20).bind fun k64 => mm_let (mm_pL h62 265 k64 y7) fun h66 => mm_let (mm_pI h66 263 5 ((h66.1 263 5) + 1)) fun h68 => (f_M_closes h68).bind fun v71 => (mm_bo v71.1).bind fun b72 => some (b72, v71.2))))) fun k55 => if v52 = 0 then (k55 h49) else ((f_M_nextToken h49).bind fun v81 => (f_M_needsSecret 1 v81).bind fun v83 => if v83.1 = 0 then (some (0, v83.2)) else ((mm_ix y1 20).bind fun k84 => mm_let (mm_pI v83.2 272 k84 (v83.2.1 261 41)) fun h86 => (f_M_nextToken h86).bind fun v89 => k55 v89)))))) else ((f_M_fails 1 h25).bind fun v107 => (mm_bo v107.1).bind fun b108 => some (b108, v107.2))))
theorem T_M_readsSecret (V : mm_V) (l : Launch) (h : mm_H) (r : (Int32 × mm_H)) (hf : f_M_readsSecret h = some r) : MT V l Y_M_readsSecret 5 [.ref 261] (fun r1 h1 => r1 = some (.int r.1) ∧ h1 = r.2) h := by
  unfold f_M_readsSecret at hf
  refine MT.intro (pn_M rfl) [(0, .ref 261)] rfl (Nat.le_of_ble_eq_true rfl) ?_
  generalize hZ : mm_Z V _ = Z0
  refine MM.bipush bp_10 d_M_readsSecret_0 rfl ?_
  refine MM.aload_n (i := 0) rfl rfl d_M_readsSecret_2 rfl ?_
  refine MM.gR 9 2 tg_261 rq_9_10 rfl lays_9 ww_1368 d_M_readsSecret_3 rfl ?_
  refine MM.iconst ic_5 d_M_readsSecret_6 rfl ?_
  refine MM.gI ix_5_8 al_263 d_M_readsSecret_7 rfl ?_
  refine MM.iadd d_M_readsSecret_8 rfl ?_
  obtain ⟨y1, e2, hf⟩ := mm_letE hf
  refine MM.istore_n (i := 1) (lv' := [(1, .int y1), (0, .ref 261)]) e2 rfl (Nat.le_of_ble_eq_true rfl) rfl d_M_readsSecret_9 rfl ?_
  refine MM.iload_n (i := 1) rfl rfl d_M_readsSecret_10 rfl ?_
  refine MM.bipush bp_20 d_M_readsSecret_11 rfl ?_
  obtain ⟨m122, m123⟩ := mm_ifE hf
  refine MM.icmp_ne (tgt := 22) d_M_readsSecret_13 rfl rfl (fun c121 => ?_) (fun c121 => ?_)
  · replace hf := m123 c121
    refine MM.aload_n (i := 0) rfl rfl d_M_readsSecret_22 rfl ?_
    obtain ⟨v4, e3, hf⟩ := mm_bind hf
    refine MM.callV0 (T_M_nextToken V l  h _ e3) (fun _ _ q => q) cal_M_nextToken rfl tg_261 ct_9 ww_39 ww_1593 ww_1591 (by decide) (by simp [Value.category]) d_M_readsSecret_23 rfl ⟨rfl, rfl⟩ rfl ?_
    refine MM.aload_n (i := 0) rfl rfl d_M_readsSecret_26 rfl ?_
    obtain ⟨v6, e5, hf⟩ := mm_bind hf
    refine MM.callV1 (T_M_isNew V l  v4 _ e5) (fun _ _ q => q) cal_M_isNew rfl tg_261 ct_9 ww_44 ww_1616 ww_1614 (by decide) (by simp [Value.category]) d_M_readsSecret_27 rfl ⟨rfl, rfl⟩ rfl ?_
    obtain ⟨m115, m116⟩ := mm_ifE hf
    refine MM.if_ne (tgt := 35) d_M_readsSecret_30 rfl rfl (fun c114 => ?_) (fun c114 => ?_)
    · replace hf := m116 c114
      refine MM.aload_n (i := 0) rfl rfl d_M_readsSecret_35 rfl ?_
      refine MM.getL 9 tg_261 lays_9 gq_9_7 ww_1365 d_M_readsSecret_36 rfl ?_
      obtain ⟨y7, e8, hf⟩ := mm_letE hf
      refine MM.lstore_n (i := 2) (lv' := [(2, .long y7), (1, .int y1), (0, .ref 261)]) e8 rfl (Nat.le_of_ble_eq_true rfl) rfl d_M_readsSecret_39 rfl ?_
      refine MM.aload_n (i := 0) rfl rfl d_M_readsSecret_40 rfl ?_
      obtain ⟨v10, e9, hf⟩ := mm_bind hf
      refine MM.callV0 (T_M_nextToken V l  v6.2 _ e9) (fun _ _ q => q) cal_M_nextToken rfl tg_261 ct_9 ww_39 ww_1593 ww_1591 (by decide) (by simp [Value.category]) d_M_readsSecret_41 rfl ⟨rfl, rfl⟩ rfl ?_
      refine MM.aload_n (i := 0) rfl rfl d_M_readsSecret_44 rfl ?_
      refine MM.gR 9 8 tg_261 rq_9_16 rfl lays_9 ww_1374 d_M_readsSecret_45 rfl ?_
      refine MM.iload_n (i := 1) rfl rfl d_M_readsSecret_48 rfl ?_
      refine MM.aload_n (i := 0) rfl rfl d_M_readsSecret_49 rfl ?_
      refine MM.ldc2 ww_1640 d_M_readsSecret_50 rfl ?_
      obtain ⟨v12, e11, hf⟩ := mm_bind hf
      refine MM.callV1 (T_M_isWord V l (407354 : Int64) v10 _ e11) (fun _ _ q => q) cal_M_isWord rfl tg_261 ct_9 ww_41 ww_1604 ww_1602 (by decide) (by simp [Value.category]) d_M_readsSecret_53 rfl ⟨rfl, rfl⟩ rfl ?_
      obtain ⟨j13, e113, hf⟩ := mm_bind hf
      have K14 : MM V l Y_M_readsSecret 5 0 0 Z0 78 [(0, .ref 261), (1, .int y1), (2, .long y7)] [.int j13, .int y1, .ref 269] v10 := by
        obtain ⟨k23, e24, hf⟩ := mm_bind hf
        obtain ⟨h25, e26, hf⟩ := mm_letE hf
        refine MM.sI e24 e26 al_269 d_M_readsSecret_78 rfl ?_
        refine MM.aload_n (i := 0) rfl rfl d_M_readsSecret_79 rfl ?_
        refine MM.gR 9 8 tg_261 rq_9_16 rfl lays_9 ww_1374 d_M_readsSecret_80 rfl ?_
        refine MM.iload_n (i := 1) rfl rfl d_M_readsSecret_83 rfl ?_
        obtain ⟨k27, e28, hf⟩ := mm_bind hf
        refine MM.gI e28 al_269 d_M_readsSecret_84 rfl ?_
        obtain ⟨m111, m112⟩ := mm_ifE hf
        refine MM.if_ge (tgt := 94) d_M_readsSecret_85 rfl rfl (fun c110 => ?_) (fun c110 => ?_)
        · replace hf := m111 c110
          refine MM.aload_n (i := 0) rfl rfl d_M_readsSecret_94 rfl ?_
          obtain ⟨v30, e29, hf⟩ := mm_bind hf
          refine MM.callV0 (T_M_nextToken V l  h25 _ e29) (fun _ _ q => q) cal_M_nextToken rfl tg_261 ct_9 ww_39 ww_1593 ww_1591 (by decide) (by simp [Value.category]) d_M_readsSecret_95 rfl ⟨rfl, rfl⟩ rfl ?_
          refine MM.aload_n (i := 0) rfl rfl d_M_readsSecret_98 rfl ?_
          refine MM.ldc2 ww_1625 d_M_readsSecret_99 rfl ?_
          obtain ⟨v32, e31, hf⟩ := mm_bind hf
          refine MM.callV1 (T_M_needsWord V l (411 : Int64) v30 _ e31) (fun _ _ q => q) cal_M_needsWord rfl tg_261 ct_9 ww_49 ww_1662 ww_1660 (by decide) (by simp [Value.category]) d_M_readsSecret_102 rfl ⟨rfl, rfl⟩ rfl ?_
          obtain ⟨m104, m105⟩ := mm_ifE hf
          refine MM.if_eq (tgt := 116) d_M_readsSecret_105 rfl rfl (fun c103 => ?_) (fun c103 => ?_)
          · replace hf := m104 c103
            refine MM.iconst ic_0 d_M_readsSecret_116 rfl ?_
            obtain rfl := Option.some.inj hf
            subst hZ
            exact MM.zret (Or.inl rfl) rfl d_M_readsSecret_117 ⟨rfl, rfl⟩
          · replace hf := m105 c103
            refine MM.aload_n (i := 0) rfl rfl d_M_readsSecret_108 rfl ?_
            refine MM.iconst ic_1 d_M_readsSecret_109 rfl ?_
            obtain ⟨v34, e33, hf⟩ := mm_bind hf
            refine MM.callV1 (T_M_needsPerson V l 1 v32.2 _ e33) (fun _ _ q => q) cal_M_needsPerson rfl tg_261 ct_9 ww_54 ww_1685 ww_1683 (by decide) (by simp [Value.category]) d_M_readsSecret_110 rfl ⟨rfl, rfl⟩ rfl ?_
            obtain ⟨m101, m102⟩ := mm_ifE hf
            refine MM.if_ne (tgt := 118) d_M_readsSecret_113 rfl rfl (fun c100 => ?_) (fun c100 => ?_)
            · replace hf := m102 c100
              refine MM.aload_n (i := 0) rfl rfl d_M_readsSecret_118 rfl ?_
              refine MM.gR 9 9 tg_261 rq_9_17 rfl lays_9 ww_1375 d_M_readsSecret_119 rfl ?_
              refine MM.iload_n (i := 1) rfl rfl d_M_readsSecret_122 rfl ?_
              refine MM.aload_n (i := 0) rfl rfl d_M_readsSecret_123 rfl ?_
              refine MM.getI 9 tg_261 lays_9 gq_9_41 ww_1399 d_M_readsSecret_124 rfl ?_
              obtain ⟨k35, e36, hf⟩ := mm_bind hf
              obtain ⟨h37, e38, hf⟩ := mm_letE hf
              refine MM.sI e36 e38 al_270 d_M_readsSecret_127 rfl ?_
              refine MM.aload_n (i := 0) rfl rfl d_M_readsSecret_128 rfl ?_
              obtain ⟨v40, e39, hf⟩ := mm_bind hf
              refine MM.callV0 (T_M_nextToken V l  h37 _ e39) (fun _ _ q => q) cal_M_nextToken rfl tg_261 ct_9 ww_39 ww_1593 ww_1591 (by decide) (by simp [Value.category]) d_M_readsSecret_129 rfl ⟨rfl, rfl⟩ rfl ?_
              refine MM.aload_n (i := 0) rfl rfl d_M_readsSecret_132 rfl ?_
              refine MM.ldc2 ww_1626 d_M_readsSecret_133 rfl ?_
              refine MM.iconst ic_1 d_M_readsSecret_136 rfl ?_
              refine MM.bipush bp_99 d_M_readsSecret_137 rfl ?_
              obtain ⟨v42, e41, hf⟩ := mm_bind hf
              refine MM.callV1 (T_M_needsBoth V l (1903978 : Int64) 1 99 v40 _ e41) (fun _ _ q => q) cal_M_needsBoth rfl tg_261 ct_9 ww_48 ww_1658 ww_1656 (by decide) (by simp [Value.category]) d_M_readsSecret_139 rfl ⟨rfl, rfl⟩ rfl ?_
              obtain ⟨m98, m99⟩ := mm_ifE hf
              refine MM.if_ne (tgt := 147) d_M_readsSecret_142 rfl rfl (fun c97 => ?_) (fun c97 => ?_)
              · replace hf := m99 c97
                refine MM.aload_n (i := 0) rfl rfl d_M_readsSecret_147 rfl ?_
                refine MM.gR 9 10 tg_261 rq_9_18 rfl lays_9 ww_1376 d_M_readsSecret_148 rfl ?_
                refine MM.iload_n (i := 1) rfl rfl d_M_readsSecret_151 rfl ?_
                refine MM.aload_n (i := 0) rfl rfl d_M_readsSecret_152 rfl ?_
                refine MM.getI 9 tg_261 lays_9 gq_9_41 ww_1399 d_M_readsSecret_153 rfl ?_
                obtain ⟨k43, e44, hf⟩ := mm_bind hf
                obtain ⟨h45, e46, hf⟩ := mm_letE hf
                refine MM.sI e44 e46 al_271 d_M_readsSecret_156 rfl ?_
                refine MM.aload_n (i := 0) rfl rfl d_M_readsSecret_157 rfl ?_
                refine MM.gR 9 11 tg_261 rq_9_19 rfl lays_9 ww_1377 d_M_readsSecret_158 rfl ?_
                refine MM.iload_n (i := 1) rfl rfl d_M_readsSecret_161 rfl ?_
                refine MM.iconst ic_m1 d_M_readsSecret_162 rfl ?_
                obtain ⟨k47, e48, hf⟩ := mm_bind hf
                obtain ⟨h49, e50, hf⟩ := mm_letE hf
                refine MM.sI e48 e50 al_272 d_M_readsSecret_163 rfl ?_
                refine MM.aload_n (i := 0) rfl rfl d_M_readsSecret_164 rfl ?_
                refine MM.ldc2 ww_1627 d_M_readsSecret_165 rfl ?_
                obtain ⟨v52, e51, hf⟩ := mm_bind hf
                refine MM.callV1 (T_M_isWord V l (419 : Int64) h49 _ e51) (fun _ _ q => q) cal_M_isWord rfl tg_261 ct_9 ww_41 ww_1604 ww_1602 (by decide) (by simp [Value.category]) d_M_readsSecret_168 rfl ⟨rfl, rfl⟩ rfl ?_
                obtain ⟨k55, e96, hf⟩ := mm_jpE hf
                have K54 : ∀ j53, k55 j53 = some r → MM V l Y_M_readsSecret 5 0 0 Z0 202 [(0, .ref 261), (1, .int y1), (2, .long y7)] [] j53 := by
                  intro j53 hf
                  rw [e96] at hf
                  refine MM.aload_n (i := 0) rfl rfl d_M_readsSecret_202 rfl ?_
                  refine MM.ldc2 ww_1628 d_M_readsSecret_203 rfl ?_
                  obtain ⟨v57, e56, hf⟩ := mm_bind hf
                  refine MM.callV1 (T_M_needsWord V l (79 : Int64) j53 _ e56) (fun _ _ q => q) cal_M_needsWord rfl tg_261 ct_9 ww_49 ww_1662 ww_1660 (by decide) (by simp [Value.category]) d_M_readsSecret_206 rfl ⟨rfl, rfl⟩ rfl ?_
                  obtain ⟨m78, m79⟩ := mm_ifE hf
                  refine MM.if_eq (tgt := 220) d_M_readsSecret_209 rfl rfl (fun c77 => ?_) (fun c77 => ?_)
                  · replace hf := m78 c77
                    refine MM.iconst ic_0 d_M_readsSecret_220 rfl ?_
                    obtain rfl := Option.some.inj hf
                    subst hZ
                    exact MM.zret (Or.inl rfl) rfl d_M_readsSecret_221 ⟨rfl, rfl⟩
                  · replace hf := m79 c77
                    refine MM.aload_n (i := 0) rfl rfl d_M_readsSecret_212 rfl ?_
                    refine MM.iload_n (i := 1) rfl rfl d_M_readsSecret_213 rfl ?_
                    obtain ⟨v59, e58, hf⟩ := mm_bind hf
                    refine MM.callV1 (T_M_readsKnowers V l y1 v57.2 _ e58) (fun _ _ q => q) cal_M_readsKnowers rfl tg_261 ct_9 ww_56 ww_1693 ww_1691 (by decide) (by simp [Value.category]) d_M_readsSecret_214 rfl ⟨rfl, rfl⟩ rfl ?_
                    obtain ⟨m75, m76⟩ := mm_ifE hf
                    refine MM.if_ne (tgt := 222) d_M_readsSecret_217 rfl rfl (fun c74 => ?_) (fun c74 => ?_)
                    · replace hf := m76 c74
                      refine MM.aload_n (i := 0) rfl rfl d_M_readsSecret_222 rfl ?_
                      refine MM.gR 9 13 tg_261 rq_9_21 rfl lays_9 ww_1379 d_M_readsSecret_223 rfl ?_
                      refine MM.iload_n (i := 1) rfl rfl d_M_readsSecret_226 rfl ?_
                      refine MM.iconst ic_0 d_M_readsSecret_227 rfl ?_
                      obtain ⟨k60, e61, hf⟩ := mm_bind hf
                      obtain ⟨h62, e63, hf⟩ := mm_letE hf
                      refine MM.sI e61 e63 al_274 d_M_readsSecret_228 rfl ?_
                      refine MM.aload_n (i := 0) rfl rfl d_M_readsSecret_229 rfl ?_
                      refine MM.gR 9 4 tg_261 rq_9_12 rfl lays_9 ww_1370 d_M_readsSecret_230 rfl ?_
                      refine MM.iload_n (i := 1) rfl rfl d_M_readsSecret_233 rfl ?_
                      refine MM.lload_n (i := 2) rfl rfl d_M_readsSecret_234 rfl ?_
                      obtain ⟨k64, e65, hf⟩ := mm_bind hf
                      obtain ⟨h66, e67, hf⟩ := mm_letE hf
                      refine MM.sL e65 e67 al_265 d_M_readsSecret_235 rfl ?_
                      refine MM.aload_n (i := 0) rfl rfl d_M_readsSecret_236 rfl ?_
                      refine MM.gR 9 2 tg_261 rq_9_10 rfl lays_9 ww_1368 d_M_readsSecret_237 rfl ?_
                      refine MM.iconst ic_5 d_M_readsSecret_240 rfl ?_
                      refine MM.dup2 rfl rfl d_M_readsSecret_241 rfl ?_
                      refine MM.gI ix_5_8 al_263 d_M_readsSecret_242 rfl ?_
                      refine MM.iconst ic_1 d_M_readsSecret_243 rfl ?_
                      refine MM.iadd d_M_readsSecret_244 rfl ?_
                      obtain ⟨h68, e69, hf⟩ := mm_letE hf
                      refine MM.sI ix_5_8 e69 al_263 d_M_readsSecret_245 rfl ?_
                      refine MM.aload_n (i := 0) rfl rfl d_M_readsSecret_246 rfl ?_
                      obtain ⟨v71, e70, hf⟩ := mm_bind hf
                      refine MM.callV1 (T_M_closes V l  h68 _ e70) (fun _ _ q => q) cal_M_closes rfl tg_261 ct_9 ww_51 ww_1673 ww_1671 (by decide) (by simp [Value.category]) d_M_readsSecret_247 rfl ⟨rfl, rfl⟩ rfl ?_
                      obtain ⟨b72, e73, hf⟩ := mm_bind hf
                      obtain ⟨ob72, e73⟩ := mm_boE e73
                      subst e73
                      obtain rfl := Option.some.inj hf
                      subst hZ
                      exact MM.zret ob72 rfl d_M_readsSecret_250 ⟨rfl, rfl⟩
                    · replace hf := m75 c74
                      refine MM.iconst ic_0 d_M_readsSecret_220 rfl ?_
                      obtain rfl := Option.some.inj hf
                      subst hZ
                      exact MM.zret (Or.inl rfl) rfl d_M_readsSecret_221 ⟨rfl, rfl⟩
                clear e96
                obtain ⟨m94, m95⟩ := mm_ifE hf
                refine MM.if_eq (tgt := 202) d_M_readsSecret_171 rfl rfl (fun c93 => ?_) (fun c93 => ?_)
                · replace hf := m94 c93
                  exact MM.sub [0, 1, 2] (by rfl) (K54 _ hf)
                · replace hf := m95 c93
                  refine MM.aload_n (i := 0) rfl rfl d_M_readsSecret_174 rfl ?_
                  obtain ⟨v81, e80, hf⟩ := mm_bind hf
                  refine MM.callV0 (T_M_nextToken V l  h49 _ e80) (fun _ _ q => q) cal_M_nextToken rfl tg_261 ct_9 ww_39 ww_1593 ww_1591 (by decide) (by simp [Value.category]) d_M_readsSecret_175 rfl ⟨rfl, rfl⟩ rfl ?_
                  refine MM.aload_n (i := 0) rfl rfl d_M_readsSecret_178 rfl ?_
                  refine MM.iconst ic_1 d_M_readsSecret_179 rfl ?_
                  obtain ⟨v83, e82, hf⟩ := mm_bind hf
                  refine MM.callV1 (T_M_needsSecret V l 1 v81 _ e82) (fun _ _ q => q) cal_M_needsSecret rfl tg_261 ct_9 ww_55 ww_1689 ww_1687 (by decide) (by simp [Value.category]) d_M_readsSecret_180 rfl ⟨rfl, rfl⟩ rfl ?_
                  obtain ⟨m91, m92⟩ := mm_ifE hf
                  refine MM.if_ne (tgt := 188) d_M_readsSecret_183 rfl rfl (fun c90 => ?_) (fun c90 => ?_)
                  · replace hf := m92 c90
                    refine MM.aload_n (i := 0) rfl rfl d_M_readsSecret_188 rfl ?_
                    refine MM.gR 9 11 tg_261 rq_9_19 rfl lays_9 ww_1377 d_M_readsSecret_189 rfl ?_
                    refine MM.iload_n (i := 1) rfl rfl d_M_readsSecret_192 rfl ?_
                    refine MM.aload_n (i := 0) rfl rfl d_M_readsSecret_193 rfl ?_
                    refine MM.getI 9 tg_261 lays_9 gq_9_41 ww_1399 d_M_readsSecret_194 rfl ?_
                    obtain ⟨k84, e85, hf⟩ := mm_bind hf
                    obtain ⟨h86, e87, hf⟩ := mm_letE hf
                    refine MM.sI e85 e87 al_272 d_M_readsSecret_197 rfl ?_
                    refine MM.aload_n (i := 0) rfl rfl d_M_readsSecret_198 rfl ?_
                    obtain ⟨v89, e88, hf⟩ := mm_bind hf
                    refine MM.callV0 (T_M_nextToken V l  h86 _ e88) (fun _ _ q => q) cal_M_nextToken rfl tg_261 ct_9 ww_39 ww_1593 ww_1591 (by decide) (by simp [Value.category]) d_M_readsSecret_199 rfl ⟨rfl, rfl⟩ rfl ?_
                    exact MM.sub [0, 1, 2] (by rfl) (K54 _ hf)
                  · replace hf := m91 c90
                    refine MM.iconst ic_0 d_M_readsSecret_186 rfl ?_
                    obtain rfl := Option.some.inj hf
                    subst hZ
                    exact MM.zret (Or.inl rfl) rfl d_M_readsSecret_187 ⟨rfl, rfl⟩
              · replace hf := m98 c97
                refine MM.iconst ic_0 d_M_readsSecret_145 rfl ?_
                obtain rfl := Option.some.inj hf
                subst hZ
                exact MM.zret (Or.inl rfl) rfl d_M_readsSecret_146 ⟨rfl, rfl⟩
            · replace hf := m101 c100
              refine MM.iconst ic_0 d_M_readsSecret_116 rfl ?_
              obtain rfl := Option.some.inj hf
              subst hZ
              exact MM.zret (Or.inl rfl) rfl d_M_readsSecret_117 ⟨rfl, rfl⟩
        · replace hf := m112 c110
          refine MM.aload_n (i := 0) rfl rfl d_M_readsSecret_88 rfl ?_
          refine MM.iconst ic_1 d_M_readsSecret_89 rfl ?_
          obtain ⟨v107, e106, hf⟩ := mm_bind hf
          refine MM.callV1 (T_M_fails V l 1 h25 _ e106) (fun _ _ q => q) cal_M_fails rfl tg_261 ct_9 ww_43 ww_1612 ww_1610 (by decide) (by simp [Value.category]) d_M_readsSecret_90 rfl ⟨rfl, rfl⟩ rfl ?_
          obtain ⟨b108, e109, hf⟩ := mm_bind hf
          obtain ⟨ob108, e109⟩ := mm_boE e109
          subst e109
          obtain rfl := Option.some.inj hf
          subst hZ
          exact MM.zret ob108 rfl d_M_readsSecret_93 ⟨rfl, rfl⟩
      clear hf
      have hf := e113
      clear e113
      obtain ⟨m21, m22⟩ := mm_ifE hf
      refine MM.if_eq (tgt := 63) d_M_readsSecret_56 rfl rfl (fun c20 => ?_) (fun c20 => ?_)
      · replace hf := m21 c20
        refine MM.aload_n (i := 0) rfl rfl d_M_readsSecret_63 rfl ?_
        refine MM.ldc2 ww_1641 d_M_readsSecret_64 rfl ?_
        obtain ⟨v16, e15, hf⟩ := mm_bind hf
        refine MM.callV1 (T_M_isWord V l (3217595 : Int64) v10 _ e15) (fun _ _ q => q) cal_M_isWord rfl tg_261 ct_9 ww_41 ww_1604 ww_1602 (by decide) (by simp [Value.category]) d_M_readsSecret_67 rfl ⟨rfl, rfl⟩ rfl ?_
        obtain ⟨m18, m19⟩ := mm_ifE hf
        refine MM.if_eq (tgt := 77) d_M_readsSecret_70 rfl rfl (fun c17 => ?_) (fun c17 => ?_)
        · replace hf := m18 c17
          refine MM.iconst ic_m1 d_M_readsSecret_77 rfl ?_
          obtain rfl := Option.some.inj hf
          exact MM.sub [2, 1, 0] (by rfl) K14
        · replace hf := m19 c17
          refine MM.iconst ic_1 d_M_readsSecret_73 rfl ?_
          refine MM.goto (tgt := 78) d_M_readsSecret_74 rfl ?_
          obtain rfl := Option.some.inj hf
          exact MM.sub [2, 1, 0] (by rfl) K14
      · replace hf := m22 c20
        refine MM.iconst ic_0 d_M_readsSecret_59 rfl ?_
        refine MM.goto (tgt := 78) d_M_readsSecret_60 rfl ?_
        obtain rfl := Option.some.inj hf
        exact MM.sub [2, 1, 0] (by rfl) K14
    · replace hf := m115 c114
      refine MM.iconst ic_0 d_M_readsSecret_33 rfl ?_
      obtain rfl := Option.some.inj hf
      subst hZ
      exact MM.zret (Or.inl rfl) rfl d_M_readsSecret_34 ⟨rfl, rfl⟩
  · replace hf := m122 c121
    refine MM.aload_n (i := 0) rfl rfl d_M_readsSecret_16 rfl ?_
    refine MM.iconst ic_5 d_M_readsSecret_17 rfl ?_
    obtain ⟨v118, e117, hf⟩ := mm_bind hf
    refine MM.callV1 (T_M_fails V l 5 h _ e117) (fun _ _ q => q) cal_M_fails rfl tg_261 ct_9 ww_43 ww_1612 ww_1610 (by decide) (by simp [Value.category]) d_M_readsSecret_18 rfl ⟨rfl, rfl⟩ rfl ?_
    obtain ⟨b119, e120, hf⟩ := mm_bind hf
    obtain ⟨ob119, e120⟩ := mm_boE e120
    subst e120
    obtain rfl := Option.some.inj hf
    subst hZ
    exact MM.zret ob119 rfl d_M_readsSecret_21 ⟨rfl, rfl⟩
theorem d_M_readsEar_0 : decode cX12_readsEar 0 = .ok (.aload_n 0, 1) := by decide +kernel
theorem d_M_readsEar_1 : decode cX12_readsEar 1 = .ok (.invokevirtual 246, 3) := by decide +kernel
theorem d_M_readsEar_4 : decode cX12_readsEar 4 = .ok (.aload_n 0, 1) := by decide +kernel
theorem d_M_readsEar_5 : decode cX12_readsEar 5 = .ok (.iconst 1, 1) := by decide +kernel
theorem d_M_readsEar_6 : decode cX12_readsEar 6 = .ok (.invokevirtual 342, 3) := by decide +kernel
theorem d_M_readsEar_9 : decode cX12_readsEar 9 = .ok (.ifCond .ne 5, 3) := by decide +kernel
theorem d_M_readsEar_12 : decode cX12_readsEar 12 = .ok (.iconst 0, 1) := by decide +kernel
theorem d_M_readsEar_13 : decode cX12_readsEar 13 = .ok (.ireturn, 1) := by decide +kernel
theorem d_M_readsEar_14 : decode cX12_readsEar 14 = .ok (.aload_n 0, 1) := by decide +kernel
theorem d_M_readsEar_15 : decode cX12_readsEar 15 = .ok (.getfield 312, 3) := by decide +kernel
theorem d_M_readsEar_18 : decode cX12_readsEar 18 = .ok (.istore_n 1, 1) := by decide +kernel
theorem d_M_readsEar_19 : decode cX12_readsEar 19 = .ok (.aload_n 0, 1) := by decide +kernel
theorem d_M_readsEar_20 : decode cX12_readsEar 20 = .ok (.invokevirtual 246, 3) := by decide +kernel
theorem d_M_readsEar_23 : decode cX12_readsEar 23 = .ok (.aload_n 0, 1) := by decide +kernel
theorem d_M_readsEar_24 : decode cX12_readsEar 24 = .ok (.iconst 1, 1) := by decide +kernel
theorem d_M_readsEar_25 : decode cX12_readsEar 25 = .ok (.invokevirtual 342, 3) := by decide +kernel
theorem d_M_readsEar_28 : decode cX12_readsEar 28 = .ok (.ifCond .ne 5, 3) := by decide +kernel
theorem d_M_readsEar_31 : decode cX12_readsEar 31 = .ok (.iconst 0, 1) := by decide +kernel
theorem d_M_readsEar_32 : decode cX12_readsEar 32 = .ok (.ireturn, 1) := by decide +kernel
theorem d_M_readsEar_33 : decode cX12_readsEar 33 = .ok (.aload_n 0, 1) := by decide +kernel
theorem d_M_readsEar_34 : decode cX12_readsEar 34 = .ok (.getfield 312, 3) := by decide +kernel
theorem d_M_readsEar_37 : decode cX12_readsEar 37 = .ok (.istore_n 2, 1) := by decide +kernel
theorem d_M_readsEar_38 : decode cX12_readsEar 38 = .ok (.iload_n 1, 1) := by decide +kernel
theorem d_M_readsEar_39 : decode cX12_readsEar 39 = .ok (.iload_n 2, 1) := by decide +kernel
theorem d_M_readsEar_40 : decode cX12_readsEar 40 = .ok (.if_icmp .ne 9, 3) := by decide +kernel
theorem d_M_readsEar_43 : decode cX12_readsEar 43 = .ok (.aload_n 0, 1) := by decide +kernel
theorem d_M_readsEar_44 : decode cX12_readsEar 44 = .ok (.iconst 3, 1) := by decide +kernel
theorem d_M_readsEar_45 : decode cX12_readsEar 45 = .ok (.invokevirtual 239, 3) := by decide +kernel
theorem d_M_readsEar_48 : decode cX12_readsEar 48 = .ok (.ireturn, 1) := by decide +kernel
theorem d_M_readsEar_49 : decode cX12_readsEar 49 = .ok (.bipush 30, 2) := by decide +kernel
theorem d_M_readsEar_51 : decode cX12_readsEar 51 = .ok (.aload_n 0, 1) := by decide +kernel
theorem d_M_readsEar_52 : decode cX12_readsEar 52 = .ok (.getfield 13, 3) := by decide +kernel
theorem d_M_readsEar_55 : decode cX12_readsEar 55 = .ok (.bipush 6, 2) := by decide +kernel
theorem d_M_readsEar_57 : decode cX12_readsEar 57 = .ok (.iaload, 1) := by decide +kernel
theorem d_M_readsEar_58 : decode cX12_readsEar 58 = .ok (.iadd, 1) := by decide +kernel
theorem d_M_readsEar_59 : decode cX12_readsEar 59 = .ok (.istore_n 3, 1) := by decide +kernel
theorem d_M_readsEar_60 : decode cX12_readsEar 60 = .ok (.bipush 30, 2) := by decide +kernel
theorem d_M_readsEar_62 : decode cX12_readsEar 62 = .ok (.istore 4, 2) := by decide +kernel
theorem d_M_readsEar_64 : decode cX12_readsEar 64 = .ok (.iload 4, 2) := by decide +kernel
theorem d_M_readsEar_66 : decode cX12_readsEar 66 = .ok (.iload_n 3, 1) := by decide +kernel
theorem d_M_readsEar_67 : decode cX12_readsEar 67 = .ok (.if_icmp .ge 37, 3) := by decide +kernel
theorem d_M_readsEar_70 : decode cX12_readsEar 70 = .ok (.aload_n 0, 1) := by decide +kernel
theorem d_M_readsEar_71 : decode cX12_readsEar 71 = .ok (.getfield 50, 3) := by decide +kernel
theorem d_M_readsEar_74 : decode cX12_readsEar 74 = .ok (.iload 4, 2) := by decide +kernel
theorem d_M_readsEar_76 : decode cX12_readsEar 76 = .ok (.iaload, 1) := by decide +kernel
theorem d_M_readsEar_77 : decode cX12_readsEar 77 = .ok (.iload_n 1, 1) := by decide +kernel
theorem d_M_readsEar_78 : decode cX12_readsEar 78 = .ok (.if_icmp .ne 20, 3) := by decide +kernel
theorem d_M_readsEar_81 : decode cX12_readsEar 81 = .ok (.aload_n 0, 1) := by decide +kernel
theorem d_M_readsEar_82 : decode cX12_readsEar 82 = .ok (.getfield 53, 3) := by decide +kernel
theorem d_M_readsEar_85 : decode cX12_readsEar 85 = .ok (.iload 4, 2) := by decide +kernel
theorem d_M_readsEar_87 : decode cX12_readsEar 87 = .ok (.iaload, 1) := by decide +kernel
theorem d_M_readsEar_88 : decode cX12_readsEar 88 = .ok (.iload_n 2, 1) := by decide +kernel
theorem d_M_readsEar_89 : decode cX12_readsEar 89 = .ok (.if_icmp .ne 9, 3) := by decide +kernel
theorem d_M_readsEar_92 : decode cX12_readsEar 92 = .ok (.aload_n 0, 1) := by decide +kernel
theorem d_M_readsEar_93 : decode cX12_readsEar 93 = .ok (.iconst 3, 1) := by decide +kernel
theorem d_M_readsEar_94 : decode cX12_readsEar 94 = .ok (.invokevirtual 239, 3) := by decide +kernel
theorem d_M_readsEar_97 : decode cX12_readsEar 97 = .ok (.ireturn, 1) := by decide +kernel
theorem d_M_readsEar_98 : decode cX12_readsEar 98 = .ok (.iinc 4 1, 3) := by decide +kernel
theorem d_M_readsEar_101 : decode cX12_readsEar 101 = .ok (.goto (-37), 3) := by decide +kernel
theorem d_M_readsEar_104 : decode cX12_readsEar 104 = .ok (.aload_n 0, 1) := by decide +kernel
theorem d_M_readsEar_105 : decode cX12_readsEar 105 = .ok (.invokevirtual 246, 3) := by decide +kernel
theorem d_M_readsEar_108 : decode cX12_readsEar 108 = .ok (.aload_n 0, 1) := by decide +kernel
theorem d_M_readsEar_109 : decode cX12_readsEar 109 = .ok (.iconst 0, 1) := by decide +kernel
theorem d_M_readsEar_110 : decode cX12_readsEar 110 = .ok (.bipush 10, 2) := by decide +kernel
theorem d_M_readsEar_112 : decode cX12_readsEar 112 = .ok (.invokevirtual 318, 3) := by decide +kernel
theorem d_M_readsEar_115 : decode cX12_readsEar 115 = .ok (.ifCond .ne 5, 3) := by decide +kernel
theorem d_M_readsEar_118 : decode cX12_readsEar 118 = .ok (.iconst 0, 1) := by decide +kernel
theorem d_M_readsEar_119 : decode cX12_readsEar 119 = .ok (.ireturn, 1) := by decide +kernel
theorem d_M_readsEar_120 : decode cX12_readsEar 120 = .ok (.aload_n 0, 1) := by decide +kernel
theorem d_M_readsEar_121 : decode cX12_readsEar 121 = .ok (.getfield 50, 3) := by decide +kernel
theorem d_M_readsEar_124 : decode cX12_readsEar 124 = .ok (.iload_n 3, 1) := by decide +kernel
theorem d_M_readsEar_125 : decode cX12_readsEar 125 = .ok (.iload_n 1, 1) := by decide +kernel
theorem d_M_readsEar_126 : decode cX12_readsEar 126 = .ok (.iastore, 1) := by decide +kernel
theorem d_M_readsEar_127 : decode cX12_readsEar 127 = .ok (.aload_n 0, 1) := by decide +kernel
theorem d_M_readsEar_128 : decode cX12_readsEar 128 = .ok (.getfield 53, 3) := by decide +kernel
theorem d_M_readsEar_131 : decode cX12_readsEar 131 = .ok (.iload_n 3, 1) := by decide +kernel
theorem d_M_readsEar_132 : decode cX12_readsEar 132 = .ok (.iload_n 2, 1) := by decide +kernel
theorem d_M_readsEar_133 : decode cX12_readsEar 133 = .ok (.iastore, 1) := by decide +kernel
theorem d_M_readsEar_134 : decode cX12_readsEar 134 = .ok (.aload_n 0, 1) := by decide +kernel
theorem d_M_readsEar_135 : decode cX12_readsEar 135 = .ok (.getfield 56, 3) := by decide +kernel
theorem d_M_readsEar_138 : decode cX12_readsEar 138 = .ok (.iload_n 3, 1) := by decide +kernel
theorem d_M_readsEar_139 : decode cX12_readsEar 139 = .ok (.aload_n 0, 1) := by decide +kernel
theorem d_M_readsEar_140 : decode cX12_readsEar 140 = .ok (.getfield 312, 3) := by decide +kernel
theorem d_M_readsEar_143 : decode cX12_readsEar 143 = .ok (.iastore, 1) := by decide +kernel
theorem d_M_readsEar_144 : decode cX12_readsEar 144 = .ok (.aload_n 0, 1) := by decide +kernel
theorem d_M_readsEar_145 : decode cX12_readsEar 145 = .ok (.getfield 13, 3) := by decide +kernel
theorem d_M_readsEar_148 : decode cX12_readsEar 148 = .ok (.bipush 6, 2) := by decide +kernel
theorem d_M_readsEar_150 : decode cX12_readsEar 150 = .ok (.dup2, 1) := by decide +kernel
theorem d_M_readsEar_151 : decode cX12_readsEar 151 = .ok (.iaload, 1) := by decide +kernel
theorem d_M_readsEar_152 : decode cX12_readsEar 152 = .ok (.iconst 1, 1) := by decide +kernel
theorem d_M_readsEar_153 : decode cX12_readsEar 153 = .ok (.iadd, 1) := by decide +kernel
theorem d_M_readsEar_154 : decode cX12_readsEar 154 = .ok (.iastore, 1) := by decide +kernel
theorem d_M_readsEar_155 : decode cX12_readsEar 155 = .ok (.aload_n 0, 1) := by decide +kernel
theorem d_M_readsEar_156 : decode cX12_readsEar 156 = .ok (.invokevirtual 339, 3) := by decide +kernel
theorem d_M_readsEar_159 : decode cX12_readsEar 159 = .ok (.ireturn, 1) := by decide +kernel
noncomputable def f_M_readsEar (h : mm_H) : Option (Int32 × mm_H) := (f_M_nextToken h).bind fun v2 => (f_M_needsPerson 1 v2).bind fun v4 => if v4.1 = 0 then (some (0, v4.2)) else (mm_let (v4.2.1 261 41) fun y5 => (f_M_nextToken v4.2).bind fun v8 => (f_M_needsPerson 1 v8).bind fun v10 => if v10.1 = 0 then (some (0, v10.2)) else (mm_let (v10.2.1 261 41) fun y11 => if y5 = y11 then ((f_M_fails 3 v10.2).bind fun v67 => (mm_bo v67.1).bind fun b68 => some (b68, v67.2)) else (mm_let (30 + (v10.2.1 263 6)) fun y13 => mm_while (σ := Int32) (ρ := (Int32 × mm_H)) (fun s15 => if y13 ≤ s15 then ((f_M_nextToken v10.2).bind fun v19 => (f_M_needsNumber 0 10 v19).bind fun v21 => if v21.1 = 0 then (some (Sum.inr (0, v21.2))) else ((mm_ix y13 60).bind fun k22 => mm_let (mm_pI v21.2 275 k22 y5) fun h24 => (mm_ix y13 60).bind fun k26 => mm_let (mm_pI h24 276 k26 y11) fun h28 => (mm_ix y13 60).bind fun k30 => mm_let (mm_pI h28 277 k30 (h28.1 261 41)) fun h32 => mm_let (mm_pI h32 263 6 ((h32.1 263 6) + 1)) fun h34 => (f_M_closes h34).bind fun v37 => (mm_bo v37.1).bind fun b38 => some (Sum.inr (b38, v37.2)))) else ((mm_ix s15 60).bind fun k43 => mm_jp (fun (j45 : Unit) => (mm_let (s15 + 1) fun y48 => some (Sum.inl y48))) fun k47 => if (v10.2.1 275 k43) = y5 then ((mm_ix s15 60).bind fun k50 => if (v10.2.1 276 k50) = y11 then ((f_M_fails 3 v10.2).bind fun v53 => (mm_bo v53.1).bind fun b54 => some (Sum.inr (b54, v53.2))) else (k47 ())) else (k47 ()))) 30)))
theorem T_M_readsEar (V : mm_V) (l : Launch) (h : mm_H) (r : (Int32 × mm_H)) (hf : f_M_readsEar h = some r) : MT V l Y_M_readsEar 4 [.ref 261] (fun r1 h1 => r1 = some (.int r.1) ∧ h1 = r.2) h := by
  unfold f_M_readsEar at hf
  refine MT.intro (pn_M rfl) [(0, .ref 261)] rfl (Nat.le_of_ble_eq_true rfl) ?_
  generalize hZ : mm_Z V _ = Z0
  refine MM.aload_n (i := 0) rfl rfl d_M_readsEar_0 rfl ?_
  obtain ⟨v2, e1, hf⟩ := mm_bind hf
  refine MM.callV0 (T_M_nextToken V l  h _ e1) (fun _ _ q => q) cal_M_nextToken rfl tg_261 ct_9 ww_39 ww_1593 ww_1591 (by decide) (by simp [Value.category]) d_M_readsEar_1 rfl ⟨rfl, rfl⟩ rfl ?_
  refine MM.aload_n (i := 0) rfl rfl d_M_readsEar_4 rfl ?_
  refine MM.iconst ic_1 d_M_readsEar_5 rfl ?_
  obtain ⟨v4, e3, hf⟩ := mm_bind hf
  refine MM.callV1 (T_M_needsPerson V l 1 v2 _ e3) (fun _ _ q => q) cal_M_needsPerson rfl tg_261 ct_9 ww_54 ww_1685 ww_1683 (by decide) (by simp [Value.category]) d_M_readsEar_6 rfl ⟨rfl, rfl⟩ rfl ?_
  obtain ⟨m77, m78⟩ := mm_ifE hf
  refine MM.if_ne (tgt := 14) d_M_readsEar_9 rfl rfl (fun c76 => ?_) (fun c76 => ?_)
  · replace hf := m78 c76
    refine MM.aload_n (i := 0) rfl rfl d_M_readsEar_14 rfl ?_
    refine MM.getI 9 tg_261 lays_9 gq_9_41 ww_1399 d_M_readsEar_15 rfl ?_
    obtain ⟨y5, e6, hf⟩ := mm_letE hf
    refine MM.istore_n (i := 1) (lv' := [(1, .int y5), (0, .ref 261)]) e6 rfl (Nat.le_of_ble_eq_true rfl) rfl d_M_readsEar_18 rfl ?_
    refine MM.aload_n (i := 0) rfl rfl d_M_readsEar_19 rfl ?_
    obtain ⟨v8, e7, hf⟩ := mm_bind hf
    refine MM.callV0 (T_M_nextToken V l  v4.2 _ e7) (fun _ _ q => q) cal_M_nextToken rfl tg_261 ct_9 ww_39 ww_1593 ww_1591 (by decide) (by simp [Value.category]) d_M_readsEar_20 rfl ⟨rfl, rfl⟩ rfl ?_
    refine MM.aload_n (i := 0) rfl rfl d_M_readsEar_23 rfl ?_
    refine MM.iconst ic_1 d_M_readsEar_24 rfl ?_
    obtain ⟨v10, e9, hf⟩ := mm_bind hf
    refine MM.callV1 (T_M_needsPerson V l 1 v8 _ e9) (fun _ _ q => q) cal_M_needsPerson rfl tg_261 ct_9 ww_54 ww_1685 ww_1683 (by decide) (by simp [Value.category]) d_M_readsEar_25 rfl ⟨rfl, rfl⟩ rfl ?_
    obtain ⟨m74, m75⟩ := mm_ifE hf
    refine MM.if_ne (tgt := 33) d_M_readsEar_28 rfl rfl (fun c73 => ?_) (fun c73 => ?_)
    · replace hf := m75 c73
      refine MM.aload_n (i := 0) rfl rfl d_M_readsEar_33 rfl ?_
      refine MM.getI 9 tg_261 lays_9 gq_9_41 ww_1399 d_M_readsEar_34 rfl ?_
      obtain ⟨y11, e12, hf⟩ := mm_letE hf
      refine MM.istore_n (i := 2) (lv' := [(2, .int y11), (1, .int y5), (0, .ref 261)]) e12 rfl (Nat.le_of_ble_eq_true rfl) rfl d_M_readsEar_37 rfl ?_
      refine MM.iload_n (i := 1) rfl rfl d_M_readsEar_38 rfl ?_
      refine MM.iload_n (i := 2) rfl rfl d_M_readsEar_39 rfl ?_
      obtain ⟨m71, m72⟩ := mm_ifE hf
      refine MM.icmp_ne (tgt := 49) d_M_readsEar_40 rfl rfl (fun c70 => ?_) (fun c70 => ?_)
      · replace hf := m72 c70
        refine MM.bipush bp_30 d_M_readsEar_49 rfl ?_
        refine MM.aload_n (i := 0) rfl rfl d_M_readsEar_51 rfl ?_
        refine MM.gR 9 2 tg_261 rq_9_10 rfl lays_9 ww_1368 d_M_readsEar_52 rfl ?_
        refine MM.bipush bp_6 d_M_readsEar_55 rfl ?_
        refine MM.gI ix_6_8 al_263 d_M_readsEar_57 rfl ?_
        refine MM.iadd d_M_readsEar_58 rfl ?_
        obtain ⟨y13, e14, hf⟩ := mm_letE hf
        refine MM.istore_n (i := 3) (lv' := [(3, .int y13), (2, .int y11), (1, .int y5), (0, .ref 261)]) e14 rfl (Nat.le_of_ble_eq_true rfl) rfl d_M_readsEar_59 rfl ?_
        refine MM.bipush bp_30 d_M_readsEar_60 rfl ?_
        refine MM.istore (lv' := [(4, .int 30), (3, .int y13), (2, .int y11), (1, .int y5), (0, .ref 261)]) rfl (Nat.le_of_ble_eq_true rfl) rfl d_M_readsEar_62 rfl ?_
        refine MM.sub [4, 3, 2, 1, 0] (by rfl) (mm_while_ind (fun s15 => MM V l Y_M_readsEar 4 0 0 Z0 64 [(0, .ref 261), (1, .int y5), (2, .int y11), (3, .int y13), (4, .int s15)] [] v10.2) hf (fun s15 q16 hf hx17 => ?_))
        refine MM.iload rfl d_M_readsEar_64 rfl ?_
        refine MM.iload_n (i := 3) rfl rfl d_M_readsEar_66 rfl ?_
        obtain ⟨m64, m65⟩ := mm_ifE hf
        refine MM.icmp_ge (tgt := 104) d_M_readsEar_67 rfl rfl (fun c63 => ?_) (fun c63 => ?_)
        · replace hf := m64 c63
          refine MM.aload_n (i := 0) rfl rfl d_M_readsEar_104 rfl ?_
          obtain ⟨v19, e18, hf⟩ := mm_bind hf
          refine MM.callV0 (T_M_nextToken V l  v10.2 _ e18) (fun _ _ q => q) cal_M_nextToken rfl tg_261 ct_9 ww_39 ww_1593 ww_1591 (by decide) (by simp [Value.category]) d_M_readsEar_105 rfl ⟨rfl, rfl⟩ rfl ?_
          refine MM.aload_n (i := 0) rfl rfl d_M_readsEar_108 rfl ?_
          refine MM.iconst ic_0 d_M_readsEar_109 rfl ?_
          refine MM.bipush bp_10 d_M_readsEar_110 rfl ?_
          obtain ⟨v21, e20, hf⟩ := mm_bind hf
          refine MM.callV1 (T_M_needsNumber V l 0 10 v19 _ e20) (fun _ _ q => q) cal_M_needsNumber rfl tg_261 ct_9 ww_50 ww_1666 ww_1664 (by decide) (by simp [Value.category]) d_M_readsEar_112 rfl ⟨rfl, rfl⟩ rfl ?_
          obtain ⟨m41, m42⟩ := mm_ifE hf
          refine MM.if_ne (tgt := 120) d_M_readsEar_115 rfl rfl (fun c40 => ?_) (fun c40 => ?_)
          · replace hf := m42 c40
            refine MM.aload_n (i := 0) rfl rfl d_M_readsEar_120 rfl ?_
            refine MM.gR 9 14 tg_261 rq_9_22 rfl lays_9 ww_1380 d_M_readsEar_121 rfl ?_
            refine MM.iload_n (i := 3) rfl rfl d_M_readsEar_124 rfl ?_
            refine MM.iload_n (i := 1) rfl rfl d_M_readsEar_125 rfl ?_
            obtain ⟨k22, e23, hf⟩ := mm_bind hf
            obtain ⟨h24, e25, hf⟩ := mm_letE hf
            refine MM.sI e23 e25 al_275 d_M_readsEar_126 rfl ?_
            refine MM.aload_n (i := 0) rfl rfl d_M_readsEar_127 rfl ?_
            refine MM.gR 9 15 tg_261 rq_9_23 rfl lays_9 ww_1381 d_M_readsEar_128 rfl ?_
            refine MM.iload_n (i := 3) rfl rfl d_M_readsEar_131 rfl ?_
            refine MM.iload_n (i := 2) rfl rfl d_M_readsEar_132 rfl ?_
            obtain ⟨k26, e27, hf⟩ := mm_bind hf
            obtain ⟨h28, e29, hf⟩ := mm_letE hf
            refine MM.sI e27 e29 al_276 d_M_readsEar_133 rfl ?_
            refine MM.aload_n (i := 0) rfl rfl d_M_readsEar_134 rfl ?_
            refine MM.gR 9 16 tg_261 rq_9_24 rfl lays_9 ww_1382 d_M_readsEar_135 rfl ?_
            refine MM.iload_n (i := 3) rfl rfl d_M_readsEar_138 rfl ?_
            refine MM.aload_n (i := 0) rfl rfl d_M_readsEar_139 rfl ?_
            refine MM.getI 9 tg_261 lays_9 gq_9_41 ww_1399 d_M_readsEar_140 rfl ?_
            obtain ⟨k30, e31, hf⟩ := mm_bind hf
            obtain ⟨h32, e33, hf⟩ := mm_letE hf
            refine MM.sI e31 e33 al_277 d_M_readsEar_143 rfl ?_
            refine MM.aload_n (i := 0) rfl rfl d_M_readsEar_144 rfl ?_
            refine MM.gR 9 2 tg_261 rq_9_10 rfl lays_9 ww_1368 d_M_readsEar_145 rfl ?_
            refine MM.bipush bp_6 d_M_readsEar_148 rfl ?_
            refine MM.dup2 rfl rfl d_M_readsEar_150 rfl ?_
            refine MM.gI ix_6_8 al_263 d_M_readsEar_151 rfl ?_
            refine MM.iconst ic_1 d_M_readsEar_152 rfl ?_
            refine MM.iadd d_M_readsEar_153 rfl ?_
            obtain ⟨h34, e35, hf⟩ := mm_letE hf
            refine MM.sI ix_6_8 e35 al_263 d_M_readsEar_154 rfl ?_
            refine MM.aload_n (i := 0) rfl rfl d_M_readsEar_155 rfl ?_
            obtain ⟨v37, e36, hf⟩ := mm_bind hf
            refine MM.callV1 (T_M_closes V l  h34 _ e36) (fun _ _ q => q) cal_M_closes rfl tg_261 ct_9 ww_51 ww_1673 ww_1671 (by decide) (by simp [Value.category]) d_M_readsEar_156 rfl ⟨rfl, rfl⟩ rfl ?_
            obtain ⟨b38, e39, hf⟩ := mm_bind hf
            obtain ⟨ob38, e39⟩ := mm_boE e39
            subst e39
            obtain rfl := Option.some.inj hf
            replace hf := mm_wxR hx17
            obtain rfl := Option.some.inj hf
            subst hZ
            exact MM.zret ob38 rfl d_M_readsEar_159 ⟨rfl, rfl⟩
          · replace hf := m41 c40
            refine MM.iconst ic_0 d_M_readsEar_118 rfl ?_
            obtain rfl := Option.some.inj hf
            replace hf := mm_wxR hx17
            obtain rfl := Option.some.inj hf
            subst hZ
            exact MM.zret (Or.inl rfl) rfl d_M_readsEar_119 ⟨rfl, rfl⟩
        · replace hf := m65 c63
          refine MM.aload_n (i := 0) rfl rfl d_M_readsEar_70 rfl ?_
          refine MM.gR 9 14 tg_261 rq_9_22 rfl lays_9 ww_1380 d_M_readsEar_71 rfl ?_
          refine MM.iload rfl d_M_readsEar_74 rfl ?_
          obtain ⟨k43, e44, hf⟩ := mm_bind hf
          refine MM.gI e44 al_275 d_M_readsEar_76 rfl ?_
          refine MM.iload_n (i := 1) rfl rfl d_M_readsEar_77 rfl ?_
          obtain ⟨k47, e62, hf⟩ := mm_jpE hf
          have K46 : ∀ j45, k47 j45 = some q16 → MM V l Y_M_readsEar 4 0 0 Z0 98 [(0, .ref 261), (1, .int y5), (2, .int y11), (3, .int y13), (4, .int s15)] [] v10.2 := by
            intro j45 hf
            rw [e62] at hf
            obtain ⟨y48, e49, hf⟩ := mm_letE hf
            refine MM.iinc (k0 := 4) (lv' := [(4, .int y48), (0, .ref 261), (1, .int y5), (2, .int y11), (3, .int y13)]) (by rw [ic_1]; exact e49) rfl (Nat.le_of_ble_eq_true rfl) rfl d_M_readsEar_98 rfl ?_
            refine MM.goto (tgt := 64) d_M_readsEar_101 rfl ?_
            obtain rfl := Option.some.inj hf
            have h9 := mm_wxL hx17
            exact MM.sub [1, 2, 3, 4, 0] (by rfl) h9
          clear e62
          obtain ⟨m60, m61⟩ := mm_ifE hf
          refine MM.icmp_ne (tgt := 98) d_M_readsEar_78 rfl rfl (fun c59 => ?_) (fun c59 => ?_)
          · replace hf := m61 c59
            exact MM.sub [0, 1, 2, 3, 4] (by rfl) (K46 _ hf)
          · replace hf := m60 c59
            refine MM.aload_n (i := 0) rfl rfl d_M_readsEar_81 rfl ?_
            refine MM.gR 9 15 tg_261 rq_9_23 rfl lays_9 ww_1381 d_M_readsEar_82 rfl ?_
            refine MM.iload rfl d_M_readsEar_85 rfl ?_
            obtain ⟨k50, e51, hf⟩ := mm_bind hf
            refine MM.gI e51 al_276 d_M_readsEar_87 rfl ?_
            refine MM.iload_n (i := 2) rfl rfl d_M_readsEar_88 rfl ?_
            obtain ⟨m57, m58⟩ := mm_ifE hf
            refine MM.icmp_ne (tgt := 98) d_M_readsEar_89 rfl rfl (fun c56 => ?_) (fun c56 => ?_)
            · replace hf := m58 c56
              exact MM.sub [0, 1, 2, 3, 4] (by rfl) (K46 _ hf)
            · replace hf := m57 c56
              refine MM.aload_n (i := 0) rfl rfl d_M_readsEar_92 rfl ?_
              refine MM.iconst ic_3 d_M_readsEar_93 rfl ?_
              obtain ⟨v53, e52, hf⟩ := mm_bind hf
              refine MM.callV1 (T_M_fails V l 3 v10.2 _ e52) (fun _ _ q => q) cal_M_fails rfl tg_261 ct_9 ww_43 ww_1612 ww_1610 (by decide) (by simp [Value.category]) d_M_readsEar_94 rfl ⟨rfl, rfl⟩ rfl ?_
              obtain ⟨b54, e55, hf⟩ := mm_bind hf
              obtain ⟨ob54, e55⟩ := mm_boE e55
              subst e55
              obtain rfl := Option.some.inj hf
              replace hf := mm_wxR hx17
              obtain rfl := Option.some.inj hf
              subst hZ
              exact MM.zret ob54 rfl d_M_readsEar_97 ⟨rfl, rfl⟩
      · replace hf := m71 c70
        refine MM.aload_n (i := 0) rfl rfl d_M_readsEar_43 rfl ?_
        refine MM.iconst ic_3 d_M_readsEar_44 rfl ?_
        obtain ⟨v67, e66, hf⟩ := mm_bind hf
        refine MM.callV1 (T_M_fails V l 3 v10.2 _ e66) (fun _ _ q => q) cal_M_fails rfl tg_261 ct_9 ww_43 ww_1612 ww_1610 (by decide) (by simp [Value.category]) d_M_readsEar_45 rfl ⟨rfl, rfl⟩ rfl ?_
        obtain ⟨b68, e69, hf⟩ := mm_bind hf
        obtain ⟨ob68, e69⟩ := mm_boE e69
        subst e69
        obtain rfl := Option.some.inj hf
        subst hZ
        exact MM.zret ob68 rfl d_M_readsEar_48 ⟨rfl, rfl⟩
    · replace hf := m74 c73
      refine MM.iconst ic_0 d_M_readsEar_31 rfl ?_
      obtain rfl := Option.some.inj hf
      subst hZ
      exact MM.zret (Or.inl rfl) rfl d_M_readsEar_32 ⟨rfl, rfl⟩
  · replace hf := m77 c76
    refine MM.iconst ic_0 d_M_readsEar_12 rfl ?_
    obtain rfl := Option.some.inj hf
    subst hZ
    exact MM.zret (Or.inl rfl) rfl d_M_readsEar_13 ⟨rfl, rfl⟩
theorem d_M_readsClash_0 : decode cX12_readsClash 0 = .ok (.aload_n 0, 1) := by decide +kernel
theorem d_M_readsClash_1 : decode cX12_readsClash 1 = .ok (.invokevirtual 246, 3) := by decide +kernel
theorem d_M_readsClash_4 : decode cX12_readsClash 4 = .ok (.aload_n 0, 1) := by decide +kernel
theorem d_M_readsClash_5 : decode cX12_readsClash 5 = .ok (.iconst 1, 1) := by decide +kernel
theorem d_M_readsClash_6 : decode cX12_readsClash 6 = .ok (.invokevirtual 345, 3) := by decide +kernel
theorem d_M_readsClash_9 : decode cX12_readsClash 9 = .ok (.ifCond .ne 5, 3) := by decide +kernel
theorem d_M_readsClash_12 : decode cX12_readsClash 12 = .ok (.iconst 0, 1) := by decide +kernel
theorem d_M_readsClash_13 : decode cX12_readsClash 13 = .ok (.ireturn, 1) := by decide +kernel
theorem d_M_readsClash_14 : decode cX12_readsClash 14 = .ok (.aload_n 0, 1) := by decide +kernel
theorem d_M_readsClash_15 : decode cX12_readsClash 15 = .ok (.getfield 312, 3) := by decide +kernel
theorem d_M_readsClash_18 : decode cX12_readsClash 18 = .ok (.istore_n 1, 1) := by decide +kernel
theorem d_M_readsClash_19 : decode cX12_readsClash 19 = .ok (.aload_n 0, 1) := by decide +kernel
theorem d_M_readsClash_20 : decode cX12_readsClash 20 = .ok (.invokevirtual 246, 3) := by decide +kernel
theorem d_M_readsClash_23 : decode cX12_readsClash 23 = .ok (.aload_n 0, 1) := by decide +kernel
theorem d_M_readsClash_24 : decode cX12_readsClash 24 = .ok (.iconst 1, 1) := by decide +kernel
theorem d_M_readsClash_25 : decode cX12_readsClash 25 = .ok (.invokevirtual 345, 3) := by decide +kernel
theorem d_M_readsClash_28 : decode cX12_readsClash 28 = .ok (.ifCond .ne 5, 3) := by decide +kernel
theorem d_M_readsClash_31 : decode cX12_readsClash 31 = .ok (.iconst 0, 1) := by decide +kernel
theorem d_M_readsClash_32 : decode cX12_readsClash 32 = .ok (.ireturn, 1) := by decide +kernel
theorem d_M_readsClash_33 : decode cX12_readsClash 33 = .ok (.aload_n 0, 1) := by decide +kernel
theorem d_M_readsClash_34 : decode cX12_readsClash 34 = .ok (.getfield 312, 3) := by decide +kernel
theorem d_M_readsClash_37 : decode cX12_readsClash 37 = .ok (.istore_n 2, 1) := by decide +kernel
theorem d_M_readsClash_38 : decode cX12_readsClash 38 = .ok (.iload_n 1, 1) := by decide +kernel
theorem d_M_readsClash_39 : decode cX12_readsClash 39 = .ok (.iload_n 2, 1) := by decide +kernel
theorem d_M_readsClash_40 : decode cX12_readsClash 40 = .ok (.if_icmp .eq 20, 3) := by decide +kernel
theorem d_M_readsClash_43 : decode cX12_readsClash 43 = .ok (.aload_n 0, 1) := by decide +kernel
theorem d_M_readsClash_44 : decode cX12_readsClash 44 = .ok (.getfield 47, 3) := by decide +kernel
theorem d_M_readsClash_47 : decode cX12_readsClash 47 = .ok (.bipush 10, 2) := by decide +kernel
theorem d_M_readsClash_49 : decode cX12_readsClash 49 = .ok (.iload_n 1, 1) := by decide +kernel
theorem d_M_readsClash_50 : decode cX12_readsClash 50 = .ok (.iadd, 1) := by decide +kernel
theorem d_M_readsClash_51 : decode cX12_readsClash 51 = .ok (.iaload, 1) := by decide +kernel
theorem d_M_readsClash_52 : decode cX12_readsClash 52 = .ok (.iload_n 2, 1) := by decide +kernel
theorem d_M_readsClash_53 : decode cX12_readsClash 53 = .ok (.ishr, 1) := by decide +kernel
theorem d_M_readsClash_54 : decode cX12_readsClash 54 = .ok (.iconst 1, 1) := by decide +kernel
theorem d_M_readsClash_55 : decode cX12_readsClash 55 = .ok (.iand, 1) := by decide +kernel
theorem d_M_readsClash_56 : decode cX12_readsClash 56 = .ok (.iconst 1, 1) := by decide +kernel
theorem d_M_readsClash_57 : decode cX12_readsClash 57 = .ok (.if_icmp .ne 9, 3) := by decide +kernel
theorem d_M_readsClash_60 : decode cX12_readsClash 60 = .ok (.aload_n 0, 1) := by decide +kernel
theorem d_M_readsClash_61 : decode cX12_readsClash 61 = .ok (.iconst 3, 1) := by decide +kernel
theorem d_M_readsClash_62 : decode cX12_readsClash 62 = .ok (.invokevirtual 239, 3) := by decide +kernel
theorem d_M_readsClash_65 : decode cX12_readsClash 65 = .ok (.ireturn, 1) := by decide +kernel
theorem d_M_readsClash_66 : decode cX12_readsClash 66 = .ok (.aload_n 0, 1) := by decide +kernel
theorem d_M_readsClash_67 : decode cX12_readsClash 67 = .ok (.invokevirtual 246, 3) := by decide +kernel
theorem d_M_readsClash_70 : decode cX12_readsClash 70 = .ok (.aload_n 0, 1) := by decide +kernel
theorem d_M_readsClash_71 : decode cX12_readsClash 71 = .ok (.getfield 47, 3) := by decide +kernel
theorem d_M_readsClash_74 : decode cX12_readsClash 74 = .ok (.bipush 10, 2) := by decide +kernel
theorem d_M_readsClash_76 : decode cX12_readsClash 76 = .ok (.iload_n 1, 1) := by decide +kernel
theorem d_M_readsClash_77 : decode cX12_readsClash 77 = .ok (.iadd, 1) := by decide +kernel
theorem d_M_readsClash_78 : decode cX12_readsClash 78 = .ok (.dup2, 1) := by decide +kernel
theorem d_M_readsClash_79 : decode cX12_readsClash 79 = .ok (.iaload, 1) := by decide +kernel
theorem d_M_readsClash_80 : decode cX12_readsClash 80 = .ok (.iconst 1, 1) := by decide +kernel
theorem d_M_readsClash_81 : decode cX12_readsClash 81 = .ok (.iload_n 2, 1) := by decide +kernel
theorem d_M_readsClash_82 : decode cX12_readsClash 82 = .ok (.ishl, 1) := by decide +kernel
theorem d_M_readsClash_83 : decode cX12_readsClash 83 = .ok (.ior, 1) := by decide +kernel
theorem d_M_readsClash_84 : decode cX12_readsClash 84 = .ok (.iastore, 1) := by decide +kernel
theorem d_M_readsClash_85 : decode cX12_readsClash 85 = .ok (.aload_n 0, 1) := by decide +kernel
theorem d_M_readsClash_86 : decode cX12_readsClash 86 = .ok (.getfield 47, 3) := by decide +kernel
theorem d_M_readsClash_89 : decode cX12_readsClash 89 = .ok (.bipush 10, 2) := by decide +kernel
theorem d_M_readsClash_91 : decode cX12_readsClash 91 = .ok (.iload_n 2, 1) := by decide +kernel
theorem d_M_readsClash_92 : decode cX12_readsClash 92 = .ok (.iadd, 1) := by decide +kernel
theorem d_M_readsClash_93 : decode cX12_readsClash 93 = .ok (.dup2, 1) := by decide +kernel
theorem d_M_readsClash_94 : decode cX12_readsClash 94 = .ok (.iaload, 1) := by decide +kernel
theorem d_M_readsClash_95 : decode cX12_readsClash 95 = .ok (.iconst 1, 1) := by decide +kernel
theorem d_M_readsClash_96 : decode cX12_readsClash 96 = .ok (.iload_n 1, 1) := by decide +kernel
theorem d_M_readsClash_97 : decode cX12_readsClash 97 = .ok (.ishl, 1) := by decide +kernel
theorem d_M_readsClash_98 : decode cX12_readsClash 98 = .ok (.ior, 1) := by decide +kernel
theorem d_M_readsClash_99 : decode cX12_readsClash 99 = .ok (.iastore, 1) := by decide +kernel
theorem d_M_readsClash_100 : decode cX12_readsClash 100 = .ok (.aload_n 0, 1) := by decide +kernel
theorem d_M_readsClash_101 : decode cX12_readsClash 101 = .ok (.getfield 13, 3) := by decide +kernel
theorem d_M_readsClash_104 : decode cX12_readsClash 104 = .ok (.bipush 7, 2) := by decide +kernel
theorem d_M_readsClash_106 : decode cX12_readsClash 106 = .ok (.dup2, 1) := by decide +kernel
theorem d_M_readsClash_107 : decode cX12_readsClash 107 = .ok (.iaload, 1) := by decide +kernel
theorem d_M_readsClash_108 : decode cX12_readsClash 108 = .ok (.iconst 1, 1) := by decide +kernel
theorem d_M_readsClash_109 : decode cX12_readsClash 109 = .ok (.iadd, 1) := by decide +kernel
theorem d_M_readsClash_110 : decode cX12_readsClash 110 = .ok (.iastore, 1) := by decide +kernel
theorem d_M_readsClash_111 : decode cX12_readsClash 111 = .ok (.aload_n 0, 1) := by decide +kernel
theorem d_M_readsClash_112 : decode cX12_readsClash 112 = .ok (.invokevirtual 339, 3) := by decide +kernel
theorem d_M_readsClash_115 : decode cX12_readsClash 115 = .ok (.ireturn, 1) := by decide +kernel
noncomputable def f_M_readsClash (h : mm_H) : Option (Int32 × mm_H) := (f_M_nextToken h).bind fun v2 => (f_M_needsSecret 1 v2).bind fun v4 => if v4.1 = 0 then (some (0, v4.2)) else (mm_let (v4.2.1 261 41) fun y5 => (f_M_nextToken v4.2).bind fun v8 => (f_M_needsSecret 1 v8).bind fun v10 => if v10.1 = 0 then (some (0, v10.2)) else (mm_let (v10.2.1 261 41) fun y11 => mm_jp (fun (j13 : Unit) => ((f_M_fails 3 v10.2).bind fun v17 => (mm_bo v17.1).bind fun b18 => some (b18, v17.2))) fun k15 => if y5 = y11 then (k15 ()) else ((mm_ix (10 + y5) 20).bind fun k20 => if (((v10.2.1 274 k20) >>> (y11 &&& 31)) &&& 1) = 1 then (k15 ()) else ((f_M_nextToken v10.2).bind fun v23 => (mm_ix (10 + y5) 20).bind fun k24 => (mm_ix (10 + y5) 20).bind fun k26 => mm_let (mm_pI v23 274 k26 ((v23.1 274 k24) ||| ((1 : Int32) <<< (y11 &&& 31)))) fun h28 => (mm_ix (10 + y11) 20).bind fun k30 => (mm_ix (10 + y11) 20).bind fun k32 => mm_let (mm_pI h28 274 k32 ((h28.1 274 k30) ||| ((1 : Int32) <<< (y5 &&& 31)))) fun h34 => mm_let (mm_pI h34 263 7 ((h34.1 263 7) + 1)) fun h36 => (f_M_closes h36).bind fun v39 => (mm_bo v39.1).bind fun b40 => some (b40, v39.2)))))
theorem T_M_readsClash (V : mm_V) (l : Launch) (h : mm_H) (r : (Int32 × mm_H)) (hf : f_M_readsClash h = some r) : MT V l Y_M_readsClash 4 [.ref 261] (fun r1 h1 => r1 = some (.int r.1) ∧ h1 = r.2) h := by
  unfold f_M_readsClash at hf
  refine MT.intro (pn_M rfl) [(0, .ref 261)] rfl (Nat.le_of_ble_eq_true rfl) ?_
  generalize hZ : mm_Z V _ = Z0
  refine MM.aload_n (i := 0) rfl rfl d_M_readsClash_0 rfl ?_
  obtain ⟨v2, e1, hf⟩ := mm_bind hf
  refine MM.callV0 (T_M_nextToken V l  h _ e1) (fun _ _ q => q) cal_M_nextToken rfl tg_261 ct_9 ww_39 ww_1593 ww_1591 (by decide) (by simp [Value.category]) d_M_readsClash_1 rfl ⟨rfl, rfl⟩ rfl ?_
  refine MM.aload_n (i := 0) rfl rfl d_M_readsClash_4 rfl ?_
  refine MM.iconst ic_1 d_M_readsClash_5 rfl ?_
  obtain ⟨v4, e3, hf⟩ := mm_bind hf
  refine MM.callV1 (T_M_needsSecret V l 1 v2 _ e3) (fun _ _ q => q) cal_M_needsSecret rfl tg_261 ct_9 ww_55 ww_1689 ww_1687 (by decide) (by simp [Value.category]) d_M_readsClash_6 rfl ⟨rfl, rfl⟩ rfl ?_
  obtain ⟨m53, m54⟩ := mm_ifE hf
  refine MM.if_ne (tgt := 14) d_M_readsClash_9 rfl rfl (fun c52 => ?_) (fun c52 => ?_)
  · replace hf := m54 c52
    refine MM.aload_n (i := 0) rfl rfl d_M_readsClash_14 rfl ?_
    refine MM.getI 9 tg_261 lays_9 gq_9_41 ww_1399 d_M_readsClash_15 rfl ?_
    obtain ⟨y5, e6, hf⟩ := mm_letE hf
    refine MM.istore_n (i := 1) (lv' := [(1, .int y5), (0, .ref 261)]) e6 rfl (Nat.le_of_ble_eq_true rfl) rfl d_M_readsClash_18 rfl ?_
    refine MM.aload_n (i := 0) rfl rfl d_M_readsClash_19 rfl ?_
    obtain ⟨v8, e7, hf⟩ := mm_bind hf
    refine MM.callV0 (T_M_nextToken V l  v4.2 _ e7) (fun _ _ q => q) cal_M_nextToken rfl tg_261 ct_9 ww_39 ww_1593 ww_1591 (by decide) (by simp [Value.category]) d_M_readsClash_20 rfl ⟨rfl, rfl⟩ rfl ?_
    refine MM.aload_n (i := 0) rfl rfl d_M_readsClash_23 rfl ?_
    refine MM.iconst ic_1 d_M_readsClash_24 rfl ?_
    obtain ⟨v10, e9, hf⟩ := mm_bind hf
    refine MM.callV1 (T_M_needsSecret V l 1 v8 _ e9) (fun _ _ q => q) cal_M_needsSecret rfl tg_261 ct_9 ww_55 ww_1689 ww_1687 (by decide) (by simp [Value.category]) d_M_readsClash_25 rfl ⟨rfl, rfl⟩ rfl ?_
    obtain ⟨m50, m51⟩ := mm_ifE hf
    refine MM.if_ne (tgt := 33) d_M_readsClash_28 rfl rfl (fun c49 => ?_) (fun c49 => ?_)
    · replace hf := m51 c49
      refine MM.aload_n (i := 0) rfl rfl d_M_readsClash_33 rfl ?_
      refine MM.getI 9 tg_261 lays_9 gq_9_41 ww_1399 d_M_readsClash_34 rfl ?_
      obtain ⟨y11, e12, hf⟩ := mm_letE hf
      refine MM.istore_n (i := 2) (lv' := [(2, .int y11), (1, .int y5), (0, .ref 261)]) e12 rfl (Nat.le_of_ble_eq_true rfl) rfl d_M_readsClash_37 rfl ?_
      refine MM.iload_n (i := 1) rfl rfl d_M_readsClash_38 rfl ?_
      refine MM.iload_n (i := 2) rfl rfl d_M_readsClash_39 rfl ?_
      obtain ⟨k15, e48, hf⟩ := mm_jpE hf
      have K14 : ∀ j13, k15 j13 = some r → MM V l Y_M_readsClash 4 0 0 Z0 60 [(0, .ref 261)] [] v10.2 := by
        intro j13 hf
        rw [e48] at hf
        refine MM.aload_n (i := 0) rfl rfl d_M_readsClash_60 rfl ?_
        refine MM.iconst ic_3 d_M_readsClash_61 rfl ?_
        obtain ⟨v17, e16, hf⟩ := mm_bind hf
        refine MM.callV1 (T_M_fails V l 3 v10.2 _ e16) (fun _ _ q => q) cal_M_fails rfl tg_261 ct_9 ww_43 ww_1612 ww_1610 (by decide) (by simp [Value.category]) d_M_readsClash_62 rfl ⟨rfl, rfl⟩ rfl ?_
        obtain ⟨b18, e19, hf⟩ := mm_bind hf
        obtain ⟨ob18, e19⟩ := mm_boE e19
        subst e19
        obtain rfl := Option.some.inj hf
        subst hZ
        exact MM.zret ob18 rfl d_M_readsClash_65 ⟨rfl, rfl⟩
      clear e48
      obtain ⟨m46, m47⟩ := mm_ifE hf
      refine MM.icmp_eq (tgt := 60) d_M_readsClash_40 rfl rfl (fun c45 => ?_) (fun c45 => ?_)
      · replace hf := m46 c45
        exact MM.sub [2] (by rfl) (K14 _ hf)
      · replace hf := m47 c45
        refine MM.aload_n (i := 0) rfl rfl d_M_readsClash_43 rfl ?_
        refine MM.gR 9 13 tg_261 rq_9_21 rfl lays_9 ww_1379 d_M_readsClash_44 rfl ?_
        refine MM.bipush bp_10 d_M_readsClash_47 rfl ?_
        refine MM.iload_n (i := 1) rfl rfl d_M_readsClash_49 rfl ?_
        refine MM.iadd d_M_readsClash_50 rfl ?_
        obtain ⟨k20, e21, hf⟩ := mm_bind hf
        refine MM.gI e21 al_274 d_M_readsClash_51 rfl ?_
        refine MM.iload_n (i := 2) rfl rfl d_M_readsClash_52 rfl ?_
        refine MM.ishr d_M_readsClash_53 rfl ?_
        refine MM.iconst ic_1 d_M_readsClash_54 rfl ?_
        refine MM.iand d_M_readsClash_55 rfl ?_
        refine MM.iconst ic_1 d_M_readsClash_56 rfl ?_
        obtain ⟨m43, m44⟩ := mm_ifE hf
        refine MM.icmp_ne (tgt := 66) d_M_readsClash_57 rfl rfl (fun c42 => ?_) (fun c42 => ?_)
        · replace hf := m44 c42
          refine MM.aload_n (i := 0) rfl rfl d_M_readsClash_66 rfl ?_
          obtain ⟨v23, e22, hf⟩ := mm_bind hf
          refine MM.callV0 (T_M_nextToken V l  v10.2 _ e22) (fun _ _ q => q) cal_M_nextToken rfl tg_261 ct_9 ww_39 ww_1593 ww_1591 (by decide) (by simp [Value.category]) d_M_readsClash_67 rfl ⟨rfl, rfl⟩ rfl ?_
          refine MM.aload_n (i := 0) rfl rfl d_M_readsClash_70 rfl ?_
          refine MM.gR 9 13 tg_261 rq_9_21 rfl lays_9 ww_1379 d_M_readsClash_71 rfl ?_
          refine MM.bipush bp_10 d_M_readsClash_74 rfl ?_
          refine MM.iload_n (i := 1) rfl rfl d_M_readsClash_76 rfl ?_
          refine MM.iadd d_M_readsClash_77 rfl ?_
          refine MM.dup2 rfl rfl d_M_readsClash_78 rfl ?_
          obtain ⟨k24, e25, hf⟩ := mm_bind hf
          refine MM.gI e25 al_274 d_M_readsClash_79 rfl ?_
          refine MM.iconst ic_1 d_M_readsClash_80 rfl ?_
          refine MM.iload_n (i := 2) rfl rfl d_M_readsClash_81 rfl ?_
          refine MM.ishl d_M_readsClash_82 rfl ?_
          refine MM.ior d_M_readsClash_83 rfl ?_
          obtain ⟨k26, e27, hf⟩ := mm_bind hf
          obtain ⟨h28, e29, hf⟩ := mm_letE hf
          refine MM.sI e27 e29 al_274 d_M_readsClash_84 rfl ?_
          refine MM.aload_n (i := 0) rfl rfl d_M_readsClash_85 rfl ?_
          refine MM.gR 9 13 tg_261 rq_9_21 rfl lays_9 ww_1379 d_M_readsClash_86 rfl ?_
          refine MM.bipush bp_10 d_M_readsClash_89 rfl ?_
          refine MM.iload_n (i := 2) rfl rfl d_M_readsClash_91 rfl ?_
          refine MM.iadd d_M_readsClash_92 rfl ?_
          refine MM.dup2 rfl rfl d_M_readsClash_93 rfl ?_
          obtain ⟨k30, e31, hf⟩ := mm_bind hf
          refine MM.gI e31 al_274 d_M_readsClash_94 rfl ?_
          refine MM.iconst ic_1 d_M_readsClash_95 rfl ?_
          refine MM.iload_n (i := 1) rfl rfl d_M_readsClash_96 rfl ?_
          refine MM.ishl d_M_readsClash_97 rfl ?_
          refine MM.ior d_M_readsClash_98 rfl ?_
          obtain ⟨k32, e33, hf⟩ := mm_bind hf
          obtain ⟨h34, e35, hf⟩ := mm_letE hf
          refine MM.sI e33 e35 al_274 d_M_readsClash_99 rfl ?_
          refine MM.aload_n (i := 0) rfl rfl d_M_readsClash_100 rfl ?_
          refine MM.gR 9 2 tg_261 rq_9_10 rfl lays_9 ww_1368 d_M_readsClash_101 rfl ?_
          refine MM.bipush bp_7 d_M_readsClash_104 rfl ?_
          refine MM.dup2 rfl rfl d_M_readsClash_106 rfl ?_
          refine MM.gI ix_7_8 al_263 d_M_readsClash_107 rfl ?_
          refine MM.iconst ic_1 d_M_readsClash_108 rfl ?_
          refine MM.iadd d_M_readsClash_109 rfl ?_
          obtain ⟨h36, e37, hf⟩ := mm_letE hf
          refine MM.sI ix_7_8 e37 al_263 d_M_readsClash_110 rfl ?_
          refine MM.aload_n (i := 0) rfl rfl d_M_readsClash_111 rfl ?_
          obtain ⟨v39, e38, hf⟩ := mm_bind hf
          refine MM.callV1 (T_M_closes V l  h36 _ e38) (fun _ _ q => q) cal_M_closes rfl tg_261 ct_9 ww_51 ww_1673 ww_1671 (by decide) (by simp [Value.category]) d_M_readsClash_112 rfl ⟨rfl, rfl⟩ rfl ?_
          obtain ⟨b40, e41, hf⟩ := mm_bind hf
          obtain ⟨ob40, e41⟩ := mm_boE e41
          subst e41
          obtain rfl := Option.some.inj hf
          subst hZ
          exact MM.zret ob40 rfl d_M_readsClash_115 ⟨rfl, rfl⟩
        · replace hf := m43 c42
          exact MM.sub [2] (by rfl) (K14 _ hf)
    · replace hf := m50 c49
      refine MM.iconst ic_0 d_M_readsClash_31 rfl ?_
      obtain rfl := Option.some.inj hf
      subst hZ
      exact MM.zret (Or.inl rfl) rfl d_M_readsClash_32 ⟨rfl, rfl⟩
  · replace hf := m53 c52
    refine MM.iconst ic_0 d_M_readsClash_12 rfl ?_
    obtain rfl := Option.some.inj hf
    subst hZ
    exact MM.zret (Or.inl rfl) rfl d_M_readsClash_13 ⟨rfl, rfl⟩
theorem d_M_readsWorth_0 : decode cX12_readsWorth 0 = .ok (.aload_n 0, 1) := by decide +kernel
theorem d_M_readsWorth_1 : decode cX12_readsWorth 1 = .ok (.getfield 62, 3) := by decide +kernel
theorem d_M_readsWorth_4 : decode cX12_readsWorth 4 = .ok (.iconst 1, 1) := by decide +kernel
theorem d_M_readsWorth_5 : decode cX12_readsWorth 5 = .ok (.iaload, 1) := by decide +kernel
theorem d_M_readsWorth_6 : decode cX12_readsWorth 6 = .ok (.aload_n 0, 1) := by decide +kernel
theorem d_M_readsWorth_7 : decode cX12_readsWorth 7 = .ok (.getfield 59, 3) := by decide +kernel
theorem d_M_readsWorth_10 : decode cX12_readsWorth 10 = .ok (.iconst 1, 1) := by decide +kernel
theorem d_M_readsWorth_11 : decode cX12_readsWorth 11 = .ok (.iaload, 1) := by decide +kernel
theorem d_M_readsWorth_12 : decode cX12_readsWorth 12 = .ok (.if_icmp .le 9, 3) := by decide +kernel
theorem d_M_readsWorth_15 : decode cX12_readsWorth 15 = .ok (.aload_n 0, 1) := by decide +kernel
theorem d_M_readsWorth_16 : decode cX12_readsWorth 16 = .ok (.iconst 3, 1) := by decide +kernel
theorem d_M_readsWorth_17 : decode cX12_readsWorth 17 = .ok (.invokevirtual 239, 3) := by decide +kernel
theorem d_M_readsWorth_20 : decode cX12_readsWorth 20 = .ok (.ireturn, 1) := by decide +kernel
theorem d_M_readsWorth_21 : decode cX12_readsWorth 21 = .ok (.aload_n 0, 1) := by decide +kernel
theorem d_M_readsWorth_22 : decode cX12_readsWorth 22 = .ok (.invokevirtual 246, 3) := by decide +kernel
theorem d_M_readsWorth_25 : decode cX12_readsWorth 25 = .ok (.aload_n 0, 1) := by decide +kernel
theorem d_M_readsWorth_26 : decode cX12_readsWorth 26 = .ok (.getfield 59, 3) := by decide +kernel
theorem d_M_readsWorth_29 : decode cX12_readsWorth 29 = .ok (.iconst 1, 1) := by decide +kernel
theorem d_M_readsWorth_30 : decode cX12_readsWorth 30 = .ok (.aload_n 0, 1) := by decide +kernel
theorem d_M_readsWorth_31 : decode cX12_readsWorth 31 = .ok (.getfield 214, 3) := by decide +kernel
theorem d_M_readsWorth_34 : decode cX12_readsWorth 34 = .ok (.iastore, 1) := by decide +kernel
theorem d_M_readsWorth_35 : decode cX12_readsWorth 35 = .ok (.aload_n 0, 1) := by decide +kernel
theorem d_M_readsWorth_36 : decode cX12_readsWorth 36 = .ok (.invokevirtual 351, 3) := by decide +kernel
theorem d_M_readsWorth_39 : decode cX12_readsWorth 39 = .ok (.ifCond .ne 5, 3) := by decide +kernel
theorem d_M_readsWorth_42 : decode cX12_readsWorth 42 = .ok (.iconst 0, 1) := by decide +kernel
theorem d_M_readsWorth_43 : decode cX12_readsWorth 43 = .ok (.ireturn, 1) := by decide +kernel
theorem d_M_readsWorth_44 : decode cX12_readsWorth 44 = .ok (.aload_n 0, 1) := by decide +kernel
theorem d_M_readsWorth_45 : decode cX12_readsWorth 45 = .ok (.getfield 62, 3) := by decide +kernel
theorem d_M_readsWorth_48 : decode cX12_readsWorth 48 = .ok (.iconst 1, 1) := by decide +kernel
theorem d_M_readsWorth_49 : decode cX12_readsWorth 49 = .ok (.aload_n 0, 1) := by decide +kernel
theorem d_M_readsWorth_50 : decode cX12_readsWorth 50 = .ok (.getfield 214, 3) := by decide +kernel
theorem d_M_readsWorth_53 : decode cX12_readsWorth 53 = .ok (.iastore, 1) := by decide +kernel
theorem d_M_readsWorth_54 : decode cX12_readsWorth 54 = .ok (.iconst 1, 1) := by decide +kernel
theorem d_M_readsWorth_55 : decode cX12_readsWorth 55 = .ok (.ireturn, 1) := by decide +kernel
noncomputable def f_M_readsWorth (h : mm_H) : Option (Int32 × mm_H) := if (h.1 279 1) ≤ (h.1 278 1) then ((f_M_nextToken h).bind fun v2 => mm_let (mm_pI v2 278 1 (v2.1 261 28)) fun h3 => (f_M_reads h3).bind fun v6 => if v6.1 = 0 then (some (0, v6.2)) else (mm_let (mm_pI v6.2 279 1 (v6.2.1 261 28)) fun h7 => some (1, h7))) else ((f_M_fails 3 h).bind fun v13 => (mm_bo v13.1).bind fun b14 => some (b14, v13.2))
theorem T_M_readsWorth (V : mm_V) (l : Launch) (h : mm_H) (r : (Int32 × mm_H)) (hf : f_M_readsWorth h = some r) : MT V l Y_M_readsWorth 4 [.ref 261] (fun r1 h1 => r1 = some (.int r.1) ∧ h1 = r.2) h := by
  unfold f_M_readsWorth at hf
  refine MT.intro (pn_M rfl) [(0, .ref 261)] rfl (Nat.le_of_ble_eq_true rfl) ?_
  generalize hZ : mm_Z V _ = Z0
  refine MM.aload_n (i := 0) rfl rfl d_M_readsWorth_0 rfl ?_
  refine MM.gR 9 18 tg_261 rq_9_26 rfl lays_9 ww_1384 d_M_readsWorth_1 rfl ?_
  refine MM.iconst ic_1 d_M_readsWorth_4 rfl ?_
  refine MM.gI ix_1_2 al_279 d_M_readsWorth_5 rfl ?_
  refine MM.aload_n (i := 0) rfl rfl d_M_readsWorth_6 rfl ?_
  refine MM.gR 9 17 tg_261 rq_9_25 rfl lays_9 ww_1383 d_M_readsWorth_7 rfl ?_
  refine MM.iconst ic_1 d_M_readsWorth_10 rfl ?_
  refine MM.gI ix_1_2 al_278 d_M_readsWorth_11 rfl ?_
  obtain ⟨m17, m18⟩ := mm_ifE hf
  refine MM.icmp_le (tgt := 21) d_M_readsWorth_12 rfl rfl (fun c16 => ?_) (fun c16 => ?_)
  · replace hf := m17 c16
    refine MM.aload_n (i := 0) rfl rfl d_M_readsWorth_21 rfl ?_
    obtain ⟨v2, e1, hf⟩ := mm_bind hf
    refine MM.callV0 (T_M_nextToken V l  h _ e1) (fun _ _ q => q) cal_M_nextToken rfl tg_261 ct_9 ww_39 ww_1593 ww_1591 (by decide) (by simp [Value.category]) d_M_readsWorth_22 rfl ⟨rfl, rfl⟩ rfl ?_
    refine MM.aload_n (i := 0) rfl rfl d_M_readsWorth_25 rfl ?_
    refine MM.gR 9 17 tg_261 rq_9_25 rfl lays_9 ww_1383 d_M_readsWorth_26 rfl ?_
    refine MM.iconst ic_1 d_M_readsWorth_29 rfl ?_
    refine MM.aload_n (i := 0) rfl rfl d_M_readsWorth_30 rfl ?_
    refine MM.getI 9 tg_261 lays_9 gq_9_28 ww_1386 d_M_readsWorth_31 rfl ?_
    obtain ⟨h3, e4, hf⟩ := mm_letE hf
    refine MM.sI ix_1_2 e4 al_278 d_M_readsWorth_34 rfl ?_
    refine MM.aload_n (i := 0) rfl rfl d_M_readsWorth_35 rfl ?_
    obtain ⟨v6, e5, hf⟩ := mm_bind hf
    refine MM.callV1 (T_M_reads V l  h3 _ e5) (fun _ _ q => q) cal_M_reads rfl tg_261 ct_9 ww_60 ww_1709 ww_1707 (by decide) (by simp [Value.category]) d_M_readsWorth_36 rfl ⟨rfl, rfl⟩ rfl ?_
    obtain ⟨m10, m11⟩ := mm_ifE hf
    refine MM.if_ne (tgt := 44) d_M_readsWorth_39 rfl rfl (fun c9 => ?_) (fun c9 => ?_)
    · replace hf := m11 c9
      refine MM.aload_n (i := 0) rfl rfl d_M_readsWorth_44 rfl ?_
      refine MM.gR 9 18 tg_261 rq_9_26 rfl lays_9 ww_1384 d_M_readsWorth_45 rfl ?_
      refine MM.iconst ic_1 d_M_readsWorth_48 rfl ?_
      refine MM.aload_n (i := 0) rfl rfl d_M_readsWorth_49 rfl ?_
      refine MM.getI 9 tg_261 lays_9 gq_9_28 ww_1386 d_M_readsWorth_50 rfl ?_
      obtain ⟨h7, e8, hf⟩ := mm_letE hf
      refine MM.sI ix_1_2 e8 al_279 d_M_readsWorth_53 rfl ?_
      refine MM.iconst ic_1 d_M_readsWorth_54 rfl ?_
      obtain rfl := Option.some.inj hf
      subst hZ
      exact MM.zret (Or.inr rfl) rfl d_M_readsWorth_55 ⟨rfl, rfl⟩
    · replace hf := m10 c9
      refine MM.iconst ic_0 d_M_readsWorth_42 rfl ?_
      obtain rfl := Option.some.inj hf
      subst hZ
      exact MM.zret (Or.inl rfl) rfl d_M_readsWorth_43 ⟨rfl, rfl⟩
  · replace hf := m18 c16
    refine MM.aload_n (i := 0) rfl rfl d_M_readsWorth_15 rfl ?_
    refine MM.iconst ic_3 d_M_readsWorth_16 rfl ?_
    obtain ⟨v13, e12, hf⟩ := mm_bind hf
    refine MM.callV1 (T_M_fails V l 3 h _ e12) (fun _ _ q => q) cal_M_fails rfl tg_261 ct_9 ww_43 ww_1612 ww_1610 (by decide) (by simp [Value.category]) d_M_readsWorth_17 rfl ⟨rfl, rfl⟩ rfl ?_
    obtain ⟨b14, e15, hf⟩ := mm_bind hf
    obtain ⟨ob14, e15⟩ := mm_boE e15
    subst e15
    obtain rfl := Option.some.inj hf
    subst hZ
    exact MM.zret ob14 rfl d_M_readsWorth_20 ⟨rfl, rfl⟩
theorem d_M_starts_0 : decode cX12_starts 0 = .ok (.aload_n 0, 1) := by decide +kernel
theorem d_M_starts_1 : decode cX12_starts 1 = .ok (.aload_n 0, 1) := by decide +kernel
theorem d_M_starts_2 : decode cX12_starts 2 = .ok (.getfield 181, 3) := by decide +kernel
theorem d_M_starts_5 : decode cX12_starts 5 = .ok (.putfield 184, 3) := by decide +kernel
theorem d_M_starts_8 : decode cX12_starts 8 = .ok (.aload_n 0, 1) := by decide +kernel
theorem d_M_starts_9 : decode cX12_starts 9 = .ok (.iconst 0, 1) := by decide +kernel
theorem d_M_starts_10 : decode cX12_starts 10 = .ok (.putfield 181, 3) := by decide +kernel
theorem d_M_starts_13 : decode cX12_starts 13 = .ok (.aload_n 0, 1) := by decide +kernel
theorem d_M_starts_14 : decode cX12_starts 14 = .ok (.iconst 0, 1) := by decide +kernel
theorem d_M_starts_15 : decode cX12_starts 15 = .ok (.putfield 187, 3) := by decide +kernel
theorem d_M_starts_18 : decode cX12_starts 18 = .ok (.aload_n 0, 1) := by decide +kernel
theorem d_M_starts_19 : decode cX12_starts 19 = .ok (.invokevirtual 246, 3) := by decide +kernel
theorem d_M_starts_22 : decode cX12_starts 22 = .ok (.return_, 1) := by decide +kernel
noncomputable def f_M_starts (h : mm_H) : Option mm_H := mm_let (mm_pI h 261 3 (h.1 261 1)) fun h1 => mm_let (mm_pI h1 261 1 0) fun h3 => mm_let (mm_pI h3 261 4 0) fun h5 => (f_M_nextToken h5).bind fun v8 => some v8
theorem T_M_starts (V : mm_V) (l : Launch) (h : mm_H) (r : mm_H) (hf : f_M_starts h = some r) : MT V l Y_M_starts 3 [.ref 261] (fun r1 h1 => r1 = none ∧ h1 = r) h := by
  unfold f_M_starts at hf
  refine MT.intro (pn_M rfl) [(0, .ref 261)] rfl (Nat.le_of_ble_eq_true rfl) ?_
  generalize hZ : mm_Z V _ = Z0
  refine MM.aload_n (i := 0) rfl rfl d_M_starts_0 rfl ?_
  refine MM.aload_n (i := 0) rfl rfl d_M_starts_1 rfl ?_
  refine MM.getI 9 tg_261 lays_9 gq_9_1 ww_1359 d_M_starts_2 rfl ?_
  obtain ⟨h1, e2, hf⟩ := mm_letE hf
  refine MM.putI e2 9 tg_261 lays_9 toks_9 pq_9_3 ww_1361 d_M_starts_5 rfl ?_
  refine MM.aload_n (i := 0) rfl rfl d_M_starts_8 rfl ?_
  refine MM.iconst ic_0 d_M_starts_9 rfl ?_
  obtain ⟨h3, e4, hf⟩ := mm_letE hf
  refine MM.putI e4 9 tg_261 lays_9 toks_9 pq_9_1 ww_1359 d_M_starts_10 rfl ?_
  refine MM.aload_n (i := 0) rfl rfl d_M_starts_13 rfl ?_
  refine MM.iconst ic_0 d_M_starts_14 rfl ?_
  obtain ⟨h5, e6, hf⟩ := mm_letE hf
  refine MM.putI e6 9 tg_261 lays_9 toks_9 pq_9_4 ww_1362 d_M_starts_15 rfl ?_
  refine MM.aload_n (i := 0) rfl rfl d_M_starts_18 rfl ?_
  obtain ⟨v8, e7, hf⟩ := mm_bind hf
  refine MM.callV0 (T_M_nextToken V l  h5 _ e7) (fun _ _ q => q) cal_M_nextToken rfl tg_261 ct_9 ww_39 ww_1593 ww_1591 (by decide) (by simp [Value.category]) d_M_starts_19 rfl ⟨rfl, rfl⟩ rfl ?_
  obtain rfl := Option.some.inj hf
  subst hZ
  exact MM.vret rfl d_M_starts_22 ⟨rfl, rfl⟩
