/-! methods: M_readsAll, M_moves, M_movesNames, M_lays, M_copies, M_readsTelling, M_readsPayment, M_readsRise, M_readsLine, M_laysLines, M_laysSeen -/
theorem d_M_readsAll_0 : decode cX12_readsAll 0 = .ok (.iconst 4, 1) := by decide +kernel
theorem d_M_readsAll_1 : decode cX12_readsAll 1 = .ok (.istore_n 1, 1) := by decide +kernel
theorem d_M_readsAll_2 : decode cX12_readsAll 2 = .ok (.iload_n 1, 1) := by decide +kernel
theorem d_M_readsAll_3 : decode cX12_readsAll 3 = .ok (.bipush 8, 2) := by decide +kernel
theorem d_M_readsAll_5 : decode cX12_readsAll 5 = .ok (.if_icmp .ge 16, 3) := by decide +kernel
theorem d_M_readsAll_8 : decode cX12_readsAll 8 = .ok (.aload_n 0, 1) := by decide +kernel
theorem d_M_readsAll_9 : decode cX12_readsAll 9 = .ok (.getfield 13, 3) := by decide +kernel
theorem d_M_readsAll_12 : decode cX12_readsAll 12 = .ok (.iload_n 1, 1) := by decide +kernel
theorem d_M_readsAll_13 : decode cX12_readsAll 13 = .ok (.iconst 0, 1) := by decide +kernel
theorem d_M_readsAll_14 : decode cX12_readsAll 14 = .ok (.iastore, 1) := by decide +kernel
theorem d_M_readsAll_15 : decode cX12_readsAll 15 = .ok (.iinc 1 1, 3) := by decide +kernel
theorem d_M_readsAll_18 : decode cX12_readsAll 18 = .ok (.goto (-16), 3) := by decide +kernel
theorem d_M_readsAll_21 : decode cX12_readsAll 21 = .ok (.aload_n 0, 1) := by decide +kernel
theorem d_M_readsAll_22 : decode cX12_readsAll 22 = .ok (.getfield 59, 3) := by decide +kernel
theorem d_M_readsAll_25 : decode cX12_readsAll 25 = .ok (.iconst 1, 1) := by decide +kernel
theorem d_M_readsAll_26 : decode cX12_readsAll 26 = .ok (.sipush 1000, 3) := by decide +kernel
theorem d_M_readsAll_29 : decode cX12_readsAll 29 = .ok (.iastore, 1) := by decide +kernel
theorem d_M_readsAll_30 : decode cX12_readsAll 30 = .ok (.aload_n 0, 1) := by decide +kernel
theorem d_M_readsAll_31 : decode cX12_readsAll 31 = .ok (.getfield 62, 3) := by decide +kernel
theorem d_M_readsAll_34 : decode cX12_readsAll 34 = .ok (.iconst 1, 1) := by decide +kernel
theorem d_M_readsAll_35 : decode cX12_readsAll 35 = .ok (.sipush 1000, 3) := by decide +kernel
theorem d_M_readsAll_38 : decode cX12_readsAll 38 = .ok (.iastore, 1) := by decide +kernel
theorem d_M_readsAll_39 : decode cX12_readsAll 39 = .ok (.aload_n 0, 1) := by decide +kernel
theorem d_M_readsAll_40 : decode cX12_readsAll 40 = .ok (.sipush 1000, 3) := by decide +kernel
theorem d_M_readsAll_43 : decode cX12_readsAll 43 = .ok (.putfield 214, 3) := by decide +kernel
theorem d_M_readsAll_46 : decode cX12_readsAll 46 = .ok (.aload_n 0, 1) := by decide +kernel
theorem d_M_readsAll_47 : decode cX12_readsAll 47 = .ok (.invokevirtual 354, 3) := by decide +kernel
theorem d_M_readsAll_50 : decode cX12_readsAll 50 = .ok (.aload_n 0, 1) := by decide +kernel
theorem d_M_readsAll_51 : decode cX12_readsAll 51 = .ok (.getfield 200, 3) := by decide +kernel
theorem d_M_readsAll_54 : decode cX12_readsAll 54 = .ok (.ifCond .eq 103, 3) := by decide +kernel
theorem d_M_readsAll_57 : decode cX12_readsAll 57 = .ok (.aload_n 0, 1) := by decide +kernel
theorem d_M_readsAll_58 : decode cX12_readsAll 58 = .ok (.ldc2_w 262, 3) := by decide +kernel
theorem d_M_readsAll_61 : decode cX12_readsAll 61 = .ok (.invokevirtual 231, 3) := by decide +kernel
theorem d_M_readsAll_64 : decode cX12_readsAll 64 = .ok (.ifCond .eq 10, 3) := by decide +kernel
theorem d_M_readsAll_67 : decode cX12_readsAll 67 = .ok (.aload_n 0, 1) := by decide +kernel
theorem d_M_readsAll_68 : decode cX12_readsAll 68 = .ok (.invokevirtual 357, 3) := by decide +kernel
theorem d_M_readsAll_71 : decode cX12_readsAll 71 = .ok (.goto 76, 3) := by decide +kernel
theorem d_M_readsAll_74 : decode cX12_readsAll 74 = .ok (.aload_n 0, 1) := by decide +kernel
theorem d_M_readsAll_75 : decode cX12_readsAll 75 = .ok (.ldc2_w 268, 3) := by decide +kernel
theorem d_M_readsAll_78 : decode cX12_readsAll 78 = .ok (.invokevirtual 231, 3) := by decide +kernel
theorem d_M_readsAll_81 : decode cX12_readsAll 81 = .ok (.ifCond .eq 10, 3) := by decide +kernel
theorem d_M_readsAll_84 : decode cX12_readsAll 84 = .ok (.aload_n 0, 1) := by decide +kernel
theorem d_M_readsAll_85 : decode cX12_readsAll 85 = .ok (.invokevirtual 360, 3) := by decide +kernel
theorem d_M_readsAll_88 : decode cX12_readsAll 88 = .ok (.goto 59, 3) := by decide +kernel
theorem d_M_readsAll_91 : decode cX12_readsAll 91 = .ok (.aload_n 0, 1) := by decide +kernel
theorem d_M_readsAll_92 : decode cX12_readsAll 92 = .ok (.ldc2_w 278, 3) := by decide +kernel
theorem d_M_readsAll_95 : decode cX12_readsAll 95 = .ok (.invokevirtual 231, 3) := by decide +kernel
theorem d_M_readsAll_98 : decode cX12_readsAll 98 = .ok (.ifCond .eq 10, 3) := by decide +kernel
theorem d_M_readsAll_101 : decode cX12_readsAll 101 = .ok (.aload_n 0, 1) := by decide +kernel
theorem d_M_readsAll_102 : decode cX12_readsAll 102 = .ok (.invokevirtual 363, 3) := by decide +kernel
theorem d_M_readsAll_105 : decode cX12_readsAll 105 = .ok (.goto 42, 3) := by decide +kernel
theorem d_M_readsAll_108 : decode cX12_readsAll 108 = .ok (.aload_n 0, 1) := by decide +kernel
theorem d_M_readsAll_109 : decode cX12_readsAll 109 = .ok (.ldc2_w 280, 3) := by decide +kernel
theorem d_M_readsAll_112 : decode cX12_readsAll 112 = .ok (.invokevirtual 231, 3) := by decide +kernel
theorem d_M_readsAll_115 : decode cX12_readsAll 115 = .ok (.ifCond .eq 10, 3) := by decide +kernel
theorem d_M_readsAll_118 : decode cX12_readsAll 118 = .ok (.aload_n 0, 1) := by decide +kernel
theorem d_M_readsAll_119 : decode cX12_readsAll 119 = .ok (.invokevirtual 366, 3) := by decide +kernel
theorem d_M_readsAll_122 : decode cX12_readsAll 122 = .ok (.goto 25, 3) := by decide +kernel
theorem d_M_readsAll_125 : decode cX12_readsAll 125 = .ok (.aload_n 0, 1) := by decide +kernel
theorem d_M_readsAll_126 : decode cX12_readsAll 126 = .ok (.ldc2_w 282, 3) := by decide +kernel
theorem d_M_readsAll_129 : decode cX12_readsAll 129 = .ok (.invokevirtual 231, 3) := by decide +kernel
theorem d_M_readsAll_132 : decode cX12_readsAll 132 = .ok (.ifCond .eq 10, 3) := by decide +kernel
theorem d_M_readsAll_135 : decode cX12_readsAll 135 = .ok (.aload_n 0, 1) := by decide +kernel
theorem d_M_readsAll_136 : decode cX12_readsAll 136 = .ok (.invokevirtual 369, 3) := by decide +kernel
theorem d_M_readsAll_139 : decode cX12_readsAll 139 = .ok (.goto 8, 3) := by decide +kernel
theorem d_M_readsAll_142 : decode cX12_readsAll 142 = .ok (.aload_n 0, 1) := by decide +kernel
theorem d_M_readsAll_143 : decode cX12_readsAll 143 = .ok (.iconst 1, 1) := by decide +kernel
theorem d_M_readsAll_144 : decode cX12_readsAll 144 = .ok (.invokevirtual 239, 3) := by decide +kernel
theorem d_M_readsAll_147 : decode cX12_readsAll 147 = .ok (.istore_n 1, 1) := by decide +kernel
theorem d_M_readsAll_148 : decode cX12_readsAll 148 = .ok (.iload_n 1, 1) := by decide +kernel
theorem d_M_readsAll_149 : decode cX12_readsAll 149 = .ok (.ifCond .ne 5, 3) := by decide +kernel
theorem d_M_readsAll_152 : decode cX12_readsAll 152 = .ok (.iconst 0, 1) := by decide +kernel
theorem d_M_readsAll_153 : decode cX12_readsAll 153 = .ok (.ireturn, 1) := by decide +kernel
theorem d_M_readsAll_154 : decode cX12_readsAll 154 = .ok (.goto (-104), 3) := by decide +kernel
theorem d_M_readsAll_157 : decode cX12_readsAll 157 = .ok (.iconst 1, 1) := by decide +kernel
theorem d_M_readsAll_158 : decode cX12_readsAll 158 = .ok (.ireturn, 1) := by decide +kernel
noncomputable def f_M_readsAll (h : mm_H) : Option (Int32 × mm_H) := (mm_while (σ := (Int32 × mm_H)) (ρ := mm_H) (fun s1 => if 8 ≤ s1.1 then (some (Sum.inr s1.2)) else ((mm_ix s1.1 8).bind fun k7 => mm_let (mm_pI s1.2 263 k7 0) fun h9 => mm_let (s1.1 + 1) fun y11 => some (Sum.inl (y11, h9)))) (4, h)).bind fun v4 => mm_let (mm_pI v4 278 1 1000) fun h16 => mm_let (mm_pI h16 279 1 1000) fun h18 => mm_let (mm_pI h18 261 28 1000) fun h20 => (f_M_starts h20).bind fun v23 => mm_while (σ := mm_H) (ρ := (Int32 × mm_H)) (fun s24 => if (s24.1 261 6) = 0 then (some (Sum.inr (1, s24))) else ((f_M_isWord (232608281 : Int64) s24).bind fun v28 => (if v28 = 0 then ((f_M_isWord (275358764 : Int64) s24).bind fun v32 => if v32 = 0 then ((f_M_isWord (3690 : Int64) s24).bind fun v34 => if v34 = 0 then ((f_M_isWord (1831769 : Int64) s24).bind fun v36 => if v36 = 0 then ((f_M_isWord (12532058 : Int64) s24).bind fun v38 => if v38 = 0 then ((f_M_fails 1 s24).bind fun v40 => some (v40.1, v40.2)) else ((f_M_readsWorth s24).bind fun v42 => some (v42.1, v42.2))) else ((f_M_readsClash s24).bind fun v47 => some (v47.1, v47.2))) else ((f_M_readsEar s24).bind fun v52 => some (v52.1, v52.2))) else ((f_M_readsSecret s24).bind fun v57 => some (v57.1, v57.2))) else ((f_M_readsPerson s24).bind fun v62 => some (v62.1, v62.2)) : Option (Int32 × mm_H)).bind fun j29 => if j29.1 = 0 then (some (Sum.inr (0, j29.2))) else (some (Sum.inl j29.2)))) v23
theorem T_M_readsAll (V : mm_V) (l : Launch) (h : mm_H) (r : (Int32 × mm_H)) (hf : f_M_readsAll h = some r) : MT V l Y_M_readsAll 6 [.ref 261] (fun r1 h1 => r1 = some (.int r.1) ∧ h1 = r.2) h := by
  unfold f_M_readsAll at hf
  refine MT.intro (pn_M rfl) [(0, .ref 261)] rfl (Nat.le_of_ble_eq_true rfl) ?_
  generalize hZ : mm_Z V _ = Z0
  refine MM.iconst ic_4 d_M_readsAll_0 rfl ?_
  refine MM.istore_n (i := 1) (lv' := [(1, .int 4), (0, .ref 261)]) rfl rfl (Nat.le_of_ble_eq_true rfl) rfl d_M_readsAll_1 rfl ?_
  obtain ⟨v4, e6, hf⟩ := mm_bind hf
  have K5 : MM V l Y_M_readsAll 6 0 0 Z0 21 [(0, .ref 261)] [] v4 := by
    refine MM.aload_n (i := 0) rfl rfl d_M_readsAll_21 rfl ?_
    refine MM.gR 9 17 tg_261 rq_9_25 rfl lays_9 ww_1383 d_M_readsAll_22 rfl ?_
    refine MM.iconst ic_1 d_M_readsAll_25 rfl ?_
    refine MM.sipush sp_1000 d_M_readsAll_26 rfl ?_
    obtain ⟨h16, e17, hf⟩ := mm_letE hf
    refine MM.sI ix_1_2 e17 al_278 d_M_readsAll_29 rfl ?_
    refine MM.aload_n (i := 0) rfl rfl d_M_readsAll_30 rfl ?_
    refine MM.gR 9 18 tg_261 rq_9_26 rfl lays_9 ww_1384 d_M_readsAll_31 rfl ?_
    refine MM.iconst ic_1 d_M_readsAll_34 rfl ?_
    refine MM.sipush sp_1000 d_M_readsAll_35 rfl ?_
    obtain ⟨h18, e19, hf⟩ := mm_letE hf
    refine MM.sI ix_1_2 e19 al_279 d_M_readsAll_38 rfl ?_
    refine MM.aload_n (i := 0) rfl rfl d_M_readsAll_39 rfl ?_
    refine MM.sipush sp_1000 d_M_readsAll_40 rfl ?_
    obtain ⟨h20, e21, hf⟩ := mm_letE hf
    refine MM.putI e21 9 tg_261 lays_9 toks_9 pq_9_28 ww_1386 d_M_readsAll_43 rfl ?_
    refine MM.aload_n (i := 0) rfl rfl d_M_readsAll_46 rfl ?_
    obtain ⟨v23, e22, hf⟩ := mm_bind hf
    refine MM.callV0 (T_M_starts V l  h20 _ e22) (fun _ _ q => q) cal_M_starts rfl tg_261 ct_9 ww_38 ww_1589 ww_1587 (by decide) (by simp [Value.category]) d_M_readsAll_47 rfl ⟨rfl, rfl⟩ rfl ?_
    refine MM.sub [0] (by rfl) (mm_while_ind (fun s24 => MM V l Y_M_readsAll 6 0 0 Z0 50 [(0, .ref 261)] [] s24) hf (fun s24 q25 hf hx26 => ?_))
    refine MM.aload_n (i := 0) rfl rfl d_M_readsAll_50 rfl ?_
    refine MM.getI 9 tg_261 lays_9 gq_9_6 ww_1364 d_M_readsAll_51 rfl ?_
    obtain ⟨m71, m72⟩ := mm_ifE hf
    refine MM.if_eq (tgt := 157) d_M_readsAll_54 rfl rfl (fun c70 => ?_) (fun c70 => ?_)
    · replace hf := m71 c70
      refine MM.iconst ic_1 d_M_readsAll_157 rfl ?_
      obtain rfl := Option.some.inj hf
      replace hf := mm_wxR hx26
      obtain rfl := Option.some.inj hf
      subst hZ
      exact MM.zret (Or.inr rfl) rfl d_M_readsAll_158 ⟨rfl, rfl⟩
    · replace hf := m72 c70
      refine MM.aload_n (i := 0) rfl rfl d_M_readsAll_57 rfl ?_
      refine MM.ldc2 ww_1601 d_M_readsAll_58 rfl ?_
      obtain ⟨v28, e27, hf⟩ := mm_bind hf
      refine MM.callV1 (T_M_isWord V l (232608281 : Int64) s24 _ e27) (fun _ _ q => q) cal_M_isWord rfl tg_261 ct_9 ww_41 ww_1604 ww_1602 (by decide) (by simp [Value.category]) d_M_readsAll_61 rfl ⟨rfl, rfl⟩ rfl ?_
      obtain ⟨j29, e69, hf⟩ := mm_bind hf
      have K30 : MM V l Y_M_readsAll 6 0 0 Z0 147 [(0, .ref 261)] [.int j29.1] j29.2 := by
        refine MM.istore_n (i := 1) (lv' := [(1, .int j29.1), (0, .ref 261)]) rfl rfl (Nat.le_of_ble_eq_true rfl) rfl d_M_readsAll_147 rfl ?_
        refine MM.iload_n (i := 1) rfl rfl d_M_readsAll_148 rfl ?_
        obtain ⟨m67, m68⟩ := mm_ifE hf
        refine MM.if_ne (tgt := 154) d_M_readsAll_149 rfl rfl (fun c66 => ?_) (fun c66 => ?_)
        · replace hf := m68 c66
          refine MM.goto (tgt := 50) d_M_readsAll_154 rfl ?_
          obtain rfl := Option.some.inj hf
          have h9 := mm_wxL hx26
          exact MM.sub [1] (by rfl) h9
        · replace hf := m67 c66
          refine MM.iconst ic_0 d_M_readsAll_152 rfl ?_
          obtain rfl := Option.some.inj hf
          replace hf := mm_wxR hx26
          obtain rfl := Option.some.inj hf
          subst hZ
          exact MM.zret (Or.inl rfl) rfl d_M_readsAll_153 ⟨rfl, rfl⟩
      clear hf
      have hf := e69
      clear e69
      obtain ⟨m64, m65⟩ := mm_ifE hf
      refine MM.if_eq (tgt := 74) d_M_readsAll_64 rfl rfl (fun c63 => ?_) (fun c63 => ?_)
      · replace hf := m64 c63
        refine MM.aload_n (i := 0) rfl rfl d_M_readsAll_74 rfl ?_
        refine MM.ldc2 ww_1624 d_M_readsAll_75 rfl ?_
        obtain ⟨v32, e31, hf⟩ := mm_bind hf
        refine MM.callV1 (T_M_isWord V l (275358764 : Int64) s24 _ e31) (fun _ _ q => q) cal_M_isWord rfl tg_261 ct_9 ww_41 ww_1604 ww_1602 (by decide) (by simp [Value.category]) d_M_readsAll_78 rfl ⟨rfl, rfl⟩ rfl ?_
        obtain ⟨m59, m60⟩ := mm_ifE hf
        refine MM.if_eq (tgt := 91) d_M_readsAll_81 rfl rfl (fun c58 => ?_) (fun c58 => ?_)
        · replace hf := m59 c58
          refine MM.aload_n (i := 0) rfl rfl d_M_readsAll_91 rfl ?_
          refine MM.ldc2 ww_1629 d_M_readsAll_92 rfl ?_
          obtain ⟨v34, e33, hf⟩ := mm_bind hf
          refine MM.callV1 (T_M_isWord V l (3690 : Int64) s24 _ e33) (fun _ _ q => q) cal_M_isWord rfl tg_261 ct_9 ww_41 ww_1604 ww_1602 (by decide) (by simp [Value.category]) d_M_readsAll_95 rfl ⟨rfl, rfl⟩ rfl ?_
          obtain ⟨m54, m55⟩ := mm_ifE hf
          refine MM.if_eq (tgt := 108) d_M_readsAll_98 rfl rfl (fun c53 => ?_) (fun c53 => ?_)
          · replace hf := m54 c53
            refine MM.aload_n (i := 0) rfl rfl d_M_readsAll_108 rfl ?_
            refine MM.ldc2 ww_1630 d_M_readsAll_109 rfl ?_
            obtain ⟨v36, e35, hf⟩ := mm_bind hf
            refine MM.callV1 (T_M_isWord V l (1831769 : Int64) s24 _ e35) (fun _ _ q => q) cal_M_isWord rfl tg_261 ct_9 ww_41 ww_1604 ww_1602 (by decide) (by simp [Value.category]) d_M_readsAll_112 rfl ⟨rfl, rfl⟩ rfl ?_
            obtain ⟨m49, m50⟩ := mm_ifE hf
            refine MM.if_eq (tgt := 125) d_M_readsAll_115 rfl rfl (fun c48 => ?_) (fun c48 => ?_)
            · replace hf := m49 c48
              refine MM.aload_n (i := 0) rfl rfl d_M_readsAll_125 rfl ?_
              refine MM.ldc2 ww_1631 d_M_readsAll_126 rfl ?_
              obtain ⟨v38, e37, hf⟩ := mm_bind hf
              refine MM.callV1 (T_M_isWord V l (12532058 : Int64) s24 _ e37) (fun _ _ q => q) cal_M_isWord rfl tg_261 ct_9 ww_41 ww_1604 ww_1602 (by decide) (by simp [Value.category]) d_M_readsAll_129 rfl ⟨rfl, rfl⟩ rfl ?_
              obtain ⟨m44, m45⟩ := mm_ifE hf
              refine MM.if_eq (tgt := 142) d_M_readsAll_132 rfl rfl (fun c43 => ?_) (fun c43 => ?_)
              · replace hf := m44 c43
                refine MM.aload_n (i := 0) rfl rfl d_M_readsAll_142 rfl ?_
                refine MM.iconst ic_1 d_M_readsAll_143 rfl ?_
                obtain ⟨v40, e39, hf⟩ := mm_bind hf
                refine MM.callV1 (T_M_fails V l 1 s24 _ e39) (fun _ _ q => q) cal_M_fails rfl tg_261 ct_9 ww_43 ww_1612 ww_1610 (by decide) (by simp [Value.category]) d_M_readsAll_144 rfl ⟨rfl, rfl⟩ rfl ?_
                obtain rfl := Option.some.inj hf
                exact MM.sub [0] (by rfl) K30
              · replace hf := m45 c43
                refine MM.aload_n (i := 0) rfl rfl d_M_readsAll_135 rfl ?_
                obtain ⟨v42, e41, hf⟩ := mm_bind hf
                refine MM.callV1 (T_M_readsWorth V l  s24 _ e41) (fun _ _ q => q) cal_M_readsWorth rfl tg_261 ct_9 ww_59 ww_1705 ww_1703 (by decide) (by simp [Value.category]) d_M_readsAll_136 rfl ⟨rfl, rfl⟩ rfl ?_
                refine MM.goto (tgt := 147) d_M_readsAll_139 rfl ?_
                obtain rfl := Option.some.inj hf
                exact MM.sub [0] (by rfl) K30
            · replace hf := m50 c48
              refine MM.aload_n (i := 0) rfl rfl d_M_readsAll_118 rfl ?_
              obtain ⟨v47, e46, hf⟩ := mm_bind hf
              refine MM.callV1 (T_M_readsClash V l  s24 _ e46) (fun _ _ q => q) cal_M_readsClash rfl tg_261 ct_9 ww_58 ww_1701 ww_1699 (by decide) (by simp [Value.category]) d_M_readsAll_119 rfl ⟨rfl, rfl⟩ rfl ?_
              refine MM.goto (tgt := 147) d_M_readsAll_122 rfl ?_
              obtain rfl := Option.some.inj hf
              exact MM.sub [0] (by rfl) K30
          · replace hf := m55 c53
            refine MM.aload_n (i := 0) rfl rfl d_M_readsAll_101 rfl ?_
            obtain ⟨v52, e51, hf⟩ := mm_bind hf
            refine MM.callV1 (T_M_readsEar V l  s24 _ e51) (fun _ _ q => q) cal_M_readsEar rfl tg_261 ct_9 ww_57 ww_1697 ww_1695 (by decide) (by simp [Value.category]) d_M_readsAll_102 rfl ⟨rfl, rfl⟩ rfl ?_
            refine MM.goto (tgt := 147) d_M_readsAll_105 rfl ?_
            obtain rfl := Option.some.inj hf
            exact MM.sub [0] (by rfl) K30
        · replace hf := m60 c58
          refine MM.aload_n (i := 0) rfl rfl d_M_readsAll_84 rfl ?_
          obtain ⟨v57, e56, hf⟩ := mm_bind hf
          refine MM.callV1 (T_M_readsSecret V l  s24 _ e56) (fun _ _ q => q) cal_M_readsSecret rfl tg_261 ct_9 ww_53 ww_1681 ww_1679 (by decide) (by simp [Value.category]) d_M_readsAll_85 rfl ⟨rfl, rfl⟩ rfl ?_
          refine MM.goto (tgt := 147) d_M_readsAll_88 rfl ?_
          obtain rfl := Option.some.inj hf
          exact MM.sub [0] (by rfl) K30
      · replace hf := m65 c63
        refine MM.aload_n (i := 0) rfl rfl d_M_readsAll_67 rfl ?_
        obtain ⟨v62, e61, hf⟩ := mm_bind hf
        refine MM.callV1 (T_M_readsPerson V l  s24 _ e61) (fun _ _ q => q) cal_M_readsPerson rfl tg_261 ct_9 ww_42 ww_1608 ww_1606 (by decide) (by simp [Value.category]) d_M_readsAll_68 rfl ⟨rfl, rfl⟩ rfl ?_
        refine MM.goto (tgt := 147) d_M_readsAll_71 rfl ?_
        obtain rfl := Option.some.inj hf
        exact MM.sub [0] (by rfl) K30
  clear hf
  refine MM.sub [1, 0] (by rfl) (mm_while_ind (fun s1 => MM V l Y_M_readsAll 6 0 0 Z0 2 [(0, .ref 261), (1, .int s1.1)] [] s1.2) e6 (fun s1 q2 hf hx3 => ?_))
  refine MM.iload_n (i := 1) rfl rfl d_M_readsAll_2 rfl ?_
  refine MM.bipush bp_8 d_M_readsAll_3 rfl ?_
  obtain ⟨m14, m15⟩ := mm_ifE hf
  refine MM.icmp_ge (tgt := 21) d_M_readsAll_5 rfl rfl (fun c13 => ?_) (fun c13 => ?_)
  · replace hf := m14 c13
    obtain rfl := Option.some.inj hf
    obtain rfl := Option.some.inj (mm_wxR hx3)
    exact MM.sub [0] (by rfl) K5
  · replace hf := m15 c13
    refine MM.aload_n (i := 0) rfl rfl d_M_readsAll_8 rfl ?_
    refine MM.gR 9 2 tg_261 rq_9_10 rfl lays_9 ww_1368 d_M_readsAll_9 rfl ?_
    refine MM.iload_n (i := 1) rfl rfl d_M_readsAll_12 rfl ?_
    refine MM.iconst ic_0 d_M_readsAll_13 rfl ?_
    obtain ⟨k7, e8, hf⟩ := mm_bind hf
    obtain ⟨h9, e10, hf⟩ := mm_letE hf
    refine MM.sI e8 e10 al_263 d_M_readsAll_14 rfl ?_
    obtain ⟨y11, e12, hf⟩ := mm_letE hf
    refine MM.iinc (k0 := 1) (lv' := [(1, .int y11), (0, .ref 261)]) (by rw [ic_1]; exact e12) rfl (Nat.le_of_ble_eq_true rfl) rfl d_M_readsAll_15 rfl ?_
    refine MM.goto (tgt := 2) d_M_readsAll_18 rfl ?_
    obtain rfl := Option.some.inj hf
    have h9 := mm_wxL hx3
    exact MM.sub [1, 0] (by rfl) h9
theorem d_M_moves_0 : decode cX12_moves 0 = .ok (.iconst 0, 1) := by decide +kernel
theorem d_M_moves_1 : decode cX12_moves 1 = .ok (.istore_n 2, 1) := by decide +kernel
theorem d_M_moves_2 : decode cX12_moves 2 = .ok (.iload_n 2, 1) := by decide +kernel
theorem d_M_moves_3 : decode cX12_moves 3 = .ok (.iload_n 1, 1) := by decide +kernel
theorem d_M_moves_4 : decode cX12_moves 4 = .ok (.if_icmp .ge 17, 3) := by decide +kernel
theorem d_M_moves_7 : decode cX12_moves 7 = .ok (.aload_n 0, 1) := by decide +kernel
theorem d_M_moves_8 : decode cX12_moves 8 = .ok (.iload_n 2, 1) := by decide +kernel
theorem d_M_moves_9 : decode cX12_moves 9 = .ok (.aload_n 0, 1) := by decide +kernel
theorem d_M_moves_10 : decode cX12_moves 10 = .ok (.iload_n 1, 1) := by decide +kernel
theorem d_M_moves_11 : decode cX12_moves 11 = .ok (.iload_n 2, 1) := by decide +kernel
theorem d_M_moves_12 : decode cX12_moves 12 = .ok (.iadd, 1) := by decide +kernel
theorem d_M_moves_13 : decode cX12_moves 13 = .ok (.iaload, 1) := by decide +kernel
theorem d_M_moves_14 : decode cX12_moves 14 = .ok (.iastore, 1) := by decide +kernel
theorem d_M_moves_15 : decode cX12_moves 15 = .ok (.iinc 2 1, 3) := by decide +kernel
theorem d_M_moves_18 : decode cX12_moves 18 = .ok (.goto (-16), 3) := by decide +kernel
theorem d_M_moves_21 : decode cX12_moves 21 = .ok (.return_, 1) := by decide +kernel
noncomputable def f_M_moves (a0 : Nat) (x1 : Int32) (h : mm_H) : Option mm_H := if mm_tg a0 = 20 then ((mm_while (σ := (Int32 × mm_H)) (ρ := mm_H) (fun s1 => if x1 ≤ s1.1 then (some (Sum.inr s1.2)) else ((mm_ix (x1 + s1.1) (mm_ln a0)).bind fun k7 => (mm_ix s1.1 (mm_ln a0)).bind fun k9 => mm_let (mm_pI s1.2 a0 k9 (s1.2.1 a0 k7)) fun h11 => mm_let (s1.1 + 1) fun y13 => some (Sum.inl (y13, h11)))) (0, h)).bind fun v4 => some v4) else none
theorem T_M_moves (V : mm_V) (l : Launch) (a0 : Nat) (x1 : Int32) (h : mm_H) (r : mm_H) (hf : f_M_moves a0 x1 h = some r) : MT V l Y_M_moves 1 [.ref a0, .int x1] (fun r1 h1 => r1 = none ∧ h1 = r) h := by
  unfold f_M_moves at hf
  obtain ⟨t_a0, hf⟩ := mm_chkE hf
  refine MT.intro (pn_M rfl) [(0, .ref a0), (1, .int x1)] rfl (Nat.le_of_ble_eq_true rfl) ?_
  generalize hZ : mm_Z V _ = Z0
  refine MM.iconst ic_0 d_M_moves_0 rfl ?_
  refine MM.istore_n (i := 2) (lv' := [(2, .int 0), (0, .ref a0), (1, .int x1)]) rfl rfl (Nat.le_of_ble_eq_true rfl) rfl d_M_moves_1 rfl ?_
  obtain ⟨v4, e6, hf⟩ := mm_bind hf
  have K5 : MM V l Y_M_moves 1 0 0 Z0 21 [] [] v4 := by
    obtain rfl := Option.some.inj hf
    subst hZ
    exact MM.vret rfl d_M_moves_21 ⟨rfl, rfl⟩
  clear hf
  refine MM.sub [1, 2, 0] (by rfl) (mm_while_ind (fun s1 => MM V l Y_M_moves 1 0 0 Z0 2 [(0, .ref a0), (1, .int x1), (2, .int s1.1)] [] s1.2) e6 (fun s1 q2 hf hx3 => ?_))
  refine MM.iload_n (i := 2) rfl rfl d_M_moves_2 rfl ?_
  refine MM.iload_n (i := 1) rfl rfl d_M_moves_3 rfl ?_
  obtain ⟨m16, m17⟩ := mm_ifE hf
  refine MM.icmp_ge (tgt := 21) d_M_moves_4 rfl rfl (fun c15 => ?_) (fun c15 => ?_)
  · replace hf := m16 c15
    obtain rfl := Option.some.inj hf
    obtain rfl := Option.some.inj (mm_wxR hx3)
    exact MM.sub [] (by rfl) K5
  · replace hf := m17 c15
    refine MM.aload_n (i := 0) rfl rfl d_M_moves_7 rfl ?_
    refine MM.iload_n (i := 2) rfl rfl d_M_moves_8 rfl ?_
    refine MM.aload_n (i := 0) rfl rfl d_M_moves_9 rfl ?_
    refine MM.iload_n (i := 1) rfl rfl d_M_moves_10 rfl ?_
    refine MM.iload_n (i := 2) rfl rfl d_M_moves_11 rfl ?_
    refine MM.iadd d_M_moves_12 rfl ?_
    obtain ⟨k7, e8, hf⟩ := mm_bind hf
    refine MM.gI e8 ⟨t_a0, rfl⟩ d_M_moves_13 rfl ?_
    obtain ⟨k9, e10, hf⟩ := mm_bind hf
    obtain ⟨h11, e12, hf⟩ := mm_letE hf
    refine MM.sI e10 e12 ⟨t_a0, rfl⟩ d_M_moves_14 rfl ?_
    obtain ⟨y13, e14, hf⟩ := mm_letE hf
    refine MM.iinc (k0 := 2) (lv' := [(2, .int y13), (0, .ref a0), (1, .int x1)]) (by rw [ic_1]; exact e14) rfl (Nat.le_of_ble_eq_true rfl) rfl d_M_moves_15 rfl ?_
    refine MM.goto (tgt := 2) d_M_moves_18 rfl ?_
    obtain rfl := Option.some.inj hf
    have h9 := mm_wxL hx3
    exact MM.sub [1, 2, 0] (by rfl) h9
theorem d_M_movesNames_0 : decode cX12_movesNames 0 = .ok (.iconst 0, 1) := by decide +kernel
theorem d_M_movesNames_1 : decode cX12_movesNames 1 = .ok (.istore_n 2, 1) := by decide +kernel
theorem d_M_movesNames_2 : decode cX12_movesNames 2 = .ok (.iload_n 2, 1) := by decide +kernel
theorem d_M_movesNames_3 : decode cX12_movesNames 3 = .ok (.iload_n 1, 1) := by decide +kernel
theorem d_M_movesNames_4 : decode cX12_movesNames 4 = .ok (.if_icmp .ge 17, 3) := by decide +kernel
theorem d_M_movesNames_7 : decode cX12_movesNames 7 = .ok (.aload_n 0, 1) := by decide +kernel
theorem d_M_movesNames_8 : decode cX12_movesNames 8 = .ok (.iload_n 2, 1) := by decide +kernel
theorem d_M_movesNames_9 : decode cX12_movesNames 9 = .ok (.aload_n 0, 1) := by decide +kernel
theorem d_M_movesNames_10 : decode cX12_movesNames 10 = .ok (.iload_n 1, 1) := by decide +kernel
theorem d_M_movesNames_11 : decode cX12_movesNames 11 = .ok (.iload_n 2, 1) := by decide +kernel
theorem d_M_movesNames_12 : decode cX12_movesNames 12 = .ok (.iadd, 1) := by decide +kernel
theorem d_M_movesNames_13 : decode cX12_movesNames 13 = .ok (.laload, 1) := by decide +kernel
theorem d_M_movesNames_14 : decode cX12_movesNames 14 = .ok (.lastore, 1) := by decide +kernel
theorem d_M_movesNames_15 : decode cX12_movesNames 15 = .ok (.iinc 2 1, 3) := by decide +kernel
theorem d_M_movesNames_18 : decode cX12_movesNames 18 = .ok (.goto (-16), 3) := by decide +kernel
theorem d_M_movesNames_21 : decode cX12_movesNames 21 = .ok (.return_, 1) := by decide +kernel
noncomputable def f_M_movesNames (a0 : Nat) (x1 : Int32) (h : mm_H) : Option mm_H := if mm_tg a0 = 21 then ((mm_while (σ := (Int32 × mm_H)) (ρ := mm_H) (fun s1 => if x1 ≤ s1.1 then (some (Sum.inr s1.2)) else ((mm_ix (x1 + s1.1) (mm_ln a0)).bind fun k7 => (mm_ix s1.1 (mm_ln a0)).bind fun k9 => mm_let (mm_pL s1.2 a0 k9 (s1.2.2.1 a0 k7)) fun h11 => mm_let (s1.1 + 1) fun y13 => some (Sum.inl (y13, h11)))) (0, h)).bind fun v4 => some v4) else none
theorem T_M_movesNames (V : mm_V) (l : Launch) (a0 : Nat) (x1 : Int32) (h : mm_H) (r : mm_H) (hf : f_M_movesNames a0 x1 h = some r) : MT V l Y_M_movesNames 1 [.ref a0, .int x1] (fun r1 h1 => r1 = none ∧ h1 = r) h := by
  unfold f_M_movesNames at hf
  obtain ⟨t_a0, hf⟩ := mm_chkE hf
  refine MT.intro (pn_M rfl) [(0, .ref a0), (1, .int x1)] rfl (Nat.le_of_ble_eq_true rfl) ?_
  generalize hZ : mm_Z V _ = Z0
  refine MM.iconst ic_0 d_M_movesNames_0 rfl ?_
  refine MM.istore_n (i := 2) (lv' := [(2, .int 0), (0, .ref a0), (1, .int x1)]) rfl rfl (Nat.le_of_ble_eq_true rfl) rfl d_M_movesNames_1 rfl ?_
  obtain ⟨v4, e6, hf⟩ := mm_bind hf
  have K5 : MM V l Y_M_movesNames 1 0 0 Z0 21 [] [] v4 := by
    obtain rfl := Option.some.inj hf
    subst hZ
    exact MM.vret rfl d_M_movesNames_21 ⟨rfl, rfl⟩
  clear hf
  refine MM.sub [1, 2, 0] (by rfl) (mm_while_ind (fun s1 => MM V l Y_M_movesNames 1 0 0 Z0 2 [(0, .ref a0), (1, .int x1), (2, .int s1.1)] [] s1.2) e6 (fun s1 q2 hf hx3 => ?_))
  refine MM.iload_n (i := 2) rfl rfl d_M_movesNames_2 rfl ?_
  refine MM.iload_n (i := 1) rfl rfl d_M_movesNames_3 rfl ?_
  obtain ⟨m16, m17⟩ := mm_ifE hf
  refine MM.icmp_ge (tgt := 21) d_M_movesNames_4 rfl rfl (fun c15 => ?_) (fun c15 => ?_)
  · replace hf := m16 c15
    obtain rfl := Option.some.inj hf
    obtain rfl := Option.some.inj (mm_wxR hx3)
    exact MM.sub [] (by rfl) K5
  · replace hf := m17 c15
    refine MM.aload_n (i := 0) rfl rfl d_M_movesNames_7 rfl ?_
    refine MM.iload_n (i := 2) rfl rfl d_M_movesNames_8 rfl ?_
    refine MM.aload_n (i := 0) rfl rfl d_M_movesNames_9 rfl ?_
    refine MM.iload_n (i := 1) rfl rfl d_M_movesNames_10 rfl ?_
    refine MM.iload_n (i := 2) rfl rfl d_M_movesNames_11 rfl ?_
    refine MM.iadd d_M_movesNames_12 rfl ?_
    obtain ⟨k7, e8, hf⟩ := mm_bind hf
    refine MM.gL e8 ⟨t_a0, rfl⟩ d_M_movesNames_13 rfl ?_
    obtain ⟨k9, e10, hf⟩ := mm_bind hf
    obtain ⟨h11, e12, hf⟩ := mm_letE hf
    refine MM.sL e10 e12 ⟨t_a0, rfl⟩ d_M_movesNames_14 rfl ?_
    obtain ⟨y13, e14, hf⟩ := mm_letE hf
    refine MM.iinc (k0 := 2) (lv' := [(2, .int y13), (0, .ref a0), (1, .int x1)]) (by rw [ic_1]; exact e14) rfl (Nat.le_of_ble_eq_true rfl) rfl d_M_movesNames_15 rfl ?_
    refine MM.goto (tgt := 2) d_M_movesNames_18 rfl ?_
    obtain rfl := Option.some.inj hf
    have h9 := mm_wxL hx3
    exact MM.sub [1, 2, 0] (by rfl) h9
theorem d_M_lays_0 : decode cX12_lays 0 = .ok (.aload_n 0, 1) := by decide +kernel
theorem d_M_lays_1 : decode cX12_lays 1 = .ok (.getfield 13, 3) := by decide +kernel
theorem d_M_lays_4 : decode cX12_lays 4 = .ok (.iconst 4, 1) := by decide +kernel
theorem d_M_lays_5 : decode cX12_lays 5 = .ok (.invokestatic 372, 3) := by decide +kernel
theorem d_M_lays_8 : decode cX12_lays 8 = .ok (.aload_n 0, 1) := by decide +kernel
theorem d_M_lays_9 : decode cX12_lays 9 = .ok (.getfield 16, 3) := by decide +kernel
theorem d_M_lays_12 : decode cX12_lays 12 = .ok (.bipush 6, 2) := by decide +kernel
theorem d_M_lays_14 : decode cX12_lays 14 = .ok (.invokestatic 376, 3) := by decide +kernel
theorem d_M_lays_17 : decode cX12_lays 17 = .ok (.aload_n 0, 1) := by decide +kernel
theorem d_M_lays_18 : decode cX12_lays 18 = .ok (.getfield 20, 3) := by decide +kernel
theorem d_M_lays_21 : decode cX12_lays 21 = .ok (.bipush 10, 2) := by decide +kernel
theorem d_M_lays_23 : decode cX12_lays 23 = .ok (.invokestatic 376, 3) := by decide +kernel
theorem d_M_lays_26 : decode cX12_lays 26 = .ok (.aload_n 0, 1) := by decide +kernel
theorem d_M_lays_27 : decode cX12_lays 27 = .ok (.getfield 23, 3) := by decide +kernel
theorem d_M_lays_30 : decode cX12_lays 30 = .ok (.bipush 6, 2) := by decide +kernel
theorem d_M_lays_32 : decode cX12_lays 32 = .ok (.invokestatic 372, 3) := by decide +kernel
theorem d_M_lays_35 : decode cX12_lays 35 = .ok (.aload_n 0, 1) := by decide +kernel
theorem d_M_lays_36 : decode cX12_lays 36 = .ok (.getfield 26, 3) := by decide +kernel
theorem d_M_lays_39 : decode cX12_lays 39 = .ok (.bipush 6, 2) := by decide +kernel
theorem d_M_lays_41 : decode cX12_lays 41 = .ok (.invokestatic 372, 3) := by decide +kernel
theorem d_M_lays_44 : decode cX12_lays 44 = .ok (.aload_n 0, 1) := by decide +kernel
theorem d_M_lays_45 : decode cX12_lays 45 = .ok (.getfield 29, 3) := by decide +kernel
theorem d_M_lays_48 : decode cX12_lays 48 = .ok (.bipush 6, 2) := by decide +kernel
theorem d_M_lays_50 : decode cX12_lays 50 = .ok (.invokestatic 372, 3) := by decide +kernel
theorem d_M_lays_53 : decode cX12_lays 53 = .ok (.aload_n 0, 1) := by decide +kernel
theorem d_M_lays_54 : decode cX12_lays 54 = .ok (.getfield 32, 3) := by decide +kernel
theorem d_M_lays_57 : decode cX12_lays 57 = .ok (.bipush 10, 2) := by decide +kernel
theorem d_M_lays_59 : decode cX12_lays 59 = .ok (.invokestatic 372, 3) := by decide +kernel
theorem d_M_lays_62 : decode cX12_lays 62 = .ok (.aload_n 0, 1) := by decide +kernel
theorem d_M_lays_63 : decode cX12_lays 63 = .ok (.getfield 35, 3) := by decide +kernel
theorem d_M_lays_66 : decode cX12_lays 66 = .ok (.bipush 10, 2) := by decide +kernel
theorem d_M_lays_68 : decode cX12_lays 68 = .ok (.invokestatic 372, 3) := by decide +kernel
theorem d_M_lays_71 : decode cX12_lays 71 = .ok (.aload_n 0, 1) := by decide +kernel
theorem d_M_lays_72 : decode cX12_lays 72 = .ok (.getfield 38, 3) := by decide +kernel
theorem d_M_lays_75 : decode cX12_lays 75 = .ok (.bipush 10, 2) := by decide +kernel
theorem d_M_lays_77 : decode cX12_lays 77 = .ok (.invokestatic 372, 3) := by decide +kernel
theorem d_M_lays_80 : decode cX12_lays 80 = .ok (.aload_n 0, 1) := by decide +kernel
theorem d_M_lays_81 : decode cX12_lays 81 = .ok (.getfield 41, 3) := by decide +kernel
theorem d_M_lays_84 : decode cX12_lays 84 = .ok (.bipush 10, 2) := by decide +kernel
theorem d_M_lays_86 : decode cX12_lays 86 = .ok (.invokestatic 372, 3) := by decide +kernel
theorem d_M_lays_89 : decode cX12_lays 89 = .ok (.aload_n 0, 1) := by decide +kernel
theorem d_M_lays_90 : decode cX12_lays 90 = .ok (.getfield 44, 3) := by decide +kernel
theorem d_M_lays_93 : decode cX12_lays 93 = .ok (.bipush 10, 2) := by decide +kernel
theorem d_M_lays_95 : decode cX12_lays 95 = .ok (.invokestatic 372, 3) := by decide +kernel
theorem d_M_lays_98 : decode cX12_lays 98 = .ok (.aload_n 0, 1) := by decide +kernel
theorem d_M_lays_99 : decode cX12_lays 99 = .ok (.getfield 47, 3) := by decide +kernel
theorem d_M_lays_102 : decode cX12_lays 102 = .ok (.bipush 10, 2) := by decide +kernel
theorem d_M_lays_104 : decode cX12_lays 104 = .ok (.invokestatic 372, 3) := by decide +kernel
theorem d_M_lays_107 : decode cX12_lays 107 = .ok (.aload_n 0, 1) := by decide +kernel
theorem d_M_lays_108 : decode cX12_lays 108 = .ok (.getfield 50, 3) := by decide +kernel
theorem d_M_lays_111 : decode cX12_lays 111 = .ok (.bipush 30, 2) := by decide +kernel
theorem d_M_lays_113 : decode cX12_lays 113 = .ok (.invokestatic 372, 3) := by decide +kernel
theorem d_M_lays_116 : decode cX12_lays 116 = .ok (.aload_n 0, 1) := by decide +kernel
theorem d_M_lays_117 : decode cX12_lays 117 = .ok (.getfield 53, 3) := by decide +kernel
theorem d_M_lays_120 : decode cX12_lays 120 = .ok (.bipush 30, 2) := by decide +kernel
theorem d_M_lays_122 : decode cX12_lays 122 = .ok (.invokestatic 372, 3) := by decide +kernel
theorem d_M_lays_125 : decode cX12_lays 125 = .ok (.aload_n 0, 1) := by decide +kernel
theorem d_M_lays_126 : decode cX12_lays 126 = .ok (.getfield 56, 3) := by decide +kernel
theorem d_M_lays_129 : decode cX12_lays 129 = .ok (.bipush 30, 2) := by decide +kernel
theorem d_M_lays_131 : decode cX12_lays 131 = .ok (.invokestatic 372, 3) := by decide +kernel
theorem d_M_lays_134 : decode cX12_lays 134 = .ok (.aload_n 0, 1) := by decide +kernel
theorem d_M_lays_135 : decode cX12_lays 135 = .ok (.getfield 65, 3) := by decide +kernel
theorem d_M_lays_138 : decode cX12_lays 138 = .ok (.sipush 1000, 3) := by decide +kernel
theorem d_M_lays_141 : decode cX12_lays 141 = .ok (.invokestatic 372, 3) := by decide +kernel
theorem d_M_lays_144 : decode cX12_lays 144 = .ok (.aload_n 0, 1) := by decide +kernel
theorem d_M_lays_145 : decode cX12_lays 145 = .ok (.getfield 59, 3) := by decide +kernel
theorem d_M_lays_148 : decode cX12_lays 148 = .ok (.iconst 0, 1) := by decide +kernel
theorem d_M_lays_149 : decode cX12_lays 149 = .ok (.aload_n 0, 1) := by decide +kernel
theorem d_M_lays_150 : decode cX12_lays 150 = .ok (.getfield 59, 3) := by decide +kernel
theorem d_M_lays_153 : decode cX12_lays 153 = .ok (.iconst 1, 1) := by decide +kernel
theorem d_M_lays_154 : decode cX12_lays 154 = .ok (.iaload, 1) := by decide +kernel
theorem d_M_lays_155 : decode cX12_lays 155 = .ok (.sipush 1000, 3) := by decide +kernel
theorem d_M_lays_158 : decode cX12_lays 158 = .ok (.isub, 1) := by decide +kernel
theorem d_M_lays_159 : decode cX12_lays 159 = .ok (.iastore, 1) := by decide +kernel
theorem d_M_lays_160 : decode cX12_lays 160 = .ok (.aload_n 0, 1) := by decide +kernel
theorem d_M_lays_161 : decode cX12_lays 161 = .ok (.getfield 62, 3) := by decide +kernel
theorem d_M_lays_164 : decode cX12_lays 164 = .ok (.iconst 0, 1) := by decide +kernel
theorem d_M_lays_165 : decode cX12_lays 165 = .ok (.aload_n 0, 1) := by decide +kernel
theorem d_M_lays_166 : decode cX12_lays 166 = .ok (.getfield 62, 3) := by decide +kernel
theorem d_M_lays_169 : decode cX12_lays 169 = .ok (.iconst 1, 1) := by decide +kernel
theorem d_M_lays_170 : decode cX12_lays 170 = .ok (.iaload, 1) := by decide +kernel
theorem d_M_lays_171 : decode cX12_lays 171 = .ok (.sipush 1000, 3) := by decide +kernel
theorem d_M_lays_174 : decode cX12_lays 174 = .ok (.isub, 1) := by decide +kernel
theorem d_M_lays_175 : decode cX12_lays 175 = .ok (.iastore, 1) := by decide +kernel
theorem d_M_lays_176 : decode cX12_lays 176 = .ok (.return_, 1) := by decide +kernel
noncomputable def f_M_lays (h : mm_H) : Option mm_H := (f_M_moves 263 4 h).bind fun v2 => (f_M_movesNames 264 6 v2).bind fun v4 => (f_M_movesNames 265 10 v4).bind fun v6 => (f_M_moves 266 6 v6).bind fun v8 => (f_M_moves 267 6 v8).bind fun v10 => (f_M_moves 268 6 v10).bind fun v12 => (f_M_moves 269 10 v12).bind fun v14 => (f_M_moves 270 10 v14).bind fun v16 => (f_M_moves 271 10 v16).bind fun v18 => (f_M_moves 272 10 v18).bind fun v20 => (f_M_moves 273 10 v20).bind fun v22 => (f_M_moves 274 10 v22).bind fun v24 => (f_M_moves 275 30 v24).bind fun v26 => (f_M_moves 276 30 v26).bind fun v28 => (f_M_moves 277 30 v28).bind fun v30 => (f_M_moves 280 1000 v30).bind fun v32 => mm_let (mm_pI v32 278 0 ((v32.1 278 1) - 1000)) fun h33 => mm_let (mm_pI h33 279 0 ((h33.1 279 1) - 1000)) fun h35 => some h35
theorem T_M_lays (V : mm_V) (l : Launch) (h : mm_H) (r : mm_H) (hf : f_M_lays h = some r) : MT V l Y_M_lays 2 [.ref 261] (fun r1 h1 => r1 = none ∧ h1 = r) h := by
  unfold f_M_lays at hf
  refine MT.intro (pn_M rfl) [(0, .ref 261)] rfl (Nat.le_of_ble_eq_true rfl) ?_
  generalize hZ : mm_Z V _ = Z0
  refine MM.aload_n (i := 0) rfl rfl d_M_lays_0 rfl ?_
  refine MM.gR 9 2 tg_261 rq_9_10 rfl lays_9 ww_1368 d_M_lays_1 rfl ?_
  refine MM.iconst ic_4 d_M_lays_4 rfl ?_
  obtain ⟨v2, e1, hf⟩ := mm_bind hf
  refine MM.callS0 (T_M_moves V l 263 4 h _ e1) (fun _ _ q => q) cal_M_moves rfl ww_1728 ww_1727 (by decide) (by simp [Value.category]) d_M_lays_5 rfl ⟨rfl, rfl⟩ rfl ?_
  refine MM.aload_n (i := 0) rfl rfl d_M_lays_8 rfl ?_
  refine MM.gR 9 3 tg_261 rq_9_11 rfl lays_9 ww_1369 d_M_lays_9 rfl ?_
  refine MM.bipush bp_6 d_M_lays_12 rfl ?_
  obtain ⟨v4, e3, hf⟩ := mm_bind hf
  refine MM.callS0 (T_M_movesNames V l 264 6 v2 _ e3) (fun _ _ q => q) cal_M_movesNames rfl ww_1731 ww_1730 (by decide) (by simp [Value.category]) d_M_lays_14 rfl ⟨rfl, rfl⟩ rfl ?_
  refine MM.aload_n (i := 0) rfl rfl d_M_lays_17 rfl ?_
  refine MM.gR 9 4 tg_261 rq_9_12 rfl lays_9 ww_1370 d_M_lays_18 rfl ?_
  refine MM.bipush bp_10 d_M_lays_21 rfl ?_
  obtain ⟨v6, e5, hf⟩ := mm_bind hf
  refine MM.callS0 (T_M_movesNames V l 265 10 v4 _ e5) (fun _ _ q => q) cal_M_movesNames rfl ww_1731 ww_1730 (by decide) (by simp [Value.category]) d_M_lays_23 rfl ⟨rfl, rfl⟩ rfl ?_
  refine MM.aload_n (i := 0) rfl rfl d_M_lays_26 rfl ?_
  refine MM.gR 9 5 tg_261 rq_9_13 rfl lays_9 ww_1371 d_M_lays_27 rfl ?_
  refine MM.bipush bp_6 d_M_lays_30 rfl ?_
  obtain ⟨v8, e7, hf⟩ := mm_bind hf
  refine MM.callS0 (T_M_moves V l 266 6 v6 _ e7) (fun _ _ q => q) cal_M_moves rfl ww_1728 ww_1727 (by decide) (by simp [Value.category]) d_M_lays_32 rfl ⟨rfl, rfl⟩ rfl ?_
  refine MM.aload_n (i := 0) rfl rfl d_M_lays_35 rfl ?_
  refine MM.gR 9 6 tg_261 rq_9_14 rfl lays_9 ww_1372 d_M_lays_36 rfl ?_
  refine MM.bipush bp_6 d_M_lays_39 rfl ?_
  obtain ⟨v10, e9, hf⟩ := mm_bind hf
  refine MM.callS0 (T_M_moves V l 267 6 v8 _ e9) (fun _ _ q => q) cal_M_moves rfl ww_1728 ww_1727 (by decide) (by simp [Value.category]) d_M_lays_41 rfl ⟨rfl, rfl⟩ rfl ?_
  refine MM.aload_n (i := 0) rfl rfl d_M_lays_44 rfl ?_
  refine MM.gR 9 7 tg_261 rq_9_15 rfl lays_9 ww_1373 d_M_lays_45 rfl ?_
  refine MM.bipush bp_6 d_M_lays_48 rfl ?_
  obtain ⟨v12, e11, hf⟩ := mm_bind hf
  refine MM.callS0 (T_M_moves V l 268 6 v10 _ e11) (fun _ _ q => q) cal_M_moves rfl ww_1728 ww_1727 (by decide) (by simp [Value.category]) d_M_lays_50 rfl ⟨rfl, rfl⟩ rfl ?_
  refine MM.aload_n (i := 0) rfl rfl d_M_lays_53 rfl ?_
  refine MM.gR 9 8 tg_261 rq_9_16 rfl lays_9 ww_1374 d_M_lays_54 rfl ?_
  refine MM.bipush bp_10 d_M_lays_57 rfl ?_
  obtain ⟨v14, e13, hf⟩ := mm_bind hf
  refine MM.callS0 (T_M_moves V l 269 10 v12 _ e13) (fun _ _ q => q) cal_M_moves rfl ww_1728 ww_1727 (by decide) (by simp [Value.category]) d_M_lays_59 rfl ⟨rfl, rfl⟩ rfl ?_
  refine MM.aload_n (i := 0) rfl rfl d_M_lays_62 rfl ?_
  refine MM.gR 9 9 tg_261 rq_9_17 rfl lays_9 ww_1375 d_M_lays_63 rfl ?_
  refine MM.bipush bp_10 d_M_lays_66 rfl ?_
  obtain ⟨v16, e15, hf⟩ := mm_bind hf
  refine MM.callS0 (T_M_moves V l 270 10 v14 _ e15) (fun _ _ q => q) cal_M_moves rfl ww_1728 ww_1727 (by decide) (by simp [Value.category]) d_M_lays_68 rfl ⟨rfl, rfl⟩ rfl ?_
  refine MM.aload_n (i := 0) rfl rfl d_M_lays_71 rfl ?_
  refine MM.gR 9 10 tg_261 rq_9_18 rfl lays_9 ww_1376 d_M_lays_72 rfl ?_
  refine MM.bipush bp_10 d_M_lays_75 rfl ?_
  obtain ⟨v18, e17, hf⟩ := mm_bind hf
  refine MM.callS0 (T_M_moves V l 271 10 v16 _ e17) (fun _ _ q => q) cal_M_moves rfl ww_1728 ww_1727 (by decide) (by simp [Value.category]) d_M_lays_77 rfl ⟨rfl, rfl⟩ rfl ?_
  refine MM.aload_n (i := 0) rfl rfl d_M_lays_80 rfl ?_
  refine MM.gR 9 11 tg_261 rq_9_19 rfl lays_9 ww_1377 d_M_lays_81 rfl ?_
  refine MM.bipush bp_10 d_M_lays_84 rfl ?_
  obtain ⟨v20, e19, hf⟩ := mm_bind hf
  refine MM.callS0 (T_M_moves V l 272 10 v18 _ e19) (fun _ _ q => q) cal_M_moves rfl ww_1728 ww_1727 (by decide) (by simp [Value.category]) d_M_lays_86 rfl ⟨rfl, rfl⟩ rfl ?_
  refine MM.aload_n (i := 0) rfl rfl d_M_lays_89 rfl ?_
  refine MM.gR 9 12 tg_261 rq_9_20 rfl lays_9 ww_1378 d_M_lays_90 rfl ?_
  refine MM.bipush bp_10 d_M_lays_93 rfl ?_
  obtain ⟨v22, e21, hf⟩ := mm_bind hf
  refine MM.callS0 (T_M_moves V l 273 10 v20 _ e21) (fun _ _ q => q) cal_M_moves rfl ww_1728 ww_1727 (by decide) (by simp [Value.category]) d_M_lays_95 rfl ⟨rfl, rfl⟩ rfl ?_
  refine MM.aload_n (i := 0) rfl rfl d_M_lays_98 rfl ?_
  refine MM.gR 9 13 tg_261 rq_9_21 rfl lays_9 ww_1379 d_M_lays_99 rfl ?_
  refine MM.bipush bp_10 d_M_lays_102 rfl ?_
  obtain ⟨v24, e23, hf⟩ := mm_bind hf
  refine MM.callS0 (T_M_moves V l 274 10 v22 _ e23) (fun _ _ q => q) cal_M_moves rfl ww_1728 ww_1727 (by decide) (by simp [Value.category]) d_M_lays_104 rfl ⟨rfl, rfl⟩ rfl ?_
  refine MM.aload_n (i := 0) rfl rfl d_M_lays_107 rfl ?_
  refine MM.gR 9 14 tg_261 rq_9_22 rfl lays_9 ww_1380 d_M_lays_108 rfl ?_
  refine MM.bipush bp_30 d_M_lays_111 rfl ?_
  obtain ⟨v26, e25, hf⟩ := mm_bind hf
  refine MM.callS0 (T_M_moves V l 275 30 v24 _ e25) (fun _ _ q => q) cal_M_moves rfl ww_1728 ww_1727 (by decide) (by simp [Value.category]) d_M_lays_113 rfl ⟨rfl, rfl⟩ rfl ?_
  refine MM.aload_n (i := 0) rfl rfl d_M_lays_116 rfl ?_
  refine MM.gR 9 15 tg_261 rq_9_23 rfl lays_9 ww_1381 d_M_lays_117 rfl ?_
  refine MM.bipush bp_30 d_M_lays_120 rfl ?_
  obtain ⟨v28, e27, hf⟩ := mm_bind hf
  refine MM.callS0 (T_M_moves V l 276 30 v26 _ e27) (fun _ _ q => q) cal_M_moves rfl ww_1728 ww_1727 (by decide) (by simp [Value.category]) d_M_lays_122 rfl ⟨rfl, rfl⟩ rfl ?_
  refine MM.aload_n (i := 0) rfl rfl d_M_lays_125 rfl ?_
  refine MM.gR 9 16 tg_261 rq_9_24 rfl lays_9 ww_1382 d_M_lays_126 rfl ?_
  refine MM.bipush bp_30 d_M_lays_129 rfl ?_
  obtain ⟨v30, e29, hf⟩ := mm_bind hf
  refine MM.callS0 (T_M_moves V l 277 30 v28 _ e29) (fun _ _ q => q) cal_M_moves rfl ww_1728 ww_1727 (by decide) (by simp [Value.category]) d_M_lays_131 rfl ⟨rfl, rfl⟩ rfl ?_
  refine MM.aload_n (i := 0) rfl rfl d_M_lays_134 rfl ?_
  refine MM.gR 9 19 tg_261 rq_9_27 rfl lays_9 ww_1385 d_M_lays_135 rfl ?_
  refine MM.sipush sp_1000 d_M_lays_138 rfl ?_
  obtain ⟨v32, e31, hf⟩ := mm_bind hf
  refine MM.callS0 (T_M_moves V l 280 1000 v30 _ e31) (fun _ _ q => q) cal_M_moves rfl ww_1728 ww_1727 (by decide) (by simp [Value.category]) d_M_lays_141 rfl ⟨rfl, rfl⟩ rfl ?_
  refine MM.aload_n (i := 0) rfl rfl d_M_lays_144 rfl ?_
  refine MM.gR 9 17 tg_261 rq_9_25 rfl lays_9 ww_1383 d_M_lays_145 rfl ?_
  refine MM.iconst ic_0 d_M_lays_148 rfl ?_
  refine MM.aload_n (i := 0) rfl rfl d_M_lays_149 rfl ?_
  refine MM.gR 9 17 tg_261 rq_9_25 rfl lays_9 ww_1383 d_M_lays_150 rfl ?_
  refine MM.iconst ic_1 d_M_lays_153 rfl ?_
  refine MM.gI ix_1_2 al_278 d_M_lays_154 rfl ?_
  refine MM.sipush sp_1000 d_M_lays_155 rfl ?_
  refine MM.isub d_M_lays_158 rfl ?_
  obtain ⟨h33, e34, hf⟩ := mm_letE hf
  refine MM.sI ix_0_2 e34 al_278 d_M_lays_159 rfl ?_
  refine MM.aload_n (i := 0) rfl rfl d_M_lays_160 rfl ?_
  refine MM.gR 9 18 tg_261 rq_9_26 rfl lays_9 ww_1384 d_M_lays_161 rfl ?_
  refine MM.iconst ic_0 d_M_lays_164 rfl ?_
  refine MM.aload_n (i := 0) rfl rfl d_M_lays_165 rfl ?_
  refine MM.gR 9 18 tg_261 rq_9_26 rfl lays_9 ww_1384 d_M_lays_166 rfl ?_
  refine MM.iconst ic_1 d_M_lays_169 rfl ?_
  refine MM.gI ix_1_2 al_279 d_M_lays_170 rfl ?_
  refine MM.sipush sp_1000 d_M_lays_171 rfl ?_
  refine MM.isub d_M_lays_174 rfl ?_
  obtain ⟨h35, e36, hf⟩ := mm_letE hf
  refine MM.sI ix_0_2 e36 al_279 d_M_lays_175 rfl ?_
  obtain rfl := Option.some.inj hf
  subst hZ
  exact MM.vret rfl d_M_lays_176 ⟨rfl, rfl⟩
theorem d_M_copies_0 : decode cX12_copies 0 = .ok (.iconst 0, 1) := by decide +kernel
theorem d_M_copies_1 : decode cX12_copies 1 = .ok (.istore 4, 2) := by decide +kernel
theorem d_M_copies_3 : decode cX12_copies 3 = .ok (.iload 4, 2) := by decide +kernel
theorem d_M_copies_5 : decode cX12_copies 5 = .ok (.bipush 123, 2) := by decide +kernel
theorem d_M_copies_7 : decode cX12_copies 7 = .ok (.if_icmp .ge 21, 3) := by decide +kernel
theorem d_M_copies_10 : decode cX12_copies 10 = .ok (.aload_n 2, 1) := by decide +kernel
theorem d_M_copies_11 : decode cX12_copies 11 = .ok (.iload_n 3, 1) := by decide +kernel
theorem d_M_copies_12 : decode cX12_copies 12 = .ok (.iload 4, 2) := by decide +kernel
theorem d_M_copies_14 : decode cX12_copies 14 = .ok (.iadd, 1) := by decide +kernel
theorem d_M_copies_15 : decode cX12_copies 15 = .ok (.aload_n 0, 1) := by decide +kernel
theorem d_M_copies_16 : decode cX12_copies 16 = .ok (.iload_n 1, 1) := by decide +kernel
theorem d_M_copies_17 : decode cX12_copies 17 = .ok (.iload 4, 2) := by decide +kernel
theorem d_M_copies_19 : decode cX12_copies 19 = .ok (.iadd, 1) := by decide +kernel
theorem d_M_copies_20 : decode cX12_copies 20 = .ok (.iaload, 1) := by decide +kernel
theorem d_M_copies_21 : decode cX12_copies 21 = .ok (.iastore, 1) := by decide +kernel
theorem d_M_copies_22 : decode cX12_copies 22 = .ok (.iinc 4 1, 3) := by decide +kernel
theorem d_M_copies_25 : decode cX12_copies 25 = .ok (.goto (-22), 3) := by decide +kernel
theorem d_M_copies_28 : decode cX12_copies 28 = .ok (.return_, 1) := by decide +kernel
noncomputable def f_M_copies (a0 : Nat) (x1 : Int32) (a2 : Nat) (x3 : Int32) (h : mm_H) : Option mm_H := if mm_tg a0 = 20 ∧ mm_tg a2 = 20 then ((mm_while (σ := (Int32 × mm_H)) (ρ := mm_H) (fun s1 => if 123 ≤ s1.1 then (some (Sum.inr s1.2)) else ((mm_ix (x1 + s1.1) (mm_ln a0)).bind fun k7 => (mm_ix (x3 + s1.1) (mm_ln a2)).bind fun k9 => mm_let (mm_pI s1.2 a2 k9 (s1.2.1 a0 k7)) fun h11 => mm_let (s1.1 + 1) fun y13 => some (Sum.inl (y13, h11)))) (0, h)).bind fun v4 => some v4) else none
theorem T_M_copies (V : mm_V) (l : Launch) (a0 : Nat) (x1 : Int32) (a2 : Nat) (x3 : Int32) (h : mm_H) (r : mm_H) (hf : f_M_copies a0 x1 a2 x3 h = some r) : MT V l Y_M_copies 1 [.ref a0, .int x1, .ref a2, .int x3] (fun r1 h1 => r1 = none ∧ h1 = r) h := by
  unfold f_M_copies at hf
  obtain ⟨⟨t_a0, t_a2⟩, hf⟩ := mm_chkE hf
  refine MT.intro (pn_M rfl) [(0, .ref a0), (1, .int x1), (2, .ref a2), (3, .int x3)] rfl (Nat.le_of_ble_eq_true rfl) ?_
  generalize hZ : mm_Z V _ = Z0
  refine MM.iconst ic_0 d_M_copies_0 rfl ?_
  refine MM.istore (lv' := [(4, .int 0), (0, .ref a0), (1, .int x1), (2, .ref a2), (3, .int x3)]) rfl (Nat.le_of_ble_eq_true rfl) rfl d_M_copies_1 rfl ?_
  obtain ⟨v4, e6, hf⟩ := mm_bind hf
  have K5 : MM V l Y_M_copies 1 0 0 Z0 28 [] [] v4 := by
    obtain rfl := Option.some.inj hf
    subst hZ
    exact MM.vret rfl d_M_copies_28 ⟨rfl, rfl⟩
  clear hf
  refine MM.sub [1, 2, 3, 4, 0] (by rfl) (mm_while_ind (fun s1 => MM V l Y_M_copies 1 0 0 Z0 3 [(0, .ref a0), (1, .int x1), (2, .ref a2), (3, .int x3), (4, .int s1.1)] [] s1.2) e6 (fun s1 q2 hf hx3 => ?_))
  refine MM.iload rfl d_M_copies_3 rfl ?_
  refine MM.bipush bp_123 d_M_copies_5 rfl ?_
  obtain ⟨m16, m17⟩ := mm_ifE hf
  refine MM.icmp_ge (tgt := 28) d_M_copies_7 rfl rfl (fun c15 => ?_) (fun c15 => ?_)
  · replace hf := m16 c15
    obtain rfl := Option.some.inj hf
    obtain rfl := Option.some.inj (mm_wxR hx3)
    exact MM.sub [] (by rfl) K5
  · replace hf := m17 c15
    refine MM.aload_n (i := 2) rfl rfl d_M_copies_10 rfl ?_
    refine MM.iload_n (i := 3) rfl rfl d_M_copies_11 rfl ?_
    refine MM.iload rfl d_M_copies_12 rfl ?_
    refine MM.iadd d_M_copies_14 rfl ?_
    refine MM.aload_n (i := 0) rfl rfl d_M_copies_15 rfl ?_
    refine MM.iload_n (i := 1) rfl rfl d_M_copies_16 rfl ?_
    refine MM.iload rfl d_M_copies_17 rfl ?_
    refine MM.iadd d_M_copies_19 rfl ?_
    obtain ⟨k7, e8, hf⟩ := mm_bind hf
    refine MM.gI e8 ⟨t_a0, rfl⟩ d_M_copies_20 rfl ?_
    obtain ⟨k9, e10, hf⟩ := mm_bind hf
    obtain ⟨h11, e12, hf⟩ := mm_letE hf
    refine MM.sI e10 e12 ⟨t_a2, rfl⟩ d_M_copies_21 rfl ?_
    obtain ⟨y13, e14, hf⟩ := mm_letE hf
    refine MM.iinc (k0 := 4) (lv' := [(4, .int y13), (0, .ref a0), (1, .int x1), (2, .ref a2), (3, .int x3)]) (by rw [ic_1]; exact e14) rfl (Nat.le_of_ble_eq_true rfl) rfl d_M_copies_22 rfl ?_
    refine MM.goto (tgt := 3) d_M_copies_25 rfl ?_
    obtain rfl := Option.some.inj hf
    have h9 := mm_wxL hx3
    exact MM.sub [1, 2, 3, 4, 0] (by rfl) h9
theorem d_M_readsTelling_0 : decode cX12_readsTelling 0 = .ok (.aload_n 0, 1) := by decide +kernel
theorem d_M_readsTelling_1 : decode cX12_readsTelling 1 = .ok (.iconst 0, 1) := by decide +kernel
theorem d_M_readsTelling_2 : decode cX12_readsTelling 2 = .ok (.invokevirtual 342, 3) := by decide +kernel
theorem d_M_readsTelling_5 : decode cX12_readsTelling 5 = .ok (.ifCond .ne 5, 3) := by decide +kernel
theorem d_M_readsTelling_8 : decode cX12_readsTelling 8 = .ok (.iconst 0, 1) := by decide +kernel
theorem d_M_readsTelling_9 : decode cX12_readsTelling 9 = .ok (.ireturn, 1) := by decide +kernel
theorem d_M_readsTelling_10 : decode cX12_readsTelling 10 = .ok (.aload_n 0, 1) := by decide +kernel
theorem d_M_readsTelling_11 : decode cX12_readsTelling 11 = .ok (.getfield 111, 3) := by decide +kernel
theorem d_M_readsTelling_14 : decode cX12_readsTelling 14 = .ok (.iload_n 1, 1) := by decide +kernel
theorem d_M_readsTelling_15 : decode cX12_readsTelling 15 = .ok (.aload_n 0, 1) := by decide +kernel
theorem d_M_readsTelling_16 : decode cX12_readsTelling 16 = .ok (.getfield 312, 3) := by decide +kernel
theorem d_M_readsTelling_19 : decode cX12_readsTelling 19 = .ok (.iastore, 1) := by decide +kernel
theorem d_M_readsTelling_20 : decode cX12_readsTelling 20 = .ok (.aload_n 0, 1) := by decide +kernel
theorem d_M_readsTelling_21 : decode cX12_readsTelling 21 = .ok (.invokevirtual 246, 3) := by decide +kernel
theorem d_M_readsTelling_24 : decode cX12_readsTelling 24 = .ok (.aload_n 0, 1) := by decide +kernel
theorem d_M_readsTelling_25 : decode cX12_readsTelling 25 = .ok (.iconst 0, 1) := by decide +kernel
theorem d_M_readsTelling_26 : decode cX12_readsTelling 26 = .ok (.invokevirtual 342, 3) := by decide +kernel
theorem d_M_readsTelling_29 : decode cX12_readsTelling 29 = .ok (.ifCond .ne 5, 3) := by decide +kernel
theorem d_M_readsTelling_32 : decode cX12_readsTelling 32 = .ok (.iconst 0, 1) := by decide +kernel
theorem d_M_readsTelling_33 : decode cX12_readsTelling 33 = .ok (.ireturn, 1) := by decide +kernel
theorem d_M_readsTelling_34 : decode cX12_readsTelling 34 = .ok (.aload_n 0, 1) := by decide +kernel
theorem d_M_readsTelling_35 : decode cX12_readsTelling 35 = .ok (.getfield 114, 3) := by decide +kernel
theorem d_M_readsTelling_38 : decode cX12_readsTelling 38 = .ok (.iload_n 1, 1) := by decide +kernel
theorem d_M_readsTelling_39 : decode cX12_readsTelling 39 = .ok (.aload_n 0, 1) := by decide +kernel
theorem d_M_readsTelling_40 : decode cX12_readsTelling 40 = .ok (.getfield 312, 3) := by decide +kernel
theorem d_M_readsTelling_43 : decode cX12_readsTelling 43 = .ok (.iastore, 1) := by decide +kernel
theorem d_M_readsTelling_44 : decode cX12_readsTelling 44 = .ok (.aload_n 0, 1) := by decide +kernel
theorem d_M_readsTelling_45 : decode cX12_readsTelling 45 = .ok (.getfield 111, 3) := by decide +kernel
theorem d_M_readsTelling_48 : decode cX12_readsTelling 48 = .ok (.iload_n 1, 1) := by decide +kernel
theorem d_M_readsTelling_49 : decode cX12_readsTelling 49 = .ok (.iaload, 1) := by decide +kernel
theorem d_M_readsTelling_50 : decode cX12_readsTelling 50 = .ok (.aload_n 0, 1) := by decide +kernel
theorem d_M_readsTelling_51 : decode cX12_readsTelling 51 = .ok (.getfield 114, 3) := by decide +kernel
theorem d_M_readsTelling_54 : decode cX12_readsTelling 54 = .ok (.iload_n 1, 1) := by decide +kernel
theorem d_M_readsTelling_55 : decode cX12_readsTelling 55 = .ok (.iaload, 1) := by decide +kernel
theorem d_M_readsTelling_56 : decode cX12_readsTelling 56 = .ok (.if_icmp .ne 9, 3) := by decide +kernel
theorem d_M_readsTelling_59 : decode cX12_readsTelling 59 = .ok (.aload_n 0, 1) := by decide +kernel
theorem d_M_readsTelling_60 : decode cX12_readsTelling 60 = .ok (.iconst 3, 1) := by decide +kernel
theorem d_M_readsTelling_61 : decode cX12_readsTelling 61 = .ok (.invokevirtual 239, 3) := by decide +kernel
theorem d_M_readsTelling_64 : decode cX12_readsTelling 64 = .ok (.ireturn, 1) := by decide +kernel
theorem d_M_readsTelling_65 : decode cX12_readsTelling 65 = .ok (.aload_n 0, 1) := by decide +kernel
theorem d_M_readsTelling_66 : decode cX12_readsTelling 66 = .ok (.invokevirtual 246, 3) := by decide +kernel
theorem d_M_readsTelling_69 : decode cX12_readsTelling 69 = .ok (.aload_n 0, 1) := by decide +kernel
theorem d_M_readsTelling_70 : decode cX12_readsTelling 70 = .ok (.iconst 0, 1) := by decide +kernel
theorem d_M_readsTelling_71 : decode cX12_readsTelling 71 = .ok (.invokevirtual 345, 3) := by decide +kernel
theorem d_M_readsTelling_74 : decode cX12_readsTelling 74 = .ok (.ifCond .ne 5, 3) := by decide +kernel
theorem d_M_readsTelling_77 : decode cX12_readsTelling 77 = .ok (.iconst 0, 1) := by decide +kernel
theorem d_M_readsTelling_78 : decode cX12_readsTelling 78 = .ok (.ireturn, 1) := by decide +kernel
theorem d_M_readsTelling_79 : decode cX12_readsTelling 79 = .ok (.aload_n 0, 1) := by decide +kernel
theorem d_M_readsTelling_80 : decode cX12_readsTelling 80 = .ok (.getfield 117, 3) := by decide +kernel
theorem d_M_readsTelling_83 : decode cX12_readsTelling 83 = .ok (.iload_n 1, 1) := by decide +kernel
theorem d_M_readsTelling_84 : decode cX12_readsTelling 84 = .ok (.aload_n 0, 1) := by decide +kernel
theorem d_M_readsTelling_85 : decode cX12_readsTelling 85 = .ok (.getfield 312, 3) := by decide +kernel
theorem d_M_readsTelling_88 : decode cX12_readsTelling 88 = .ok (.iastore, 1) := by decide +kernel
theorem d_M_readsTelling_89 : decode cX12_readsTelling 89 = .ok (.aload_n 0, 1) := by decide +kernel
theorem d_M_readsTelling_90 : decode cX12_readsTelling 90 = .ok (.invokevirtual 246, 3) := by decide +kernel
theorem d_M_readsTelling_93 : decode cX12_readsTelling 93 = .ok (.iconst 1, 1) := by decide +kernel
theorem d_M_readsTelling_94 : decode cX12_readsTelling 94 = .ok (.ireturn, 1) := by decide +kernel
noncomputable def f_M_readsTelling (x1 : Int32) (h : mm_H) : Option (Int32 × mm_H) := (f_M_needsPerson 0 h).bind fun v2 => if v2.1 = 0 then (some (0, v2.2)) else ((mm_ix x1 180).bind fun k3 => mm_let (mm_pI v2.2 295 k3 (v2.2.1 261 41)) fun h5 => (f_M_nextToken h5).bind fun v8 => (f_M_needsPerson 0 v8).bind fun v10 => if v10.1 = 0 then (some (0, v10.2)) else ((mm_ix x1 180).bind fun k11 => mm_let (mm_pI v10.2 296 k11 (v10.2.1 261 41)) fun h13 => (mm_ix x1 180).bind fun k15 => (mm_ix x1 180).bind fun k17 => if (h13.1 295 k15) = (h13.1 296 k17) then ((f_M_fails 3 h13).bind fun v33 => (mm_bo v33.1).bind fun b34 => some (b34, v33.2)) else ((f_M_nextToken h13).bind fun v20 => (f_M_needsSecret 0 v20).bind fun v22 => if v22.1 = 0 then (some (0, v22.2)) else ((mm_ix x1 180).bind fun k23 => mm_let (mm_pI v22.2 297 k23 (v22.2.1 261 41)) fun h25 => (f_M_nextToken h25).bind fun v28 => some (1, v28)))))
theorem T_M_readsTelling (V : mm_V) (l : Launch) (x1 : Int32) (h : mm_H) (r : (Int32 × mm_H)) (hf : f_M_readsTelling x1 h = some r) : MT V l Y_M_readsTelling 4 [.ref 261, .int x1] (fun r1 h1 => r1 = some (.int r.1) ∧ h1 = r.2) h := by
  unfold f_M_readsTelling at hf
  refine MT.intro (pn_M rfl) [(0, .ref 261), (1, .int x1)] rfl (Nat.le_of_ble_eq_true rfl) ?_
  generalize hZ : mm_Z V _ = Z0
  refine MM.aload_n (i := 0) rfl rfl d_M_readsTelling_0 rfl ?_
  refine MM.iconst ic_0 d_M_readsTelling_1 rfl ?_
  obtain ⟨v2, e1, hf⟩ := mm_bind hf
  refine MM.callV1 (T_M_needsPerson V l 0 h _ e1) (fun _ _ q => q) cal_M_needsPerson rfl tg_261 ct_9 ww_54 ww_1685 ww_1683 (by decide) (by simp [Value.category]) d_M_readsTelling_2 rfl ⟨rfl, rfl⟩ rfl ?_
  obtain ⟨m43, m44⟩ := mm_ifE hf
  refine MM.if_ne (tgt := 10) d_M_readsTelling_5 rfl rfl (fun c42 => ?_) (fun c42 => ?_)
  · replace hf := m44 c42
    refine MM.aload_n (i := 0) rfl rfl d_M_readsTelling_10 rfl ?_
    refine MM.gR 9 34 tg_261 rq_9_44 rfl lays_9 ww_1402 d_M_readsTelling_11 rfl ?_
    refine MM.iload_n (i := 1) rfl rfl d_M_readsTelling_14 rfl ?_
    refine MM.aload_n (i := 0) rfl rfl d_M_readsTelling_15 rfl ?_
    refine MM.getI 9 tg_261 lays_9 gq_9_41 ww_1399 d_M_readsTelling_16 rfl ?_
    obtain ⟨k3, e4, hf⟩ := mm_bind hf
    obtain ⟨h5, e6, hf⟩ := mm_letE hf
    refine MM.sI e4 e6 al_295 d_M_readsTelling_19 rfl ?_
    refine MM.aload_n (i := 0) rfl rfl d_M_readsTelling_20 rfl ?_
    obtain ⟨v8, e7, hf⟩ := mm_bind hf
    refine MM.callV0 (T_M_nextToken V l  h5 _ e7) (fun _ _ q => q) cal_M_nextToken rfl tg_261 ct_9 ww_39 ww_1593 ww_1591 (by decide) (by simp [Value.category]) d_M_readsTelling_21 rfl ⟨rfl, rfl⟩ rfl ?_
    refine MM.aload_n (i := 0) rfl rfl d_M_readsTelling_24 rfl ?_
    refine MM.iconst ic_0 d_M_readsTelling_25 rfl ?_
    obtain ⟨v10, e9, hf⟩ := mm_bind hf
    refine MM.callV1 (T_M_needsPerson V l 0 v8 _ e9) (fun _ _ q => q) cal_M_needsPerson rfl tg_261 ct_9 ww_54 ww_1685 ww_1683 (by decide) (by simp [Value.category]) d_M_readsTelling_26 rfl ⟨rfl, rfl⟩ rfl ?_
    obtain ⟨m40, m41⟩ := mm_ifE hf
    refine MM.if_ne (tgt := 34) d_M_readsTelling_29 rfl rfl (fun c39 => ?_) (fun c39 => ?_)
    · replace hf := m41 c39
      refine MM.aload_n (i := 0) rfl rfl d_M_readsTelling_34 rfl ?_
      refine MM.gR 9 35 tg_261 rq_9_45 rfl lays_9 ww_1403 d_M_readsTelling_35 rfl ?_
      refine MM.iload_n (i := 1) rfl rfl d_M_readsTelling_38 rfl ?_
      refine MM.aload_n (i := 0) rfl rfl d_M_readsTelling_39 rfl ?_
      refine MM.getI 9 tg_261 lays_9 gq_9_41 ww_1399 d_M_readsTelling_40 rfl ?_
      obtain ⟨k11, e12, hf⟩ := mm_bind hf
      obtain ⟨h13, e14, hf⟩ := mm_letE hf
      refine MM.sI e12 e14 al_296 d_M_readsTelling_43 rfl ?_
      refine MM.aload_n (i := 0) rfl rfl d_M_readsTelling_44 rfl ?_
      refine MM.gR 9 34 tg_261 rq_9_44 rfl lays_9 ww_1402 d_M_readsTelling_45 rfl ?_
      refine MM.iload_n (i := 1) rfl rfl d_M_readsTelling_48 rfl ?_
      obtain ⟨k15, e16, hf⟩ := mm_bind hf
      refine MM.gI e16 al_295 d_M_readsTelling_49 rfl ?_
      refine MM.aload_n (i := 0) rfl rfl d_M_readsTelling_50 rfl ?_
      refine MM.gR 9 35 tg_261 rq_9_45 rfl lays_9 ww_1403 d_M_readsTelling_51 rfl ?_
      refine MM.iload_n (i := 1) rfl rfl d_M_readsTelling_54 rfl ?_
      obtain ⟨k17, e18, hf⟩ := mm_bind hf
      refine MM.gI e18 al_296 d_M_readsTelling_55 rfl ?_
      obtain ⟨m37, m38⟩ := mm_ifE hf
      refine MM.icmp_ne (tgt := 65) d_M_readsTelling_56 rfl rfl (fun c36 => ?_) (fun c36 => ?_)
      · replace hf := m38 c36
        refine MM.aload_n (i := 0) rfl rfl d_M_readsTelling_65 rfl ?_
        obtain ⟨v20, e19, hf⟩ := mm_bind hf
        refine MM.callV0 (T_M_nextToken V l  h13 _ e19) (fun _ _ q => q) cal_M_nextToken rfl tg_261 ct_9 ww_39 ww_1593 ww_1591 (by decide) (by simp [Value.category]) d_M_readsTelling_66 rfl ⟨rfl, rfl⟩ rfl ?_
        refine MM.aload_n (i := 0) rfl rfl d_M_readsTelling_69 rfl ?_
        refine MM.iconst ic_0 d_M_readsTelling_70 rfl ?_
        obtain ⟨v22, e21, hf⟩ := mm_bind hf
        refine MM.callV1 (T_M_needsSecret V l 0 v20 _ e21) (fun _ _ q => q) cal_M_needsSecret rfl tg_261 ct_9 ww_55 ww_1689 ww_1687 (by decide) (by simp [Value.category]) d_M_readsTelling_71 rfl ⟨rfl, rfl⟩ rfl ?_
        obtain ⟨m30, m31⟩ := mm_ifE hf
        refine MM.if_ne (tgt := 79) d_M_readsTelling_74 rfl rfl (fun c29 => ?_) (fun c29 => ?_)
        · replace hf := m31 c29
          refine MM.aload_n (i := 0) rfl rfl d_M_readsTelling_79 rfl ?_
          refine MM.gR 9 36 tg_261 rq_9_46 rfl lays_9 ww_1404 d_M_readsTelling_80 rfl ?_
          refine MM.iload_n (i := 1) rfl rfl d_M_readsTelling_83 rfl ?_
          refine MM.aload_n (i := 0) rfl rfl d_M_readsTelling_84 rfl ?_
          refine MM.getI 9 tg_261 lays_9 gq_9_41 ww_1399 d_M_readsTelling_85 rfl ?_
          obtain ⟨k23, e24, hf⟩ := mm_bind hf
          obtain ⟨h25, e26, hf⟩ := mm_letE hf
          refine MM.sI e24 e26 al_297 d_M_readsTelling_88 rfl ?_
          refine MM.aload_n (i := 0) rfl rfl d_M_readsTelling_89 rfl ?_
          obtain ⟨v28, e27, hf⟩ := mm_bind hf
          refine MM.callV0 (T_M_nextToken V l  h25 _ e27) (fun _ _ q => q) cal_M_nextToken rfl tg_261 ct_9 ww_39 ww_1593 ww_1591 (by decide) (by simp [Value.category]) d_M_readsTelling_90 rfl ⟨rfl, rfl⟩ rfl ?_
          refine MM.iconst ic_1 d_M_readsTelling_93 rfl ?_
          obtain rfl := Option.some.inj hf
          subst hZ
          exact MM.zret (Or.inr rfl) rfl d_M_readsTelling_94 ⟨rfl, rfl⟩
        · replace hf := m30 c29
          refine MM.iconst ic_0 d_M_readsTelling_77 rfl ?_
          obtain rfl := Option.some.inj hf
          subst hZ
          exact MM.zret (Or.inl rfl) rfl d_M_readsTelling_78 ⟨rfl, rfl⟩
      · replace hf := m37 c36
        refine MM.aload_n (i := 0) rfl rfl d_M_readsTelling_59 rfl ?_
        refine MM.iconst ic_3 d_M_readsTelling_60 rfl ?_
        obtain ⟨v33, e32, hf⟩ := mm_bind hf
        refine MM.callV1 (T_M_fails V l 3 h13 _ e32) (fun _ _ q => q) cal_M_fails rfl tg_261 ct_9 ww_43 ww_1612 ww_1610 (by decide) (by simp [Value.category]) d_M_readsTelling_61 rfl ⟨rfl, rfl⟩ rfl ?_
        obtain ⟨b34, e35, hf⟩ := mm_bind hf
        obtain ⟨ob34, e35⟩ := mm_boE e35
        subst e35
        obtain rfl := Option.some.inj hf
        subst hZ
        exact MM.zret ob34 rfl d_M_readsTelling_64 ⟨rfl, rfl⟩
    · replace hf := m40 c39
      refine MM.iconst ic_0 d_M_readsTelling_32 rfl ?_
      obtain rfl := Option.some.inj hf
      subst hZ
      exact MM.zret (Or.inl rfl) rfl d_M_readsTelling_33 ⟨rfl, rfl⟩
  · replace hf := m43 c42
    refine MM.iconst ic_0 d_M_readsTelling_8 rfl ?_
    obtain rfl := Option.some.inj hf
    subst hZ
    exact MM.zret (Or.inl rfl) rfl d_M_readsTelling_9 ⟨rfl, rfl⟩
theorem d_M_readsPayment_0 : decode cX12_readsPayment 0 = .ok (.aload_n 0, 1) := by decide +kernel
theorem d_M_readsPayment_1 : decode cX12_readsPayment 1 = .ok (.iconst 0, 1) := by decide +kernel
theorem d_M_readsPayment_2 : decode cX12_readsPayment 2 = .ok (.invokevirtual 342, 3) := by decide +kernel
theorem d_M_readsPayment_5 : decode cX12_readsPayment 5 = .ok (.ifCond .ne 5, 3) := by decide +kernel
theorem d_M_readsPayment_8 : decode cX12_readsPayment 8 = .ok (.iconst 0, 1) := by decide +kernel
theorem d_M_readsPayment_9 : decode cX12_readsPayment 9 = .ok (.ireturn, 1) := by decide +kernel
theorem d_M_readsPayment_10 : decode cX12_readsPayment 10 = .ok (.aload_n 0, 1) := by decide +kernel
theorem d_M_readsPayment_11 : decode cX12_readsPayment 11 = .ok (.getfield 111, 3) := by decide +kernel
theorem d_M_readsPayment_14 : decode cX12_readsPayment 14 = .ok (.iload_n 1, 1) := by decide +kernel
theorem d_M_readsPayment_15 : decode cX12_readsPayment 15 = .ok (.aload_n 0, 1) := by decide +kernel
theorem d_M_readsPayment_16 : decode cX12_readsPayment 16 = .ok (.getfield 312, 3) := by decide +kernel
theorem d_M_readsPayment_19 : decode cX12_readsPayment 19 = .ok (.iastore, 1) := by decide +kernel
theorem d_M_readsPayment_20 : decode cX12_readsPayment 20 = .ok (.aload_n 0, 1) := by decide +kernel
theorem d_M_readsPayment_21 : decode cX12_readsPayment 21 = .ok (.getfield 117, 3) := by decide +kernel
theorem d_M_readsPayment_24 : decode cX12_readsPayment 24 = .ok (.iload_n 1, 1) := by decide +kernel
theorem d_M_readsPayment_25 : decode cX12_readsPayment 25 = .ok (.iconst 0, 1) := by decide +kernel
theorem d_M_readsPayment_26 : decode cX12_readsPayment 26 = .ok (.iastore, 1) := by decide +kernel
theorem d_M_readsPayment_27 : decode cX12_readsPayment 27 = .ok (.aload_n 0, 1) := by decide +kernel
theorem d_M_readsPayment_28 : decode cX12_readsPayment 28 = .ok (.invokevirtual 246, 3) := by decide +kernel
theorem d_M_readsPayment_31 : decode cX12_readsPayment 31 = .ok (.aload_n 0, 1) := by decide +kernel
theorem d_M_readsPayment_32 : decode cX12_readsPayment 32 = .ok (.getfield 117, 3) := by decide +kernel
theorem d_M_readsPayment_35 : decode cX12_readsPayment 35 = .ok (.iload_n 1, 1) := by decide +kernel
theorem d_M_readsPayment_36 : decode cX12_readsPayment 36 = .ok (.iaload, 1) := by decide +kernel
theorem d_M_readsPayment_37 : decode cX12_readsPayment 37 = .ok (.ifCond .eq 12, 3) := by decide +kernel
theorem d_M_readsPayment_40 : decode cX12_readsPayment 40 = .ok (.aload_n 0, 1) := by decide +kernel
theorem d_M_readsPayment_41 : decode cX12_readsPayment 41 = .ok (.bipush 59, 2) := by decide +kernel
theorem d_M_readsPayment_43 : decode cX12_readsPayment 43 = .ok (.invokevirtual 235, 3) := by decide +kernel
theorem d_M_readsPayment_46 : decode cX12_readsPayment 46 = .ok (.ifCond .ne 58, 3) := by decide +kernel
theorem d_M_readsPayment_49 : decode cX12_readsPayment 49 = .ok (.aload_n 0, 1) := by decide +kernel
theorem d_M_readsPayment_50 : decode cX12_readsPayment 50 = .ok (.iconst 0, 1) := by decide +kernel
theorem d_M_readsPayment_51 : decode cX12_readsPayment 51 = .ok (.invokevirtual 345, 3) := by decide +kernel
theorem d_M_readsPayment_54 : decode cX12_readsPayment 54 = .ok (.ifCond .ne 5, 3) := by decide +kernel
theorem d_M_readsPayment_57 : decode cX12_readsPayment 57 = .ok (.iconst 0, 1) := by decide +kernel
theorem d_M_readsPayment_58 : decode cX12_readsPayment 58 = .ok (.ireturn, 1) := by decide +kernel
theorem d_M_readsPayment_59 : decode cX12_readsPayment 59 = .ok (.aload_n 0, 1) := by decide +kernel
theorem d_M_readsPayment_60 : decode cX12_readsPayment 60 = .ok (.getfield 117, 3) := by decide +kernel
theorem d_M_readsPayment_63 : decode cX12_readsPayment 63 = .ok (.iload_n 1, 1) := by decide +kernel
theorem d_M_readsPayment_64 : decode cX12_readsPayment 64 = .ok (.iaload, 1) := by decide +kernel
theorem d_M_readsPayment_65 : decode cX12_readsPayment 65 = .ok (.aload_n 0, 1) := by decide +kernel
theorem d_M_readsPayment_66 : decode cX12_readsPayment 66 = .ok (.getfield 312, 3) := by decide +kernel
theorem d_M_readsPayment_69 : decode cX12_readsPayment 69 = .ok (.ishr, 1) := by decide +kernel
theorem d_M_readsPayment_70 : decode cX12_readsPayment 70 = .ok (.iconst 1, 1) := by decide +kernel
theorem d_M_readsPayment_71 : decode cX12_readsPayment 71 = .ok (.iand, 1) := by decide +kernel
theorem d_M_readsPayment_72 : decode cX12_readsPayment 72 = .ok (.iconst 1, 1) := by decide +kernel
theorem d_M_readsPayment_73 : decode cX12_readsPayment 73 = .ok (.if_icmp .ne 9, 3) := by decide +kernel
theorem d_M_readsPayment_76 : decode cX12_readsPayment 76 = .ok (.aload_n 0, 1) := by decide +kernel
theorem d_M_readsPayment_77 : decode cX12_readsPayment 77 = .ok (.iconst 3, 1) := by decide +kernel
theorem d_M_readsPayment_78 : decode cX12_readsPayment 78 = .ok (.invokevirtual 239, 3) := by decide +kernel
theorem d_M_readsPayment_81 : decode cX12_readsPayment 81 = .ok (.ireturn, 1) := by decide +kernel
theorem d_M_readsPayment_82 : decode cX12_readsPayment 82 = .ok (.aload_n 0, 1) := by decide +kernel
theorem d_M_readsPayment_83 : decode cX12_readsPayment 83 = .ok (.getfield 117, 3) := by decide +kernel
theorem d_M_readsPayment_86 : decode cX12_readsPayment 86 = .ok (.iload_n 1, 1) := by decide +kernel
theorem d_M_readsPayment_87 : decode cX12_readsPayment 87 = .ok (.dup2, 1) := by decide +kernel
theorem d_M_readsPayment_88 : decode cX12_readsPayment 88 = .ok (.iaload, 1) := by decide +kernel
theorem d_M_readsPayment_89 : decode cX12_readsPayment 89 = .ok (.iconst 1, 1) := by decide +kernel
theorem d_M_readsPayment_90 : decode cX12_readsPayment 90 = .ok (.aload_n 0, 1) := by decide +kernel
theorem d_M_readsPayment_91 : decode cX12_readsPayment 91 = .ok (.getfield 312, 3) := by decide +kernel
theorem d_M_readsPayment_94 : decode cX12_readsPayment 94 = .ok (.ishl, 1) := by decide +kernel
theorem d_M_readsPayment_95 : decode cX12_readsPayment 95 = .ok (.ior, 1) := by decide +kernel
theorem d_M_readsPayment_96 : decode cX12_readsPayment 96 = .ok (.iastore, 1) := by decide +kernel
theorem d_M_readsPayment_97 : decode cX12_readsPayment 97 = .ok (.aload_n 0, 1) := by decide +kernel
theorem d_M_readsPayment_98 : decode cX12_readsPayment 98 = .ok (.invokevirtual 246, 3) := by decide +kernel
theorem d_M_readsPayment_101 : decode cX12_readsPayment 101 = .ok (.goto (-70), 3) := by decide +kernel
theorem d_M_readsPayment_104 : decode cX12_readsPayment 104 = .ok (.iconst 1, 1) := by decide +kernel
theorem d_M_readsPayment_105 : decode cX12_readsPayment 105 = .ok (.ireturn, 1) := by decide +kernel
noncomputable def f_M_readsPayment (x1 : Int32) (h : mm_H) : Option (Int32 × mm_H) := (f_M_needsPerson 0 h).bind fun v2 => if v2.1 = 0 then (some (0, v2.2)) else ((mm_ix x1 180).bind fun k3 => mm_let (mm_pI v2.2 295 k3 (v2.2.1 261 41)) fun h5 => (mm_ix x1 180).bind fun k7 => mm_let (mm_pI h5 297 k7 0) fun h9 => (f_M_nextToken h9).bind fun v12 => mm_while (σ := mm_H) (ρ := (Int32 × mm_H)) (fun s13 => (mm_ix x1 180).bind fun k16 => mm_jp (fun (j18 : Unit) => ((f_M_needsSecret 0 s13).bind fun v22 => if v22.1 = 0 then (some (Sum.inr (0, v22.2))) else ((mm_ix x1 180).bind fun k23 => if (((v22.2.1 297 k23) >>> ((v22.2.1 261 41) &&& 31)) &&& 1) = 1 then ((f_M_fails 3 v22.2).bind fun v34 => (mm_bo v34.1).bind fun b35 => some (Sum.inr (b35, v34.2))) else ((mm_ix x1 180).bind fun k25 => (mm_ix x1 180).bind fun k27 => mm_let (mm_pI v22.2 297 k27 ((v22.2.1 297 k25) ||| ((1 : Int32) <<< ((v22.2.1 261 41) &&& 31)))) fun h29 => (f_M_nextToken h29).bind fun v32 => some (Sum.inl v32))))) fun k20 => if (s13.1 297 k16) = 0 then (k20 ()) else ((f_M_isSign 59 s13).bind fun v44 => if v44 = 0 then (k20 ()) else (some (Sum.inr (1, s13))))) v12)
theorem T_M_readsPayment (V : mm_V) (l : Launch) (x1 : Int32) (h : mm_H) (r : (Int32 × mm_H)) (hf : f_M_readsPayment x1 h = some r) : MT V l Y_M_readsPayment 4 [.ref 261, .int x1] (fun r1 h1 => r1 = some (.int r.1) ∧ h1 = r.2) h := by
  unfold f_M_readsPayment at hf
  refine MT.intro (pn_M rfl) [(0, .ref 261), (1, .int x1)] rfl (Nat.le_of_ble_eq_true rfl) ?_
  generalize hZ : mm_Z V _ = Z0
  refine MM.aload_n (i := 0) rfl rfl d_M_readsPayment_0 rfl ?_
  refine MM.iconst ic_0 d_M_readsPayment_1 rfl ?_
  obtain ⟨v2, e1, hf⟩ := mm_bind hf
  refine MM.callV1 (T_M_needsPerson V l 0 h _ e1) (fun _ _ q => q) cal_M_needsPerson rfl tg_261 ct_9 ww_54 ww_1685 ww_1683 (by decide) (by simp [Value.category]) d_M_readsPayment_2 rfl ⟨rfl, rfl⟩ rfl ?_
  obtain ⟨m53, m54⟩ := mm_ifE hf
  refine MM.if_ne (tgt := 10) d_M_readsPayment_5 rfl rfl (fun c52 => ?_) (fun c52 => ?_)
  · replace hf := m54 c52
    refine MM.aload_n (i := 0) rfl rfl d_M_readsPayment_10 rfl ?_
    refine MM.gR 9 34 tg_261 rq_9_44 rfl lays_9 ww_1402 d_M_readsPayment_11 rfl ?_
    refine MM.iload_n (i := 1) rfl rfl d_M_readsPayment_14 rfl ?_
    refine MM.aload_n (i := 0) rfl rfl d_M_readsPayment_15 rfl ?_
    refine MM.getI 9 tg_261 lays_9 gq_9_41 ww_1399 d_M_readsPayment_16 rfl ?_
    obtain ⟨k3, e4, hf⟩ := mm_bind hf
    obtain ⟨h5, e6, hf⟩ := mm_letE hf
    refine MM.sI e4 e6 al_295 d_M_readsPayment_19 rfl ?_
    refine MM.aload_n (i := 0) rfl rfl d_M_readsPayment_20 rfl ?_
    refine MM.gR 9 36 tg_261 rq_9_46 rfl lays_9 ww_1404 d_M_readsPayment_21 rfl ?_
    refine MM.iload_n (i := 1) rfl rfl d_M_readsPayment_24 rfl ?_
    refine MM.iconst ic_0 d_M_readsPayment_25 rfl ?_
    obtain ⟨k7, e8, hf⟩ := mm_bind hf
    obtain ⟨h9, e10, hf⟩ := mm_letE hf
    refine MM.sI e8 e10 al_297 d_M_readsPayment_26 rfl ?_
    refine MM.aload_n (i := 0) rfl rfl d_M_readsPayment_27 rfl ?_
    obtain ⟨v12, e11, hf⟩ := mm_bind hf
    refine MM.callV0 (T_M_nextToken V l  h9 _ e11) (fun _ _ q => q) cal_M_nextToken rfl tg_261 ct_9 ww_39 ww_1593 ww_1591 (by decide) (by simp [Value.category]) d_M_readsPayment_28 rfl ⟨rfl, rfl⟩ rfl ?_
    refine MM.sub [0, 1] (by rfl) (mm_while_ind (fun s13 => MM V l Y_M_readsPayment 4 0 0 Z0 31 [(0, .ref 261), (1, .int x1)] [] s13) hf (fun s13 q14 hf hx15 => ?_))
    refine MM.aload_n (i := 0) rfl rfl d_M_readsPayment_31 rfl ?_
    refine MM.gR 9 36 tg_261 rq_9_46 rfl lays_9 ww_1404 d_M_readsPayment_32 rfl ?_
    refine MM.iload_n (i := 1) rfl rfl d_M_readsPayment_35 rfl ?_
    obtain ⟨k16, e17, hf⟩ := mm_bind hf
    refine MM.gI e17 al_297 d_M_readsPayment_36 rfl ?_
    obtain ⟨k20, e51, hf⟩ := mm_jpE hf
    have K19 : ∀ j18, k20 j18 = some q14 → MM V l Y_M_readsPayment 4 0 0 Z0 49 [(0, .ref 261), (1, .int x1)] [] s13 := by
      intro j18 hf
      rw [e51] at hf
      refine MM.aload_n (i := 0) rfl rfl d_M_readsPayment_49 rfl ?_
      refine MM.iconst ic_0 d_M_readsPayment_50 rfl ?_
      obtain ⟨v22, e21, hf⟩ := mm_bind hf
      refine MM.callV1 (T_M_needsSecret V l 0 s13 _ e21) (fun _ _ q => q) cal_M_needsSecret rfl tg_261 ct_9 ww_55 ww_1689 ww_1687 (by decide) (by simp [Value.category]) d_M_readsPayment_51 rfl ⟨rfl, rfl⟩ rfl ?_
      obtain ⟨m41, m42⟩ := mm_ifE hf
      refine MM.if_ne (tgt := 59) d_M_readsPayment_54 rfl rfl (fun c40 => ?_) (fun c40 => ?_)
      · replace hf := m42 c40
        refine MM.aload_n (i := 0) rfl rfl d_M_readsPayment_59 rfl ?_
        refine MM.gR 9 36 tg_261 rq_9_46 rfl lays_9 ww_1404 d_M_readsPayment_60 rfl ?_
        refine MM.iload_n (i := 1) rfl rfl d_M_readsPayment_63 rfl ?_
        obtain ⟨k23, e24, hf⟩ := mm_bind hf
        refine MM.gI e24 al_297 d_M_readsPayment_64 rfl ?_
        refine MM.aload_n (i := 0) rfl rfl d_M_readsPayment_65 rfl ?_
        refine MM.getI 9 tg_261 lays_9 gq_9_41 ww_1399 d_M_readsPayment_66 rfl ?_
        refine MM.ishr d_M_readsPayment_69 rfl ?_
        refine MM.iconst ic_1 d_M_readsPayment_70 rfl ?_
        refine MM.iand d_M_readsPayment_71 rfl ?_
        refine MM.iconst ic_1 d_M_readsPayment_72 rfl ?_
        obtain ⟨m38, m39⟩ := mm_ifE hf
        refine MM.icmp_ne (tgt := 82) d_M_readsPayment_73 rfl rfl (fun c37 => ?_) (fun c37 => ?_)
        · replace hf := m39 c37
          refine MM.aload_n (i := 0) rfl rfl d_M_readsPayment_82 rfl ?_
          refine MM.gR 9 36 tg_261 rq_9_46 rfl lays_9 ww_1404 d_M_readsPayment_83 rfl ?_
          refine MM.iload_n (i := 1) rfl rfl d_M_readsPayment_86 rfl ?_
          refine MM.dup2 rfl rfl d_M_readsPayment_87 rfl ?_
          obtain ⟨k25, e26, hf⟩ := mm_bind hf
          refine MM.gI e26 al_297 d_M_readsPayment_88 rfl ?_
          refine MM.iconst ic_1 d_M_readsPayment_89 rfl ?_
          refine MM.aload_n (i := 0) rfl rfl d_M_readsPayment_90 rfl ?_
          refine MM.getI 9 tg_261 lays_9 gq_9_41 ww_1399 d_M_readsPayment_91 rfl ?_
          refine MM.ishl d_M_readsPayment_94 rfl ?_
          refine MM.ior d_M_readsPayment_95 rfl ?_
          obtain ⟨k27, e28, hf⟩ := mm_bind hf
          obtain ⟨h29, e30, hf⟩ := mm_letE hf
          refine MM.sI e28 e30 al_297 d_M_readsPayment_96 rfl ?_
          refine MM.aload_n (i := 0) rfl rfl d_M_readsPayment_97 rfl ?_
          obtain ⟨v32, e31, hf⟩ := mm_bind hf
          refine MM.callV0 (T_M_nextToken V l  h29 _ e31) (fun _ _ q => q) cal_M_nextToken rfl tg_261 ct_9 ww_39 ww_1593 ww_1591 (by decide) (by simp [Value.category]) d_M_readsPayment_98 rfl ⟨rfl, rfl⟩ rfl ?_
          refine MM.goto (tgt := 31) d_M_readsPayment_101 rfl ?_
          obtain rfl := Option.some.inj hf
          have h9 := mm_wxL hx15
          exact MM.sub [0, 1] (by rfl) h9
        · replace hf := m38 c37
          refine MM.aload_n (i := 0) rfl rfl d_M_readsPayment_76 rfl ?_
          refine MM.iconst ic_3 d_M_readsPayment_77 rfl ?_
          obtain ⟨v34, e33, hf⟩ := mm_bind hf
          refine MM.callV1 (T_M_fails V l 3 v22.2 _ e33) (fun _ _ q => q) cal_M_fails rfl tg_261 ct_9 ww_43 ww_1612 ww_1610 (by decide) (by simp [Value.category]) d_M_readsPayment_78 rfl ⟨rfl, rfl⟩ rfl ?_
          obtain ⟨b35, e36, hf⟩ := mm_bind hf
          obtain ⟨ob35, e36⟩ := mm_boE e36
          subst e36
          obtain rfl := Option.some.inj hf
          replace hf := mm_wxR hx15
          obtain rfl := Option.some.inj hf
          subst hZ
          exact MM.zret ob35 rfl d_M_readsPayment_81 ⟨rfl, rfl⟩
      · replace hf := m41 c40
        refine MM.iconst ic_0 d_M_readsPayment_57 rfl ?_
        obtain rfl := Option.some.inj hf
        replace hf := mm_wxR hx15
        obtain rfl := Option.some.inj hf
        subst hZ
        exact MM.zret (Or.inl rfl) rfl d_M_readsPayment_58 ⟨rfl, rfl⟩
    clear e51
    obtain ⟨m49, m50⟩ := mm_ifE hf
    refine MM.if_eq (tgt := 49) d_M_readsPayment_37 rfl rfl (fun c48 => ?_) (fun c48 => ?_)
    · replace hf := m49 c48
      exact MM.sub [0, 1] (by rfl) (K19 _ hf)
    · replace hf := m50 c48
      refine MM.aload_n (i := 0) rfl rfl d_M_readsPayment_40 rfl ?_
      refine MM.bipush bp_59 d_M_readsPayment_41 rfl ?_
      obtain ⟨v44, e43, hf⟩ := mm_bind hf
      refine MM.callV1 (T_M_isSign V l 59 s13 _ e43) (fun _ _ q => q) cal_M_isSign rfl tg_261 ct_9 ww_52 ww_1677 ww_1675 (by decide) (by simp [Value.category]) d_M_readsPayment_43 rfl ⟨rfl, rfl⟩ rfl ?_
      obtain ⟨m46, m47⟩ := mm_ifE hf
      refine MM.if_ne (tgt := 104) d_M_readsPayment_46 rfl rfl (fun c45 => ?_) (fun c45 => ?_)
      · replace hf := m47 c45
        refine MM.iconst ic_1 d_M_readsPayment_104 rfl ?_
        obtain rfl := Option.some.inj hf
        replace hf := mm_wxR hx15
        obtain rfl := Option.some.inj hf
        subst hZ
        exact MM.zret (Or.inr rfl) rfl d_M_readsPayment_105 ⟨rfl, rfl⟩
      · replace hf := m46 c45
        exact MM.sub [0, 1] (by rfl) (K19 _ hf)
  · replace hf := m53 c52
    refine MM.iconst ic_0 d_M_readsPayment_8 rfl ?_
    obtain rfl := Option.some.inj hf
    subst hZ
    exact MM.zret (Or.inl rfl) rfl d_M_readsPayment_9 ⟨rfl, rfl⟩
theorem d_M_readsRise_0 : decode cX12_readsRise 0 = .ok (.aload_n 0, 1) := by decide +kernel
theorem d_M_readsRise_1 : decode cX12_readsRise 1 = .ok (.iconst 0, 1) := by decide +kernel
theorem d_M_readsRise_2 : decode cX12_readsRise 2 = .ok (.invokevirtual 342, 3) := by decide +kernel
theorem d_M_readsRise_5 : decode cX12_readsRise 5 = .ok (.ifCond .ne 5, 3) := by decide +kernel
theorem d_M_readsRise_8 : decode cX12_readsRise 8 = .ok (.iconst 0, 1) := by decide +kernel
theorem d_M_readsRise_9 : decode cX12_readsRise 9 = .ok (.ireturn, 1) := by decide +kernel
theorem d_M_readsRise_10 : decode cX12_readsRise 10 = .ok (.aload_n 0, 1) := by decide +kernel
theorem d_M_readsRise_11 : decode cX12_readsRise 11 = .ok (.getfield 111, 3) := by decide +kernel
theorem d_M_readsRise_14 : decode cX12_readsRise 14 = .ok (.iload_n 1, 1) := by decide +kernel
theorem d_M_readsRise_15 : decode cX12_readsRise 15 = .ok (.aload_n 0, 1) := by decide +kernel
theorem d_M_readsRise_16 : decode cX12_readsRise 16 = .ok (.getfield 312, 3) := by decide +kernel
theorem d_M_readsRise_19 : decode cX12_readsRise 19 = .ok (.iastore, 1) := by decide +kernel
theorem d_M_readsRise_20 : decode cX12_readsRise 20 = .ok (.aload_n 0, 1) := by decide +kernel
theorem d_M_readsRise_21 : decode cX12_readsRise 21 = .ok (.invokevirtual 246, 3) := by decide +kernel
theorem d_M_readsRise_24 : decode cX12_readsRise 24 = .ok (.iconst 1, 1) := by decide +kernel
theorem d_M_readsRise_25 : decode cX12_readsRise 25 = .ok (.ireturn, 1) := by decide +kernel
noncomputable def f_M_readsRise (x1 : Int32) (h : mm_H) : Option (Int32 × mm_H) := (f_M_needsPerson 0 h).bind fun v2 => if v2.1 = 0 then (some (0, v2.2)) else ((mm_ix x1 180).bind fun k3 => mm_let (mm_pI v2.2 295 k3 (v2.2.1 261 41)) fun h5 => (f_M_nextToken h5).bind fun v8 => some (1, v8))
theorem T_M_readsRise (V : mm_V) (l : Launch) (x1 : Int32) (h : mm_H) (r : (Int32 × mm_H)) (hf : f_M_readsRise x1 h = some r) : MT V l Y_M_readsRise 4 [.ref 261, .int x1] (fun r1 h1 => r1 = some (.int r.1) ∧ h1 = r.2) h := by
  unfold f_M_readsRise at hf
  refine MT.intro (pn_M rfl) [(0, .ref 261), (1, .int x1)] rfl (Nat.le_of_ble_eq_true rfl) ?_
  generalize hZ : mm_Z V _ = Z0
  refine MM.aload_n (i := 0) rfl rfl d_M_readsRise_0 rfl ?_
  refine MM.iconst ic_0 d_M_readsRise_1 rfl ?_
  obtain ⟨v2, e1, hf⟩ := mm_bind hf
  refine MM.callV1 (T_M_needsPerson V l 0 h _ e1) (fun _ _ q => q) cal_M_needsPerson rfl tg_261 ct_9 ww_54 ww_1685 ww_1683 (by decide) (by simp [Value.category]) d_M_readsRise_2 rfl ⟨rfl, rfl⟩ rfl ?_
  obtain ⟨m10, m11⟩ := mm_ifE hf
  refine MM.if_ne (tgt := 10) d_M_readsRise_5 rfl rfl (fun c9 => ?_) (fun c9 => ?_)
  · replace hf := m11 c9
    refine MM.aload_n (i := 0) rfl rfl d_M_readsRise_10 rfl ?_
    refine MM.gR 9 34 tg_261 rq_9_44 rfl lays_9 ww_1402 d_M_readsRise_11 rfl ?_
    refine MM.iload_n (i := 1) rfl rfl d_M_readsRise_14 rfl ?_
    refine MM.aload_n (i := 0) rfl rfl d_M_readsRise_15 rfl ?_
    refine MM.getI 9 tg_261 lays_9 gq_9_41 ww_1399 d_M_readsRise_16 rfl ?_
    obtain ⟨k3, e4, hf⟩ := mm_bind hf
    obtain ⟨h5, e6, hf⟩ := mm_letE hf
    refine MM.sI e4 e6 al_295 d_M_readsRise_19 rfl ?_
    refine MM.aload_n (i := 0) rfl rfl d_M_readsRise_20 rfl ?_
    obtain ⟨v8, e7, hf⟩ := mm_bind hf
    refine MM.callV0 (T_M_nextToken V l  h5 _ e7) (fun _ _ q => q) cal_M_nextToken rfl tg_261 ct_9 ww_39 ww_1593 ww_1591 (by decide) (by simp [Value.category]) d_M_readsRise_21 rfl ⟨rfl, rfl⟩ rfl ?_
    refine MM.iconst ic_1 d_M_readsRise_24 rfl ?_
    obtain rfl := Option.some.inj hf
    subst hZ
    exact MM.zret (Or.inr rfl) rfl d_M_readsRise_25 ⟨rfl, rfl⟩
  · replace hf := m10 c9
    refine MM.iconst ic_0 d_M_readsRise_8 rfl ?_
    obtain rfl := Option.some.inj hf
    subst hZ
    exact MM.zret (Or.inl rfl) rfl d_M_readsRise_9 ⟨rfl, rfl⟩
theorem d_M_readsLine_0 : decode cX12_readsLine 0 = .ok (.aload_n 0, 1) := by decide +kernel
theorem d_M_readsLine_1 : decode cX12_readsLine 1 = .ok (.ldc2_w 284, 3) := by decide +kernel
theorem d_M_readsLine_4 : decode cX12_readsLine 4 = .ok (.invokevirtual 231, 3) := by decide +kernel
theorem d_M_readsLine_7 : decode cX12_readsLine 7 = .ok (.ifCond .eq 7, 3) := by decide +kernel
theorem d_M_readsLine_10 : decode cX12_readsLine 10 = .ok (.iconst 0, 1) := by decide +kernel
theorem d_M_readsLine_11 : decode cX12_readsLine 11 = .ok (.goto 46, 3) := by decide +kernel
theorem d_M_readsLine_14 : decode cX12_readsLine 14 = .ok (.aload_n 0, 1) := by decide +kernel
theorem d_M_readsLine_15 : decode cX12_readsLine 15 = .ok (.ldc2_w 286, 3) := by decide +kernel
theorem d_M_readsLine_18 : decode cX12_readsLine 18 = .ok (.invokevirtual 231, 3) := by decide +kernel
theorem d_M_readsLine_21 : decode cX12_readsLine 21 = .ok (.ifCond .eq 7, 3) := by decide +kernel
theorem d_M_readsLine_24 : decode cX12_readsLine 24 = .ok (.iconst 1, 1) := by decide +kernel
theorem d_M_readsLine_25 : decode cX12_readsLine 25 = .ok (.goto 32, 3) := by decide +kernel
theorem d_M_readsLine_28 : decode cX12_readsLine 28 = .ok (.aload_n 0, 1) := by decide +kernel
theorem d_M_readsLine_29 : decode cX12_readsLine 29 = .ok (.ldc2_w 288, 3) := by decide +kernel
theorem d_M_readsLine_32 : decode cX12_readsLine 32 = .ok (.invokevirtual 231, 3) := by decide +kernel
theorem d_M_readsLine_35 : decode cX12_readsLine 35 = .ok (.ifCond .eq 7, 3) := by decide +kernel
theorem d_M_readsLine_38 : decode cX12_readsLine 38 = .ok (.iconst 2, 1) := by decide +kernel
theorem d_M_readsLine_39 : decode cX12_readsLine 39 = .ok (.goto 18, 3) := by decide +kernel
theorem d_M_readsLine_42 : decode cX12_readsLine 42 = .ok (.aload_n 0, 1) := by decide +kernel
theorem d_M_readsLine_43 : decode cX12_readsLine 43 = .ok (.ldc2_w 290, 3) := by decide +kernel
theorem d_M_readsLine_46 : decode cX12_readsLine 46 = .ok (.invokevirtual 231, 3) := by decide +kernel
theorem d_M_readsLine_49 : decode cX12_readsLine 49 = .ok (.ifCond .eq 7, 3) := by decide +kernel
theorem d_M_readsLine_52 : decode cX12_readsLine 52 = .ok (.iconst 3, 1) := by decide +kernel
theorem d_M_readsLine_53 : decode cX12_readsLine 53 = .ok (.goto 4, 3) := by decide +kernel
theorem d_M_readsLine_56 : decode cX12_readsLine 56 = .ok (.iconst (-1), 1) := by decide +kernel
theorem d_M_readsLine_57 : decode cX12_readsLine 57 = .ok (.istore_n 1, 1) := by decide +kernel
theorem d_M_readsLine_58 : decode cX12_readsLine 58 = .ok (.iload_n 1, 1) := by decide +kernel
theorem d_M_readsLine_59 : decode cX12_readsLine 59 = .ok (.ifCond .ge 9, 3) := by decide +kernel
theorem d_M_readsLine_62 : decode cX12_readsLine 62 = .ok (.aload_n 0, 1) := by decide +kernel
theorem d_M_readsLine_63 : decode cX12_readsLine 63 = .ok (.iconst 1, 1) := by decide +kernel
theorem d_M_readsLine_64 : decode cX12_readsLine 64 = .ok (.invokevirtual 239, 3) := by decide +kernel
theorem d_M_readsLine_67 : decode cX12_readsLine 67 = .ok (.ireturn, 1) := by decide +kernel
theorem d_M_readsLine_68 : decode cX12_readsLine 68 = .ok (.aload_n 0, 1) := by decide +kernel
theorem d_M_readsLine_69 : decode cX12_readsLine 69 = .ok (.getfield 105, 3) := by decide +kernel
theorem d_M_readsLine_72 : decode cX12_readsLine 72 = .ok (.iconst 5, 1) := by decide +kernel
theorem d_M_readsLine_73 : decode cX12_readsLine 73 = .ok (.iaload, 1) := by decide +kernel
theorem d_M_readsLine_74 : decode cX12_readsLine 74 = .ok (.bipush 30, 2) := by decide +kernel
theorem d_M_readsLine_76 : decode cX12_readsLine 76 = .ok (.if_icmp .ne 9, 3) := by decide +kernel
theorem d_M_readsLine_79 : decode cX12_readsLine 79 = .ok (.aload_n 0, 1) := by decide +kernel
theorem d_M_readsLine_80 : decode cX12_readsLine 80 = .ok (.iconst 5, 1) := by decide +kernel
theorem d_M_readsLine_81 : decode cX12_readsLine 81 = .ok (.invokevirtual 239, 3) := by decide +kernel
theorem d_M_readsLine_84 : decode cX12_readsLine 84 = .ok (.ireturn, 1) := by decide +kernel
theorem d_M_readsLine_85 : decode cX12_readsLine 85 = .ok (.aload_n 0, 1) := by decide +kernel
theorem d_M_readsLine_86 : decode cX12_readsLine 86 = .ok (.invokevirtual 246, 3) := by decide +kernel
theorem d_M_readsLine_89 : decode cX12_readsLine 89 = .ok (.sipush 150, 3) := by decide +kernel
theorem d_M_readsLine_92 : decode cX12_readsLine 92 = .ok (.aload_n 0, 1) := by decide +kernel
theorem d_M_readsLine_93 : decode cX12_readsLine 93 = .ok (.getfield 105, 3) := by decide +kernel
theorem d_M_readsLine_96 : decode cX12_readsLine 96 = .ok (.iconst 5, 1) := by decide +kernel
theorem d_M_readsLine_97 : decode cX12_readsLine 97 = .ok (.iaload, 1) := by decide +kernel
theorem d_M_readsLine_98 : decode cX12_readsLine 98 = .ok (.iadd, 1) := by decide +kernel
theorem d_M_readsLine_99 : decode cX12_readsLine 99 = .ok (.istore_n 2, 1) := by decide +kernel
theorem d_M_readsLine_100 : decode cX12_readsLine 100 = .ok (.aload_n 0, 1) := by decide +kernel
theorem d_M_readsLine_101 : decode cX12_readsLine 101 = .ok (.getfield 108, 3) := by decide +kernel
theorem d_M_readsLine_104 : decode cX12_readsLine 104 = .ok (.iload_n 2, 1) := by decide +kernel
theorem d_M_readsLine_105 : decode cX12_readsLine 105 = .ok (.iload_n 1, 1) := by decide +kernel
theorem d_M_readsLine_106 : decode cX12_readsLine 106 = .ok (.iastore, 1) := by decide +kernel
theorem d_M_readsLine_107 : decode cX12_readsLine 107 = .ok (.iload_n 1, 1) := by decide +kernel
theorem d_M_readsLine_108 : decode cX12_readsLine 108 = .ok (.ifCond .ne 14, 3) := by decide +kernel
theorem d_M_readsLine_111 : decode cX12_readsLine 111 = .ok (.aload_n 0, 1) := by decide +kernel
theorem d_M_readsLine_112 : decode cX12_readsLine 112 = .ok (.iload_n 2, 1) := by decide +kernel
theorem d_M_readsLine_113 : decode cX12_readsLine 113 = .ok (.invokevirtual 380, 3) := by decide +kernel
theorem d_M_readsLine_116 : decode cX12_readsLine 116 = .ok (.ifCond .ne 37, 3) := by decide +kernel
theorem d_M_readsLine_119 : decode cX12_readsLine 119 = .ok (.goto 32, 3) := by decide +kernel
theorem d_M_readsLine_122 : decode cX12_readsLine 122 = .ok (.iload_n 1, 1) := by decide +kernel
theorem d_M_readsLine_123 : decode cX12_readsLine 123 = .ok (.iconst 1, 1) := by decide +kernel
theorem d_M_readsLine_124 : decode cX12_readsLine 124 = .ok (.if_icmp .ne 14, 3) := by decide +kernel
theorem d_M_readsLine_127 : decode cX12_readsLine 127 = .ok (.aload_n 0, 1) := by decide +kernel
theorem d_M_readsLine_128 : decode cX12_readsLine 128 = .ok (.iload_n 2, 1) := by decide +kernel
theorem d_M_readsLine_129 : decode cX12_readsLine 129 = .ok (.invokevirtual 383, 3) := by decide +kernel
theorem d_M_readsLine_132 : decode cX12_readsLine 132 = .ok (.ifCond .ne 21, 3) := by decide +kernel
theorem d_M_readsLine_135 : decode cX12_readsLine 135 = .ok (.goto 16, 3) := by decide +kernel
theorem d_M_readsLine_138 : decode cX12_readsLine 138 = .ok (.iload_n 1, 1) := by decide +kernel
theorem d_M_readsLine_139 : decode cX12_readsLine 139 = .ok (.iconst 2, 1) := by decide +kernel
theorem d_M_readsLine_140 : decode cX12_readsLine 140 = .ok (.if_icmp .ne 13, 3) := by decide +kernel
theorem d_M_readsLine_143 : decode cX12_readsLine 143 = .ok (.aload_n 0, 1) := by decide +kernel
theorem d_M_readsLine_144 : decode cX12_readsLine 144 = .ok (.iload_n 2, 1) := by decide +kernel
theorem d_M_readsLine_145 : decode cX12_readsLine 145 = .ok (.invokevirtual 386, 3) := by decide +kernel
theorem d_M_readsLine_148 : decode cX12_readsLine 148 = .ok (.ifCond .ne 5, 3) := by decide +kernel
theorem d_M_readsLine_151 : decode cX12_readsLine 151 = .ok (.iconst 0, 1) := by decide +kernel
theorem d_M_readsLine_152 : decode cX12_readsLine 152 = .ok (.ireturn, 1) := by decide +kernel
theorem d_M_readsLine_153 : decode cX12_readsLine 153 = .ok (.aload_n 0, 1) := by decide +kernel
theorem d_M_readsLine_154 : decode cX12_readsLine 154 = .ok (.getfield 105, 3) := by decide +kernel
theorem d_M_readsLine_157 : decode cX12_readsLine 157 = .ok (.iconst 5, 1) := by decide +kernel
theorem d_M_readsLine_158 : decode cX12_readsLine 158 = .ok (.dup2, 1) := by decide +kernel
theorem d_M_readsLine_159 : decode cX12_readsLine 159 = .ok (.iaload, 1) := by decide +kernel
theorem d_M_readsLine_160 : decode cX12_readsLine 160 = .ok (.iconst 1, 1) := by decide +kernel
theorem d_M_readsLine_161 : decode cX12_readsLine 161 = .ok (.iadd, 1) := by decide +kernel
theorem d_M_readsLine_162 : decode cX12_readsLine 162 = .ok (.iastore, 1) := by decide +kernel
theorem d_M_readsLine_163 : decode cX12_readsLine 163 = .ok (.aload_n 0, 1) := by decide +kernel
theorem d_M_readsLine_164 : decode cX12_readsLine 164 = .ok (.invokevirtual 339, 3) := by decide +kernel
theorem d_M_readsLine_167 : decode cX12_readsLine 167 = .ok (.ireturn, 1) := by decide +kernel
noncomputable def f_M_readsLine (h : mm_H) : Option (Int32 × mm_H) := (f_M_isWord (397641 : Int64) h).bind fun v2 => (if v2 = 0 then ((f_M_isWord (11716 : Int64) h).bind fun v6 => if v6 = 0 then ((f_M_isWord (361373 : Int64) h).bind fun v8 => if v8 = 0 then ((f_M_isWord (6888375828 : Int64) h).bind fun v10 => if v10 = 0 then (some (-1)) else (some 3)) else (some 2)) else (some 1)) else (some 0) : Option Int32).bind fun j3 => if 0 ≤ j3 then (if (h.1 293 5) = 30 then ((f_M_fails 5 h).bind fun v66 => (mm_bo v66.1).bind fun b67 => some (b67, v66.2)) else ((f_M_nextToken h).bind fun v24 => mm_let (150 + (v24.1 293 5)) fun y25 => (mm_ix y25 180).bind fun k27 => mm_let (mm_pI v24 294 k27 j3) fun h29 => mm_jp (fun (j31 : mm_H) => (mm_let (mm_pI j31 293 5 ((j31.1 293 5) + 1)) fun h34 => (f_M_closes h34).bind fun v37 => (mm_bo v37.1).bind fun b38 => some (b38, v37.2))) fun k33 => if j3 = 0 then ((f_M_readsTelling y25 h29).bind fun v57 => if v57.1 = 0 then (some (0, v57.2)) else (k33 v57.2)) else (if j3 = 1 then ((f_M_readsPayment y25 h29).bind fun v49 => if v49.1 = 0 then (some (0, v49.2)) else (k33 v49.2)) else (if j3 = 2 then ((f_M_readsRise y25 h29).bind fun v41 => if v41.1 = 0 then (some (0, v41.2)) else (k33 v41.2)) else (k33 h29))))) else ((f_M_fails 1 h).bind fun v73 => (mm_bo v73.1).bind fun b74 => some (b74, v73.2))
theorem T_M_readsLine (V : mm_V) (l : Launch) (h : mm_H) (r : (Int32 × mm_H)) (hf : f_M_readsLine h = some r) : MT V l Y_M_readsLine 5 [.ref 261] (fun r1 h1 => r1 = some (.int r.1) ∧ h1 = r.2) h := by
  unfold f_M_readsLine at hf
  refine MT.intro (pn_M rfl) [(0, .ref 261)] rfl (Nat.le_of_ble_eq_true rfl) ?_
  generalize hZ : mm_Z V _ = Z0
  refine MM.aload_n (i := 0) rfl rfl d_M_readsLine_0 rfl ?_
  refine MM.ldc2 ww_1632 d_M_readsLine_1 rfl ?_
  obtain ⟨v2, e1, hf⟩ := mm_bind hf
  refine MM.callV1 (T_M_isWord V l (397641 : Int64) h _ e1) (fun _ _ q => q) cal_M_isWord rfl tg_261 ct_9 ww_41 ww_1604 ww_1602 (by decide) (by simp [Value.category]) d_M_readsLine_4 rfl ⟨rfl, rfl⟩ rfl ?_
  obtain ⟨j3, e79, hf⟩ := mm_bind hf
  have K4 : MM V l Y_M_readsLine 5 0 0 Z0 57 [(0, .ref 261)] [.int j3] h := by
    refine MM.istore_n (i := 1) (lv' := [(1, .int j3), (0, .ref 261)]) rfl rfl (Nat.le_of_ble_eq_true rfl) rfl d_M_readsLine_57 rfl ?_
    refine MM.iload_n (i := 1) rfl rfl d_M_readsLine_58 rfl ?_
    obtain ⟨m77, m78⟩ := mm_ifE hf
    refine MM.if_ge (tgt := 68) d_M_readsLine_59 rfl rfl (fun c76 => ?_) (fun c76 => ?_)
    · replace hf := m77 c76
      refine MM.aload_n (i := 0) rfl rfl d_M_readsLine_68 rfl ?_
      refine MM.gR 9 32 tg_261 rq_9_42 rfl lays_9 ww_1400 d_M_readsLine_69 rfl ?_
      refine MM.iconst ic_5 d_M_readsLine_72 rfl ?_
      refine MM.gI ix_5_6 al_293 d_M_readsLine_73 rfl ?_
      refine MM.bipush bp_30 d_M_readsLine_74 rfl ?_
      obtain ⟨m70, m71⟩ := mm_ifE hf
      refine MM.icmp_ne (tgt := 85) d_M_readsLine_76 rfl rfl (fun c69 => ?_) (fun c69 => ?_)
      · replace hf := m71 c69
        refine MM.aload_n (i := 0) rfl rfl d_M_readsLine_85 rfl ?_
        obtain ⟨v24, e23, hf⟩ := mm_bind hf
        refine MM.callV0 (T_M_nextToken V l  h _ e23) (fun _ _ q => q) cal_M_nextToken rfl tg_261 ct_9 ww_39 ww_1593 ww_1591 (by decide) (by simp [Value.category]) d_M_readsLine_86 rfl ⟨rfl, rfl⟩ rfl ?_
        refine MM.sipush sp_150 d_M_readsLine_89 rfl ?_
        refine MM.aload_n (i := 0) rfl rfl d_M_readsLine_92 rfl ?_
        refine MM.gR 9 32 tg_261 rq_9_42 rfl lays_9 ww_1400 d_M_readsLine_93 rfl ?_
        refine MM.iconst ic_5 d_M_readsLine_96 rfl ?_
        refine MM.gI ix_5_6 al_293 d_M_readsLine_97 rfl ?_
        refine MM.iadd d_M_readsLine_98 rfl ?_
        obtain ⟨y25, e26, hf⟩ := mm_letE hf
        refine MM.istore_n (i := 2) (lv' := [(2, .int y25), (1, .int j3), (0, .ref 261)]) e26 rfl (Nat.le_of_ble_eq_true rfl) rfl d_M_readsLine_99 rfl ?_
        refine MM.aload_n (i := 0) rfl rfl d_M_readsLine_100 rfl ?_
        refine MM.gR 9 33 tg_261 rq_9_43 rfl lays_9 ww_1401 d_M_readsLine_101 rfl ?_
        refine MM.iload_n (i := 2) rfl rfl d_M_readsLine_104 rfl ?_
        refine MM.iload_n (i := 1) rfl rfl d_M_readsLine_105 rfl ?_
        obtain ⟨k27, e28, hf⟩ := mm_bind hf
        obtain ⟨h29, e30, hf⟩ := mm_letE hf
        refine MM.sI e28 e30 al_294 d_M_readsLine_106 rfl ?_
        refine MM.iload_n (i := 1) rfl rfl d_M_readsLine_107 rfl ?_
        obtain ⟨k33, e64, hf⟩ := mm_jpE hf
        have K32 : ∀ j31, k33 j31 = some r → MM V l Y_M_readsLine 5 0 0 Z0 153 [(0, .ref 261)] [] j31 := by
          intro j31 hf
          rw [e64] at hf
          refine MM.aload_n (i := 0) rfl rfl d_M_readsLine_153 rfl ?_
          refine MM.gR 9 32 tg_261 rq_9_42 rfl lays_9 ww_1400 d_M_readsLine_154 rfl ?_
          refine MM.iconst ic_5 d_M_readsLine_157 rfl ?_
          refine MM.dup2 rfl rfl d_M_readsLine_158 rfl ?_
          refine MM.gI ix_5_6 al_293 d_M_readsLine_159 rfl ?_
          refine MM.iconst ic_1 d_M_readsLine_160 rfl ?_
          refine MM.iadd d_M_readsLine_161 rfl ?_
          obtain ⟨h34, e35, hf⟩ := mm_letE hf
          refine MM.sI ix_5_6 e35 al_293 d_M_readsLine_162 rfl ?_
          refine MM.aload_n (i := 0) rfl rfl d_M_readsLine_163 rfl ?_
          obtain ⟨v37, e36, hf⟩ := mm_bind hf
          refine MM.callV1 (T_M_closes V l  h34 _ e36) (fun _ _ q => q) cal_M_closes rfl tg_261 ct_9 ww_51 ww_1673 ww_1671 (by decide) (by simp [Value.category]) d_M_readsLine_164 rfl ⟨rfl, rfl⟩ rfl ?_
          obtain ⟨b38, e39, hf⟩ := mm_bind hf
          obtain ⟨ob38, e39⟩ := mm_boE e39
          subst e39
          obtain rfl := Option.some.inj hf
          subst hZ
          exact MM.zret ob38 rfl d_M_readsLine_167 ⟨rfl, rfl⟩
        clear e64
        obtain ⟨m62, m63⟩ := mm_ifE hf
        refine MM.if_ne (tgt := 122) d_M_readsLine_108 rfl rfl (fun c61 => ?_) (fun c61 => ?_)
        · replace hf := m63 c61
          refine MM.iload_n (i := 1) rfl rfl d_M_readsLine_122 rfl ?_
          refine MM.iconst ic_1 d_M_readsLine_123 rfl ?_
          obtain ⟨m54, m55⟩ := mm_ifE hf
          refine MM.icmp_ne (tgt := 138) d_M_readsLine_124 rfl rfl (fun c53 => ?_) (fun c53 => ?_)
          · replace hf := m55 c53
            refine MM.iload_n (i := 1) rfl rfl d_M_readsLine_138 rfl ?_
            refine MM.iconst ic_2 d_M_readsLine_139 rfl ?_
            obtain ⟨m46, m47⟩ := mm_ifE hf
            refine MM.icmp_ne (tgt := 153) d_M_readsLine_140 rfl rfl (fun c45 => ?_) (fun c45 => ?_)
            · replace hf := m47 c45
              exact MM.sub [2] (by rfl) (K32 _ hf)
            · replace hf := m46 c45
              refine MM.aload_n (i := 0) rfl rfl d_M_readsLine_143 rfl ?_
              refine MM.iload_n (i := 2) rfl rfl d_M_readsLine_144 rfl ?_
              obtain ⟨v41, e40, hf⟩ := mm_bind hf
              refine MM.callV1 (T_M_readsRise V l y25 h29 _ e40) (fun _ _ q => q) cal_M_readsRise rfl tg_261 ct_9 ww_68 ww_1755 ww_1753 (by decide) (by simp [Value.category]) d_M_readsLine_145 rfl ⟨rfl, rfl⟩ rfl ?_
              obtain ⟨m43, m44⟩ := mm_ifE hf
              refine MM.if_ne (tgt := 153) d_M_readsLine_148 rfl rfl (fun c42 => ?_) (fun c42 => ?_)
              · replace hf := m44 c42
                exact MM.sub [2] (by rfl) (K32 _ hf)
              · replace hf := m43 c42
                refine MM.iconst ic_0 d_M_readsLine_151 rfl ?_
                obtain rfl := Option.some.inj hf
                subst hZ
                exact MM.zret (Or.inl rfl) rfl d_M_readsLine_152 ⟨rfl, rfl⟩
          · replace hf := m54 c53
            refine MM.aload_n (i := 0) rfl rfl d_M_readsLine_127 rfl ?_
            refine MM.iload_n (i := 2) rfl rfl d_M_readsLine_128 rfl ?_
            obtain ⟨v49, e48, hf⟩ := mm_bind hf
            refine MM.callV1 (T_M_readsPayment V l y25 h29 _ e48) (fun _ _ q => q) cal_M_readsPayment rfl tg_261 ct_9 ww_67 ww_1751 ww_1749 (by decide) (by simp [Value.category]) d_M_readsLine_129 rfl ⟨rfl, rfl⟩ rfl ?_
            obtain ⟨m51, m52⟩ := mm_ifE hf
            refine MM.if_ne (tgt := 153) d_M_readsLine_132 rfl rfl (fun c50 => ?_) (fun c50 => ?_)
            · replace hf := m52 c50
              exact MM.sub [2] (by rfl) (K32 _ hf)
            · replace hf := m51 c50
              refine MM.goto (tgt := 151) d_M_readsLine_135 rfl ?_
              refine MM.iconst ic_0 d_M_readsLine_151 rfl ?_
              obtain rfl := Option.some.inj hf
              subst hZ
              exact MM.zret (Or.inl rfl) rfl d_M_readsLine_152 ⟨rfl, rfl⟩
        · replace hf := m62 c61
          refine MM.aload_n (i := 0) rfl rfl d_M_readsLine_111 rfl ?_
          refine MM.iload_n (i := 2) rfl rfl d_M_readsLine_112 rfl ?_
          obtain ⟨v57, e56, hf⟩ := mm_bind hf
          refine MM.callV1 (T_M_readsTelling V l y25 h29 _ e56) (fun _ _ q => q) cal_M_readsTelling rfl tg_261 ct_9 ww_66 ww_1747 ww_1745 (by decide) (by simp [Value.category]) d_M_readsLine_113 rfl ⟨rfl, rfl⟩ rfl ?_
          obtain ⟨m59, m60⟩ := mm_ifE hf
          refine MM.if_ne (tgt := 153) d_M_readsLine_116 rfl rfl (fun c58 => ?_) (fun c58 => ?_)
          · replace hf := m60 c58
            exact MM.sub [2] (by rfl) (K32 _ hf)
          · replace hf := m59 c58
            refine MM.goto (tgt := 151) d_M_readsLine_119 rfl ?_
            refine MM.iconst ic_0 d_M_readsLine_151 rfl ?_
            obtain rfl := Option.some.inj hf
            subst hZ
            exact MM.zret (Or.inl rfl) rfl d_M_readsLine_152 ⟨rfl, rfl⟩
      · replace hf := m70 c69
        refine MM.aload_n (i := 0) rfl rfl d_M_readsLine_79 rfl ?_
        refine MM.iconst ic_5 d_M_readsLine_80 rfl ?_
        obtain ⟨v66, e65, hf⟩ := mm_bind hf
        refine MM.callV1 (T_M_fails V l 5 h _ e65) (fun _ _ q => q) cal_M_fails rfl tg_261 ct_9 ww_43 ww_1612 ww_1610 (by decide) (by simp [Value.category]) d_M_readsLine_81 rfl ⟨rfl, rfl⟩ rfl ?_
        obtain ⟨b67, e68, hf⟩ := mm_bind hf
        obtain ⟨ob67, e68⟩ := mm_boE e68
        subst e68
        obtain rfl := Option.some.inj hf
        subst hZ
        exact MM.zret ob67 rfl d_M_readsLine_84 ⟨rfl, rfl⟩
    · replace hf := m78 c76
      refine MM.aload_n (i := 0) rfl rfl d_M_readsLine_62 rfl ?_
      refine MM.iconst ic_1 d_M_readsLine_63 rfl ?_
      obtain ⟨v73, e72, hf⟩ := mm_bind hf
      refine MM.callV1 (T_M_fails V l 1 h _ e72) (fun _ _ q => q) cal_M_fails rfl tg_261 ct_9 ww_43 ww_1612 ww_1610 (by decide) (by simp [Value.category]) d_M_readsLine_64 rfl ⟨rfl, rfl⟩ rfl ?_
      obtain ⟨b74, e75, hf⟩ := mm_bind hf
      obtain ⟨ob74, e75⟩ := mm_boE e75
      subst e75
      obtain rfl := Option.some.inj hf
      subst hZ
      exact MM.zret ob74 rfl d_M_readsLine_67 ⟨rfl, rfl⟩
  clear hf
  have hf := e79
  clear e79
  obtain ⟨m21, m22⟩ := mm_ifE hf
  refine MM.if_eq (tgt := 14) d_M_readsLine_7 rfl rfl (fun c20 => ?_) (fun c20 => ?_)
  · replace hf := m21 c20
    refine MM.aload_n (i := 0) rfl rfl d_M_readsLine_14 rfl ?_
    refine MM.ldc2 ww_1633 d_M_readsLine_15 rfl ?_
    obtain ⟨v6, e5, hf⟩ := mm_bind hf
    refine MM.callV1 (T_M_isWord V l (11716 : Int64) h _ e5) (fun _ _ q => q) cal_M_isWord rfl tg_261 ct_9 ww_41 ww_1604 ww_1602 (by decide) (by simp [Value.category]) d_M_readsLine_18 rfl ⟨rfl, rfl⟩ rfl ?_
    obtain ⟨m18, m19⟩ := mm_ifE hf
    refine MM.if_eq (tgt := 28) d_M_readsLine_21 rfl rfl (fun c17 => ?_) (fun c17 => ?_)
    · replace hf := m18 c17
      refine MM.aload_n (i := 0) rfl rfl d_M_readsLine_28 rfl ?_
      refine MM.ldc2 ww_1634 d_M_readsLine_29 rfl ?_
      obtain ⟨v8, e7, hf⟩ := mm_bind hf
      refine MM.callV1 (T_M_isWord V l (361373 : Int64) h _ e7) (fun _ _ q => q) cal_M_isWord rfl tg_261 ct_9 ww_41 ww_1604 ww_1602 (by decide) (by simp [Value.category]) d_M_readsLine_32 rfl ⟨rfl, rfl⟩ rfl ?_
      obtain ⟨m15, m16⟩ := mm_ifE hf
      refine MM.if_eq (tgt := 42) d_M_readsLine_35 rfl rfl (fun c14 => ?_) (fun c14 => ?_)
      · replace hf := m15 c14
        refine MM.aload_n (i := 0) rfl rfl d_M_readsLine_42 rfl ?_
        refine MM.ldc2 ww_1635 d_M_readsLine_43 rfl ?_
        obtain ⟨v10, e9, hf⟩ := mm_bind hf
        refine MM.callV1 (T_M_isWord V l (6888375828 : Int64) h _ e9) (fun _ _ q => q) cal_M_isWord rfl tg_261 ct_9 ww_41 ww_1604 ww_1602 (by decide) (by simp [Value.category]) d_M_readsLine_46 rfl ⟨rfl, rfl⟩ rfl ?_
        obtain ⟨m12, m13⟩ := mm_ifE hf
        refine MM.if_eq (tgt := 56) d_M_readsLine_49 rfl rfl (fun c11 => ?_) (fun c11 => ?_)
        · replace hf := m12 c11
          refine MM.iconst ic_m1 d_M_readsLine_56 rfl ?_
          obtain rfl := Option.some.inj hf
          exact MM.sub [0] (by rfl) K4
        · replace hf := m13 c11
          refine MM.iconst ic_3 d_M_readsLine_52 rfl ?_
          refine MM.goto (tgt := 57) d_M_readsLine_53 rfl ?_
          obtain rfl := Option.some.inj hf
          exact MM.sub [0] (by rfl) K4
      · replace hf := m16 c14
        refine MM.iconst ic_2 d_M_readsLine_38 rfl ?_
        refine MM.goto (tgt := 57) d_M_readsLine_39 rfl ?_
        obtain rfl := Option.some.inj hf
        exact MM.sub [0] (by rfl) K4
    · replace hf := m19 c17
      refine MM.iconst ic_1 d_M_readsLine_24 rfl ?_
      refine MM.goto (tgt := 57) d_M_readsLine_25 rfl ?_
      obtain rfl := Option.some.inj hf
      exact MM.sub [0] (by rfl) K4
  · replace hf := m22 c20
    refine MM.iconst ic_0 d_M_readsLine_10 rfl ?_
    refine MM.goto (tgt := 57) d_M_readsLine_11 rfl ?_
    obtain rfl := Option.some.inj hf
    exact MM.sub [0] (by rfl) K4
theorem d_M_laysLines_0 : decode cX12_laysLines 0 = .ok (.aload_n 0, 1) := by decide +kernel
theorem d_M_laysLines_1 : decode cX12_laysLines 1 = .ok (.getfield 105, 3) := by decide +kernel
theorem d_M_laysLines_4 : decode cX12_laysLines 4 = .ok (.iload_n 2, 1) := by decide +kernel
theorem d_M_laysLines_5 : decode cX12_laysLines 5 = .ok (.aload_n 0, 1) := by decide +kernel
theorem d_M_laysLines_6 : decode cX12_laysLines 6 = .ok (.getfield 105, 3) := by decide +kernel
theorem d_M_laysLines_9 : decode cX12_laysLines 9 = .ok (.iload_n 1, 1) := by decide +kernel
theorem d_M_laysLines_10 : decode cX12_laysLines 10 = .ok (.iaload, 1) := by decide +kernel
theorem d_M_laysLines_11 : decode cX12_laysLines 11 = .ok (.iastore, 1) := by decide +kernel
theorem d_M_laysLines_12 : decode cX12_laysLines 12 = .ok (.iconst 0, 1) := by decide +kernel
theorem d_M_laysLines_13 : decode cX12_laysLines 13 = .ok (.istore_n 3, 1) := by decide +kernel
theorem d_M_laysLines_14 : decode cX12_laysLines 14 = .ok (.iload_n 3, 1) := by decide +kernel
theorem d_M_laysLines_15 : decode cX12_laysLines 15 = .ok (.bipush 30, 2) := by decide +kernel
theorem d_M_laysLines_17 : decode cX12_laysLines 17 = .ok (.if_icmp .ge 97, 3) := by decide +kernel
theorem d_M_laysLines_20 : decode cX12_laysLines 20 = .ok (.aload_n 0, 1) := by decide +kernel
theorem d_M_laysLines_21 : decode cX12_laysLines 21 = .ok (.getfield 108, 3) := by decide +kernel
theorem d_M_laysLines_24 : decode cX12_laysLines 24 = .ok (.bipush 30, 2) := by decide +kernel
theorem d_M_laysLines_26 : decode cX12_laysLines 26 = .ok (.iload_n 2, 1) := by decide +kernel
theorem d_M_laysLines_27 : decode cX12_laysLines 27 = .ok (.imul, 1) := by decide +kernel
theorem d_M_laysLines_28 : decode cX12_laysLines 28 = .ok (.iload_n 3, 1) := by decide +kernel
theorem d_M_laysLines_29 : decode cX12_laysLines 29 = .ok (.iadd, 1) := by decide +kernel
theorem d_M_laysLines_30 : decode cX12_laysLines 30 = .ok (.aload_n 0, 1) := by decide +kernel
theorem d_M_laysLines_31 : decode cX12_laysLines 31 = .ok (.getfield 108, 3) := by decide +kernel
theorem d_M_laysLines_34 : decode cX12_laysLines 34 = .ok (.bipush 30, 2) := by decide +kernel
theorem d_M_laysLines_36 : decode cX12_laysLines 36 = .ok (.iload_n 1, 1) := by decide +kernel
theorem d_M_laysLines_37 : decode cX12_laysLines 37 = .ok (.imul, 1) := by decide +kernel
theorem d_M_laysLines_38 : decode cX12_laysLines 38 = .ok (.iload_n 3, 1) := by decide +kernel
theorem d_M_laysLines_39 : decode cX12_laysLines 39 = .ok (.iadd, 1) := by decide +kernel
theorem d_M_laysLines_40 : decode cX12_laysLines 40 = .ok (.iaload, 1) := by decide +kernel
theorem d_M_laysLines_41 : decode cX12_laysLines 41 = .ok (.iastore, 1) := by decide +kernel
theorem d_M_laysLines_42 : decode cX12_laysLines 42 = .ok (.aload_n 0, 1) := by decide +kernel
theorem d_M_laysLines_43 : decode cX12_laysLines 43 = .ok (.getfield 111, 3) := by decide +kernel
theorem d_M_laysLines_46 : decode cX12_laysLines 46 = .ok (.bipush 30, 2) := by decide +kernel
theorem d_M_laysLines_48 : decode cX12_laysLines 48 = .ok (.iload_n 2, 1) := by decide +kernel
theorem d_M_laysLines_49 : decode cX12_laysLines 49 = .ok (.imul, 1) := by decide +kernel
theorem d_M_laysLines_50 : decode cX12_laysLines 50 = .ok (.iload_n 3, 1) := by decide +kernel
theorem d_M_laysLines_51 : decode cX12_laysLines 51 = .ok (.iadd, 1) := by decide +kernel
theorem d_M_laysLines_52 : decode cX12_laysLines 52 = .ok (.aload_n 0, 1) := by decide +kernel
theorem d_M_laysLines_53 : decode cX12_laysLines 53 = .ok (.getfield 111, 3) := by decide +kernel
theorem d_M_laysLines_56 : decode cX12_laysLines 56 = .ok (.bipush 30, 2) := by decide +kernel
theorem d_M_laysLines_58 : decode cX12_laysLines 58 = .ok (.iload_n 1, 1) := by decide +kernel
theorem d_M_laysLines_59 : decode cX12_laysLines 59 = .ok (.imul, 1) := by decide +kernel
theorem d_M_laysLines_60 : decode cX12_laysLines 60 = .ok (.iload_n 3, 1) := by decide +kernel
theorem d_M_laysLines_61 : decode cX12_laysLines 61 = .ok (.iadd, 1) := by decide +kernel
theorem d_M_laysLines_62 : decode cX12_laysLines 62 = .ok (.iaload, 1) := by decide +kernel
theorem d_M_laysLines_63 : decode cX12_laysLines 63 = .ok (.iastore, 1) := by decide +kernel
theorem d_M_laysLines_64 : decode cX12_laysLines 64 = .ok (.aload_n 0, 1) := by decide +kernel
theorem d_M_laysLines_65 : decode cX12_laysLines 65 = .ok (.getfield 114, 3) := by decide +kernel
theorem d_M_laysLines_68 : decode cX12_laysLines 68 = .ok (.bipush 30, 2) := by decide +kernel
theorem d_M_laysLines_70 : decode cX12_laysLines 70 = .ok (.iload_n 2, 1) := by decide +kernel
theorem d_M_laysLines_71 : decode cX12_laysLines 71 = .ok (.imul, 1) := by decide +kernel
theorem d_M_laysLines_72 : decode cX12_laysLines 72 = .ok (.iload_n 3, 1) := by decide +kernel
theorem d_M_laysLines_73 : decode cX12_laysLines 73 = .ok (.iadd, 1) := by decide +kernel
theorem d_M_laysLines_74 : decode cX12_laysLines 74 = .ok (.aload_n 0, 1) := by decide +kernel
theorem d_M_laysLines_75 : decode cX12_laysLines 75 = .ok (.getfield 114, 3) := by decide +kernel
theorem d_M_laysLines_78 : decode cX12_laysLines 78 = .ok (.bipush 30, 2) := by decide +kernel
theorem d_M_laysLines_80 : decode cX12_laysLines 80 = .ok (.iload_n 1, 1) := by decide +kernel
theorem d_M_laysLines_81 : decode cX12_laysLines 81 = .ok (.imul, 1) := by decide +kernel
theorem d_M_laysLines_82 : decode cX12_laysLines 82 = .ok (.iload_n 3, 1) := by decide +kernel
theorem d_M_laysLines_83 : decode cX12_laysLines 83 = .ok (.iadd, 1) := by decide +kernel
theorem d_M_laysLines_84 : decode cX12_laysLines 84 = .ok (.iaload, 1) := by decide +kernel
theorem d_M_laysLines_85 : decode cX12_laysLines 85 = .ok (.iastore, 1) := by decide +kernel
theorem d_M_laysLines_86 : decode cX12_laysLines 86 = .ok (.aload_n 0, 1) := by decide +kernel
theorem d_M_laysLines_87 : decode cX12_laysLines 87 = .ok (.getfield 117, 3) := by decide +kernel
theorem d_M_laysLines_90 : decode cX12_laysLines 90 = .ok (.bipush 30, 2) := by decide +kernel
theorem d_M_laysLines_92 : decode cX12_laysLines 92 = .ok (.iload_n 2, 1) := by decide +kernel
theorem d_M_laysLines_93 : decode cX12_laysLines 93 = .ok (.imul, 1) := by decide +kernel
theorem d_M_laysLines_94 : decode cX12_laysLines 94 = .ok (.iload_n 3, 1) := by decide +kernel
theorem d_M_laysLines_95 : decode cX12_laysLines 95 = .ok (.iadd, 1) := by decide +kernel
theorem d_M_laysLines_96 : decode cX12_laysLines 96 = .ok (.aload_n 0, 1) := by decide +kernel
theorem d_M_laysLines_97 : decode cX12_laysLines 97 = .ok (.getfield 117, 3) := by decide +kernel
theorem d_M_laysLines_100 : decode cX12_laysLines 100 = .ok (.bipush 30, 2) := by decide +kernel
theorem d_M_laysLines_102 : decode cX12_laysLines 102 = .ok (.iload_n 1, 1) := by decide +kernel
theorem d_M_laysLines_103 : decode cX12_laysLines 103 = .ok (.imul, 1) := by decide +kernel
theorem d_M_laysLines_104 : decode cX12_laysLines 104 = .ok (.iload_n 3, 1) := by decide +kernel
theorem d_M_laysLines_105 : decode cX12_laysLines 105 = .ok (.iadd, 1) := by decide +kernel
theorem d_M_laysLines_106 : decode cX12_laysLines 106 = .ok (.iaload, 1) := by decide +kernel
theorem d_M_laysLines_107 : decode cX12_laysLines 107 = .ok (.iastore, 1) := by decide +kernel
theorem d_M_laysLines_108 : decode cX12_laysLines 108 = .ok (.iinc 3 1, 3) := by decide +kernel
theorem d_M_laysLines_111 : decode cX12_laysLines 111 = .ok (.goto (-97), 3) := by decide +kernel
theorem d_M_laysLines_114 : decode cX12_laysLines 114 = .ok (.return_, 1) := by decide +kernel
noncomputable def f_M_laysLines (x1 : Int32) (x2 : Int32) (h : mm_H) : Option mm_H := (mm_ix x1 6).bind fun k1 => (mm_ix x2 6).bind fun k3 => mm_let (mm_pI h 293 k3 (h.1 293 k1)) fun h5 => (mm_while (σ := (Int32 × mm_H)) (ρ := mm_H) (fun s7 => if 30 ≤ s7.1 then (some (Sum.inr s7.2)) else ((mm_ix ((30 * x1) + s7.1) 180).bind fun k13 => (mm_ix ((30 * x2) + s7.1) 180).bind fun k15 => mm_let (mm_pI s7.2 294 k15 (s7.2.1 294 k13)) fun h17 => (mm_ix ((30 * x1) + s7.1) 180).bind fun k19 => (mm_ix ((30 * x2) + s7.1) 180).bind fun k21 => mm_let (mm_pI h17 295 k21 (h17.1 295 k19)) fun h23 => (mm_ix ((30 * x1) + s7.1) 180).bind fun k25 => (mm_ix ((30 * x2) + s7.1) 180).bind fun k27 => mm_let (mm_pI h23 296 k27 (h23.1 296 k25)) fun h29 => (mm_ix ((30 * x1) + s7.1) 180).bind fun k31 => (mm_ix ((30 * x2) + s7.1) 180).bind fun k33 => mm_let (mm_pI h29 297 k33 (h29.1 297 k31)) fun h35 => mm_let (s7.1 + 1) fun y37 => some (Sum.inl (y37, h35)))) (0, h5)).bind fun v10 => some v10
theorem T_M_laysLines (V : mm_V) (l : Launch) (x1 : Int32) (x2 : Int32) (h : mm_H) (r : mm_H) (hf : f_M_laysLines x1 x2 h = some r) : MT V l Y_M_laysLines 1 [.ref 261, .int x1, .int x2] (fun r1 h1 => r1 = none ∧ h1 = r) h := by
  unfold f_M_laysLines at hf
  refine MT.intro (pn_M rfl) [(0, .ref 261), (1, .int x1), (2, .int x2)] rfl (Nat.le_of_ble_eq_true rfl) ?_
  generalize hZ : mm_Z V _ = Z0
  refine MM.aload_n (i := 0) rfl rfl d_M_laysLines_0 rfl ?_
  refine MM.gR 9 32 tg_261 rq_9_42 rfl lays_9 ww_1400 d_M_laysLines_1 rfl ?_
  refine MM.iload_n (i := 2) rfl rfl d_M_laysLines_4 rfl ?_
  refine MM.aload_n (i := 0) rfl rfl d_M_laysLines_5 rfl ?_
  refine MM.gR 9 32 tg_261 rq_9_42 rfl lays_9 ww_1400 d_M_laysLines_6 rfl ?_
  refine MM.iload_n (i := 1) rfl rfl d_M_laysLines_9 rfl ?_
  obtain ⟨k1, e2, hf⟩ := mm_bind hf
  refine MM.gI e2 al_293 d_M_laysLines_10 rfl ?_
  obtain ⟨k3, e4, hf⟩ := mm_bind hf
  obtain ⟨h5, e6, hf⟩ := mm_letE hf
  refine MM.sI e4 e6 al_293 d_M_laysLines_11 rfl ?_
  refine MM.iconst ic_0 d_M_laysLines_12 rfl ?_
  refine MM.istore_n (i := 3) (lv' := [(3, .int 0), (0, .ref 261), (1, .int x1), (2, .int x2)]) rfl rfl (Nat.le_of_ble_eq_true rfl) rfl d_M_laysLines_13 rfl ?_
  obtain ⟨v10, e12, hf⟩ := mm_bind hf
  have K11 : MM V l Y_M_laysLines 1 0 0 Z0 114 [] [] v10 := by
    obtain rfl := Option.some.inj hf
    subst hZ
    exact MM.vret rfl d_M_laysLines_114 ⟨rfl, rfl⟩
  clear hf
  refine MM.sub [1, 2, 3, 0] (by rfl) (mm_while_ind (fun s7 => MM V l Y_M_laysLines 1 0 0 Z0 14 [(0, .ref 261), (1, .int x1), (2, .int x2), (3, .int s7.1)] [] s7.2) e12 (fun s7 q8 hf hx9 => ?_))
  refine MM.iload_n (i := 3) rfl rfl d_M_laysLines_14 rfl ?_
  refine MM.bipush bp_30 d_M_laysLines_15 rfl ?_
  obtain ⟨m40, m41⟩ := mm_ifE hf
  refine MM.icmp_ge (tgt := 114) d_M_laysLines_17 rfl rfl (fun c39 => ?_) (fun c39 => ?_)
  · replace hf := m40 c39
    obtain rfl := Option.some.inj hf
    obtain rfl := Option.some.inj (mm_wxR hx9)
    exact MM.sub [] (by rfl) K11
  · replace hf := m41 c39
    refine MM.aload_n (i := 0) rfl rfl d_M_laysLines_20 rfl ?_
    refine MM.gR 9 33 tg_261 rq_9_43 rfl lays_9 ww_1401 d_M_laysLines_21 rfl ?_
    refine MM.bipush bp_30 d_M_laysLines_24 rfl ?_
    refine MM.iload_n (i := 2) rfl rfl d_M_laysLines_26 rfl ?_
    refine MM.imul d_M_laysLines_27 rfl ?_
    refine MM.iload_n (i := 3) rfl rfl d_M_laysLines_28 rfl ?_
    refine MM.iadd d_M_laysLines_29 rfl ?_
    refine MM.aload_n (i := 0) rfl rfl d_M_laysLines_30 rfl ?_
    refine MM.gR 9 33 tg_261 rq_9_43 rfl lays_9 ww_1401 d_M_laysLines_31 rfl ?_
    refine MM.bipush bp_30 d_M_laysLines_34 rfl ?_
    refine MM.iload_n (i := 1) rfl rfl d_M_laysLines_36 rfl ?_
    refine MM.imul d_M_laysLines_37 rfl ?_
    refine MM.iload_n (i := 3) rfl rfl d_M_laysLines_38 rfl ?_
    refine MM.iadd d_M_laysLines_39 rfl ?_
    obtain ⟨k13, e14, hf⟩ := mm_bind hf
    refine MM.gI e14 al_294 d_M_laysLines_40 rfl ?_
    obtain ⟨k15, e16, hf⟩ := mm_bind hf
    obtain ⟨h17, e18, hf⟩ := mm_letE hf
    refine MM.sI e16 e18 al_294 d_M_laysLines_41 rfl ?_
    refine MM.aload_n (i := 0) rfl rfl d_M_laysLines_42 rfl ?_
    refine MM.gR 9 34 tg_261 rq_9_44 rfl lays_9 ww_1402 d_M_laysLines_43 rfl ?_
    refine MM.bipush bp_30 d_M_laysLines_46 rfl ?_
    refine MM.iload_n (i := 2) rfl rfl d_M_laysLines_48 rfl ?_
    refine MM.imul d_M_laysLines_49 rfl ?_
    refine MM.iload_n (i := 3) rfl rfl d_M_laysLines_50 rfl ?_
    refine MM.iadd d_M_laysLines_51 rfl ?_
    refine MM.aload_n (i := 0) rfl rfl d_M_laysLines_52 rfl ?_
    refine MM.gR 9 34 tg_261 rq_9_44 rfl lays_9 ww_1402 d_M_laysLines_53 rfl ?_
    refine MM.bipush bp_30 d_M_laysLines_56 rfl ?_
    refine MM.iload_n (i := 1) rfl rfl d_M_laysLines_58 rfl ?_
    refine MM.imul d_M_laysLines_59 rfl ?_
    refine MM.iload_n (i := 3) rfl rfl d_M_laysLines_60 rfl ?_
    refine MM.iadd d_M_laysLines_61 rfl ?_
    obtain ⟨k19, e20, hf⟩ := mm_bind hf
    refine MM.gI e20 al_295 d_M_laysLines_62 rfl ?_
    obtain ⟨k21, e22, hf⟩ := mm_bind hf
    obtain ⟨h23, e24, hf⟩ := mm_letE hf
    refine MM.sI e22 e24 al_295 d_M_laysLines_63 rfl ?_
    refine MM.aload_n (i := 0) rfl rfl d_M_laysLines_64 rfl ?_
    refine MM.gR 9 35 tg_261 rq_9_45 rfl lays_9 ww_1403 d_M_laysLines_65 rfl ?_
    refine MM.bipush bp_30 d_M_laysLines_68 rfl ?_
    refine MM.iload_n (i := 2) rfl rfl d_M_laysLines_70 rfl ?_
    refine MM.imul d_M_laysLines_71 rfl ?_
    refine MM.iload_n (i := 3) rfl rfl d_M_laysLines_72 rfl ?_
    refine MM.iadd d_M_laysLines_73 rfl ?_
    refine MM.aload_n (i := 0) rfl rfl d_M_laysLines_74 rfl ?_
    refine MM.gR 9 35 tg_261 rq_9_45 rfl lays_9 ww_1403 d_M_laysLines_75 rfl ?_
    refine MM.bipush bp_30 d_M_laysLines_78 rfl ?_
    refine MM.iload_n (i := 1) rfl rfl d_M_laysLines_80 rfl ?_
    refine MM.imul d_M_laysLines_81 rfl ?_
    refine MM.iload_n (i := 3) rfl rfl d_M_laysLines_82 rfl ?_
    refine MM.iadd d_M_laysLines_83 rfl ?_
    obtain ⟨k25, e26, hf⟩ := mm_bind hf
    refine MM.gI e26 al_296 d_M_laysLines_84 rfl ?_
    obtain ⟨k27, e28, hf⟩ := mm_bind hf
    obtain ⟨h29, e30, hf⟩ := mm_letE hf
    refine MM.sI e28 e30 al_296 d_M_laysLines_85 rfl ?_
    refine MM.aload_n (i := 0) rfl rfl d_M_laysLines_86 rfl ?_
    refine MM.gR 9 36 tg_261 rq_9_46 rfl lays_9 ww_1404 d_M_laysLines_87 rfl ?_
    refine MM.bipush bp_30 d_M_laysLines_90 rfl ?_
    refine MM.iload_n (i := 2) rfl rfl d_M_laysLines_92 rfl ?_
    refine MM.imul d_M_laysLines_93 rfl ?_
    refine MM.iload_n (i := 3) rfl rfl d_M_laysLines_94 rfl ?_
    refine MM.iadd d_M_laysLines_95 rfl ?_
    refine MM.aload_n (i := 0) rfl rfl d_M_laysLines_96 rfl ?_
    refine MM.gR 9 36 tg_261 rq_9_46 rfl lays_9 ww_1404 d_M_laysLines_97 rfl ?_
    refine MM.bipush bp_30 d_M_laysLines_100 rfl ?_
    refine MM.iload_n (i := 1) rfl rfl d_M_laysLines_102 rfl ?_
    refine MM.imul d_M_laysLines_103 rfl ?_
    refine MM.iload_n (i := 3) rfl rfl d_M_laysLines_104 rfl ?_
    refine MM.iadd d_M_laysLines_105 rfl ?_
    obtain ⟨k31, e32, hf⟩ := mm_bind hf
    refine MM.gI e32 al_297 d_M_laysLines_106 rfl ?_
    obtain ⟨k33, e34, hf⟩ := mm_bind hf
    obtain ⟨h35, e36, hf⟩ := mm_letE hf
    refine MM.sI e34 e36 al_297 d_M_laysLines_107 rfl ?_
    obtain ⟨y37, e38, hf⟩ := mm_letE hf
    refine MM.iinc (k0 := 3) (lv' := [(3, .int y37), (0, .ref 261), (1, .int x1), (2, .int x2)]) (by rw [ic_1]; exact e38) rfl (Nat.le_of_ble_eq_true rfl) rfl d_M_laysLines_108 rfl ?_
    refine MM.goto (tgt := 14) d_M_laysLines_111 rfl ?_
    obtain rfl := Option.some.inj hf
    have h9 := mm_wxL hx9
    exact MM.sub [1, 2, 3, 0] (by rfl) h9
theorem d_M_laysSeen_0 : decode cX12_laysSeen 0 = .ok (.aload_n 0, 1) := by decide +kernel
theorem d_M_laysSeen_1 : decode cX12_laysSeen 1 = .ok (.getfield 120, 3) := by decide +kernel
theorem d_M_laysSeen_4 : decode cX12_laysSeen 4 = .ok (.iload_n 2, 1) := by decide +kernel
theorem d_M_laysSeen_5 : decode cX12_laysSeen 5 = .ok (.aload_n 0, 1) := by decide +kernel
theorem d_M_laysSeen_6 : decode cX12_laysSeen 6 = .ok (.getfield 120, 3) := by decide +kernel
theorem d_M_laysSeen_9 : decode cX12_laysSeen 9 = .ok (.iload_n 1, 1) := by decide +kernel
theorem d_M_laysSeen_10 : decode cX12_laysSeen 10 = .ok (.iaload, 1) := by decide +kernel
theorem d_M_laysSeen_11 : decode cX12_laysSeen 11 = .ok (.iastore, 1) := by decide +kernel
theorem d_M_laysSeen_12 : decode cX12_laysSeen 12 = .ok (.iconst 0, 1) := by decide +kernel
theorem d_M_laysSeen_13 : decode cX12_laysSeen 13 = .ok (.istore_n 3, 1) := by decide +kernel
theorem d_M_laysSeen_14 : decode cX12_laysSeen 14 = .ok (.iload_n 3, 1) := by decide +kernel
theorem d_M_laysSeen_15 : decode cX12_laysSeen 15 = .ok (.bipush 10, 2) := by decide +kernel
theorem d_M_laysSeen_17 : decode cX12_laysSeen 17 = .ok (.if_icmp .ge 53, 3) := by decide +kernel
theorem d_M_laysSeen_20 : decode cX12_laysSeen 20 = .ok (.aload_n 0, 1) := by decide +kernel
theorem d_M_laysSeen_21 : decode cX12_laysSeen 21 = .ok (.getfield 123, 3) := by decide +kernel
theorem d_M_laysSeen_24 : decode cX12_laysSeen 24 = .ok (.bipush 10, 2) := by decide +kernel
theorem d_M_laysSeen_26 : decode cX12_laysSeen 26 = .ok (.iload_n 2, 1) := by decide +kernel
theorem d_M_laysSeen_27 : decode cX12_laysSeen 27 = .ok (.imul, 1) := by decide +kernel
theorem d_M_laysSeen_28 : decode cX12_laysSeen 28 = .ok (.iload_n 3, 1) := by decide +kernel
theorem d_M_laysSeen_29 : decode cX12_laysSeen 29 = .ok (.iadd, 1) := by decide +kernel
theorem d_M_laysSeen_30 : decode cX12_laysSeen 30 = .ok (.aload_n 0, 1) := by decide +kernel
theorem d_M_laysSeen_31 : decode cX12_laysSeen 31 = .ok (.getfield 123, 3) := by decide +kernel
theorem d_M_laysSeen_34 : decode cX12_laysSeen 34 = .ok (.bipush 10, 2) := by decide +kernel
theorem d_M_laysSeen_36 : decode cX12_laysSeen 36 = .ok (.iload_n 1, 1) := by decide +kernel
theorem d_M_laysSeen_37 : decode cX12_laysSeen 37 = .ok (.imul, 1) := by decide +kernel
theorem d_M_laysSeen_38 : decode cX12_laysSeen 38 = .ok (.iload_n 3, 1) := by decide +kernel
theorem d_M_laysSeen_39 : decode cX12_laysSeen 39 = .ok (.iadd, 1) := by decide +kernel
theorem d_M_laysSeen_40 : decode cX12_laysSeen 40 = .ok (.iaload, 1) := by decide +kernel
theorem d_M_laysSeen_41 : decode cX12_laysSeen 41 = .ok (.iastore, 1) := by decide +kernel
theorem d_M_laysSeen_42 : decode cX12_laysSeen 42 = .ok (.aload_n 0, 1) := by decide +kernel
theorem d_M_laysSeen_43 : decode cX12_laysSeen 43 = .ok (.getfield 126, 3) := by decide +kernel
theorem d_M_laysSeen_46 : decode cX12_laysSeen 46 = .ok (.bipush 10, 2) := by decide +kernel
theorem d_M_laysSeen_48 : decode cX12_laysSeen 48 = .ok (.iload_n 2, 1) := by decide +kernel
theorem d_M_laysSeen_49 : decode cX12_laysSeen 49 = .ok (.imul, 1) := by decide +kernel
theorem d_M_laysSeen_50 : decode cX12_laysSeen 50 = .ok (.iload_n 3, 1) := by decide +kernel
theorem d_M_laysSeen_51 : decode cX12_laysSeen 51 = .ok (.iadd, 1) := by decide +kernel
theorem d_M_laysSeen_52 : decode cX12_laysSeen 52 = .ok (.aload_n 0, 1) := by decide +kernel
theorem d_M_laysSeen_53 : decode cX12_laysSeen 53 = .ok (.getfield 126, 3) := by decide +kernel
theorem d_M_laysSeen_56 : decode cX12_laysSeen 56 = .ok (.bipush 10, 2) := by decide +kernel
theorem d_M_laysSeen_58 : decode cX12_laysSeen 58 = .ok (.iload_n 1, 1) := by decide +kernel
theorem d_M_laysSeen_59 : decode cX12_laysSeen 59 = .ok (.imul, 1) := by decide +kernel
theorem d_M_laysSeen_60 : decode cX12_laysSeen 60 = .ok (.iload_n 3, 1) := by decide +kernel
theorem d_M_laysSeen_61 : decode cX12_laysSeen 61 = .ok (.iadd, 1) := by decide +kernel
theorem d_M_laysSeen_62 : decode cX12_laysSeen 62 = .ok (.baload, 1) := by decide +kernel
theorem d_M_laysSeen_63 : decode cX12_laysSeen 63 = .ok (.bastore, 1) := by decide +kernel
theorem d_M_laysSeen_64 : decode cX12_laysSeen 64 = .ok (.iinc 3 1, 3) := by decide +kernel
theorem d_M_laysSeen_67 : decode cX12_laysSeen 67 = .ok (.goto (-53), 3) := by decide +kernel
theorem d_M_laysSeen_70 : decode cX12_laysSeen 70 = .ok (.return_, 1) := by decide +kernel
noncomputable def f_M_laysSeen (x1 : Int32) (x2 : Int32) (h : mm_H) : Option mm_H := (mm_ix x1 5).bind fun k1 => (mm_ix x2 5).bind fun k3 => mm_let (mm_pI h 298 k3 (h.1 298 k1)) fun h5 => (mm_while (σ := (Int32 × mm_H)) (ρ := mm_H) (fun s7 => if 10 ≤ s7.1 then (some (Sum.inr s7.2)) else ((mm_ix ((10 * x1) + s7.1) 50).bind fun k13 => (mm_ix ((10 * x2) + s7.1) 50).bind fun k15 => mm_let (mm_pI s7.2 299 k15 (s7.2.1 299 k13)) fun h17 => (mm_ix ((10 * x1) + s7.1) 50).bind fun k19 => (mm_ix ((10 * x2) + s7.1) 50).bind fun k21 => mm_let (mm_pI h17 300 k21 ((h17.1 300 k19) &&& 1)) fun h23 => mm_let (s7.1 + 1) fun y25 => some (Sum.inl (y25, h23)))) (0, h5)).bind fun v10 => some v10
theorem T_M_laysSeen (V : mm_V) (l : Launch) (x1 : Int32) (x2 : Int32) (h : mm_H) (r : mm_H) (hf : f_M_laysSeen x1 x2 h = some r) : MT V l Y_M_laysSeen 1 [.ref 261, .int x1, .int x2] (fun r1 h1 => r1 = none ∧ h1 = r) h := by
  unfold f_M_laysSeen at hf
  refine MT.intro (pn_M rfl) [(0, .ref 261), (1, .int x1), (2, .int x2)] rfl (Nat.le_of_ble_eq_true rfl) ?_
  generalize hZ : mm_Z V _ = Z0
  refine MM.aload_n (i := 0) rfl rfl d_M_laysSeen_0 rfl ?_
  refine MM.gR 9 37 tg_261 rq_9_47 rfl lays_9 ww_1405 d_M_laysSeen_1 rfl ?_
  refine MM.iload_n (i := 2) rfl rfl d_M_laysSeen_4 rfl ?_
  refine MM.aload_n (i := 0) rfl rfl d_M_laysSeen_5 rfl ?_
  refine MM.gR 9 37 tg_261 rq_9_47 rfl lays_9 ww_1405 d_M_laysSeen_6 rfl ?_
  refine MM.iload_n (i := 1) rfl rfl d_M_laysSeen_9 rfl ?_
  obtain ⟨k1, e2, hf⟩ := mm_bind hf
  refine MM.gI e2 al_298 d_M_laysSeen_10 rfl ?_
  obtain ⟨k3, e4, hf⟩ := mm_bind hf
  obtain ⟨h5, e6, hf⟩ := mm_letE hf
  refine MM.sI e4 e6 al_298 d_M_laysSeen_11 rfl ?_
  refine MM.iconst ic_0 d_M_laysSeen_12 rfl ?_
  refine MM.istore_n (i := 3) (lv' := [(3, .int 0), (0, .ref 261), (1, .int x1), (2, .int x2)]) rfl rfl (Nat.le_of_ble_eq_true rfl) rfl d_M_laysSeen_13 rfl ?_
  obtain ⟨v10, e12, hf⟩ := mm_bind hf
  have K11 : MM V l Y_M_laysSeen 1 0 0 Z0 70 [] [] v10 := by
    obtain rfl := Option.some.inj hf
    subst hZ
    exact MM.vret rfl d_M_laysSeen_70 ⟨rfl, rfl⟩
  clear hf
  refine MM.sub [1, 2, 3, 0] (by rfl) (mm_while_ind (fun s7 => MM V l Y_M_laysSeen 1 0 0 Z0 14 [(0, .ref 261), (1, .int x1), (2, .int x2), (3, .int s7.1)] [] s7.2) e12 (fun s7 q8 hf hx9 => ?_))
  refine MM.iload_n (i := 3) rfl rfl d_M_laysSeen_14 rfl ?_
  refine MM.bipush bp_10 d_M_laysSeen_15 rfl ?_
  obtain ⟨m28, m29⟩ := mm_ifE hf
  refine MM.icmp_ge (tgt := 70) d_M_laysSeen_17 rfl rfl (fun c27 => ?_) (fun c27 => ?_)
  · replace hf := m28 c27
    obtain rfl := Option.some.inj hf
    obtain rfl := Option.some.inj (mm_wxR hx9)
    exact MM.sub [] (by rfl) K11
  · replace hf := m29 c27
    refine MM.aload_n (i := 0) rfl rfl d_M_laysSeen_20 rfl ?_
    refine MM.gR 9 38 tg_261 rq_9_48 rfl lays_9 ww_1406 d_M_laysSeen_21 rfl ?_
    refine MM.bipush bp_10 d_M_laysSeen_24 rfl ?_
    refine MM.iload_n (i := 2) rfl rfl d_M_laysSeen_26 rfl ?_
    refine MM.imul d_M_laysSeen_27 rfl ?_
    refine MM.iload_n (i := 3) rfl rfl d_M_laysSeen_28 rfl ?_
    refine MM.iadd d_M_laysSeen_29 rfl ?_
    refine MM.aload_n (i := 0) rfl rfl d_M_laysSeen_30 rfl ?_
    refine MM.gR 9 38 tg_261 rq_9_48 rfl lays_9 ww_1406 d_M_laysSeen_31 rfl ?_
    refine MM.bipush bp_10 d_M_laysSeen_34 rfl ?_
    refine MM.iload_n (i := 1) rfl rfl d_M_laysSeen_36 rfl ?_
    refine MM.imul d_M_laysSeen_37 rfl ?_
    refine MM.iload_n (i := 3) rfl rfl d_M_laysSeen_38 rfl ?_
    refine MM.iadd d_M_laysSeen_39 rfl ?_
    obtain ⟨k13, e14, hf⟩ := mm_bind hf
    refine MM.gI e14 al_299 d_M_laysSeen_40 rfl ?_
    obtain ⟨k15, e16, hf⟩ := mm_bind hf
    obtain ⟨h17, e18, hf⟩ := mm_letE hf
    refine MM.sI e16 e18 al_299 d_M_laysSeen_41 rfl ?_
    refine MM.aload_n (i := 0) rfl rfl d_M_laysSeen_42 rfl ?_
    refine MM.gR 9 39 tg_261 rq_9_49 rfl lays_9 ww_1407 d_M_laysSeen_43 rfl ?_
    refine MM.bipush bp_10 d_M_laysSeen_46 rfl ?_
    refine MM.iload_n (i := 2) rfl rfl d_M_laysSeen_48 rfl ?_
    refine MM.imul d_M_laysSeen_49 rfl ?_
    refine MM.iload_n (i := 3) rfl rfl d_M_laysSeen_50 rfl ?_
    refine MM.iadd d_M_laysSeen_51 rfl ?_
    refine MM.aload_n (i := 0) rfl rfl d_M_laysSeen_52 rfl ?_
    refine MM.gR 9 39 tg_261 rq_9_49 rfl lays_9 ww_1407 d_M_laysSeen_53 rfl ?_
    refine MM.bipush bp_10 d_M_laysSeen_56 rfl ?_
    refine MM.iload_n (i := 1) rfl rfl d_M_laysSeen_58 rfl ?_
    refine MM.imul d_M_laysSeen_59 rfl ?_
    refine MM.iload_n (i := 3) rfl rfl d_M_laysSeen_60 rfl ?_
    refine MM.iadd d_M_laysSeen_61 rfl ?_
    obtain ⟨k19, e20, hf⟩ := mm_bind hf
    refine MM.gZ e20 al_300 d_M_laysSeen_62 rfl ?_
    obtain ⟨k21, e22, hf⟩ := mm_bind hf
    obtain ⟨h23, e24, hf⟩ := mm_letE hf
    refine MM.sZ e22 e24 al_300 d_M_laysSeen_63 rfl ?_
    obtain ⟨y25, e26, hf⟩ := mm_letE hf
    refine MM.iinc (k0 := 3) (lv' := [(3, .int y25), (0, .ref 261), (1, .int x1), (2, .int x2)]) (by rw [ic_1]; exact e26) rfl (Nat.le_of_ble_eq_true rfl) rfl d_M_laysSeen_64 rfl ?_
    refine MM.goto (tgt := 14) d_M_laysSeen_67 rfl ?_
    obtain rfl := Option.some.inj hf
    have h9 := mm_wxL hx9
    exact MM.sub [1, 2, 3, 0] (by rfl) h9
