/-! methods: M_fresh, M_town, M_gossip, M_isPerson, M_isSecret, M_knowersOf, M_baseOf, M_worthOf, M_knownBy, M_worthsOf, M_purse, M_net, M_person, M_secret, M_areTwo, M_aware -/
theorem d_M_fresh_0 : decode cX12_fresh 0 = .ok (.iconst 0, 1) := by decide +kernel
theorem d_M_fresh_1 : decode cX12_fresh 1 = .ok (.istore_n 1, 1) := by decide +kernel
theorem d_M_fresh_2 : decode cX12_fresh 2 = .ok (.iload_n 1, 1) := by decide +kernel
theorem d_M_fresh_3 : decode cX12_fresh 3 = .ok (.bipush 123, 2) := by decide +kernel
theorem d_M_fresh_5 : decode cX12_fresh 5 = .ok (.if_icmp .ge 16, 3) := by decide +kernel
theorem d_M_fresh_8 : decode cX12_fresh 8 = .ok (.aload_n 0, 1) := by decide +kernel
theorem d_M_fresh_9 : decode cX12_fresh 9 = .ok (.getfield 129, 3) := by decide +kernel
theorem d_M_fresh_12 : decode cX12_fresh 12 = .ok (.iload_n 1, 1) := by decide +kernel
theorem d_M_fresh_13 : decode cX12_fresh 13 = .ok (.iconst 0, 1) := by decide +kernel
theorem d_M_fresh_14 : decode cX12_fresh 14 = .ok (.iastore, 1) := by decide +kernel
theorem d_M_fresh_15 : decode cX12_fresh 15 = .ok (.iinc 1 1, 3) := by decide +kernel
theorem d_M_fresh_18 : decode cX12_fresh 18 = .ok (.goto (-16), 3) := by decide +kernel
theorem d_M_fresh_21 : decode cX12_fresh 21 = .ok (.iconst 0, 1) := by decide +kernel
theorem d_M_fresh_22 : decode cX12_fresh 22 = .ok (.istore_n 1, 1) := by decide +kernel
theorem d_M_fresh_23 : decode cX12_fresh 23 = .ok (.iload_n 1, 1) := by decide +kernel
theorem d_M_fresh_24 : decode cX12_fresh 24 = .ok (.aload_n 0, 1) := by decide +kernel
theorem d_M_fresh_25 : decode cX12_fresh 25 = .ok (.getfield 13, 3) := by decide +kernel
theorem d_M_fresh_28 : decode cX12_fresh 28 = .ok (.iconst 1, 1) := by decide +kernel
theorem d_M_fresh_29 : decode cX12_fresh 29 = .ok (.iaload, 1) := by decide +kernel
theorem d_M_fresh_30 : decode cX12_fresh 30 = .ok (.if_icmp .ge 21, 3) := by decide +kernel
theorem d_M_fresh_33 : decode cX12_fresh 33 = .ok (.aload_n 0, 1) := by decide +kernel
theorem d_M_fresh_34 : decode cX12_fresh 34 = .ok (.getfield 129, 3) := by decide +kernel
theorem d_M_fresh_37 : decode cX12_fresh 37 = .ok (.iload_n 1, 1) := by decide +kernel
theorem d_M_fresh_38 : decode cX12_fresh 38 = .ok (.aload_n 0, 1) := by decide +kernel
theorem d_M_fresh_39 : decode cX12_fresh 39 = .ok (.getfield 44, 3) := by decide +kernel
theorem d_M_fresh_42 : decode cX12_fresh 42 = .ok (.iload_n 1, 1) := by decide +kernel
theorem d_M_fresh_43 : decode cX12_fresh 43 = .ok (.iaload, 1) := by decide +kernel
theorem d_M_fresh_44 : decode cX12_fresh 44 = .ok (.iastore, 1) := by decide +kernel
theorem d_M_fresh_45 : decode cX12_fresh 45 = .ok (.iinc 1 1, 3) := by decide +kernel
theorem d_M_fresh_48 : decode cX12_fresh 48 = .ok (.goto (-25), 3) := by decide +kernel
theorem d_M_fresh_51 : decode cX12_fresh 51 = .ok (.iconst 0, 1) := by decide +kernel
theorem d_M_fresh_52 : decode cX12_fresh 52 = .ok (.istore_n 1, 1) := by decide +kernel
theorem d_M_fresh_53 : decode cX12_fresh 53 = .ok (.iload_n 1, 1) := by decide +kernel
theorem d_M_fresh_54 : decode cX12_fresh 54 = .ok (.aload_n 0, 1) := by decide +kernel
theorem d_M_fresh_55 : decode cX12_fresh 55 = .ok (.getfield 13, 3) := by decide +kernel
theorem d_M_fresh_58 : decode cX12_fresh 58 = .ok (.iconst 0, 1) := by decide +kernel
theorem d_M_fresh_59 : decode cX12_fresh 59 = .ok (.iaload, 1) := by decide +kernel
theorem d_M_fresh_60 : decode cX12_fresh 60 = .ok (.if_icmp .ge 24, 3) := by decide +kernel
theorem d_M_fresh_63 : decode cX12_fresh 63 = .ok (.aload_n 0, 1) := by decide +kernel
theorem d_M_fresh_64 : decode cX12_fresh 64 = .ok (.getfield 129, 3) := by decide +kernel
theorem d_M_fresh_67 : decode cX12_fresh 67 = .ok (.bipush 70, 2) := by decide +kernel
theorem d_M_fresh_69 : decode cX12_fresh 69 = .ok (.iload_n 1, 1) := by decide +kernel
theorem d_M_fresh_70 : decode cX12_fresh 70 = .ok (.iadd, 1) := by decide +kernel
theorem d_M_fresh_71 : decode cX12_fresh 71 = .ok (.aload_n 0, 1) := by decide +kernel
theorem d_M_fresh_72 : decode cX12_fresh 72 = .ok (.getfield 26, 3) := by decide +kernel
theorem d_M_fresh_75 : decode cX12_fresh 75 = .ok (.iload_n 1, 1) := by decide +kernel
theorem d_M_fresh_76 : decode cX12_fresh 76 = .ok (.iaload, 1) := by decide +kernel
theorem d_M_fresh_77 : decode cX12_fresh 77 = .ok (.iastore, 1) := by decide +kernel
theorem d_M_fresh_78 : decode cX12_fresh 78 = .ok (.iinc 1 1, 3) := by decide +kernel
theorem d_M_fresh_81 : decode cX12_fresh 81 = .ok (.goto (-28), 3) := by decide +kernel
theorem d_M_fresh_84 : decode cX12_fresh 84 = .ok (.return_, 1) := by decide +kernel
noncomputable def f_M_fresh (h : mm_H) : Option mm_H := (mm_while (σ := (Int32 × mm_H)) (ρ := mm_H) (fun s1 => if 123 ≤ s1.1 then (some (Sum.inr s1.2)) else ((mm_ix s1.1 123).bind fun k7 => mm_let (mm_pI s1.2 301 k7 0) fun h9 => mm_let (s1.1 + 1) fun y11 => some (Sum.inl (y11, h9)))) (0, h)).bind fun v4 => (mm_while (σ := (Int32 × mm_H)) (ρ := mm_H) (fun s16 => if (s16.2.1 263 1) ≤ s16.1 then (some (Sum.inr s16.2)) else ((mm_ix s16.1 20).bind fun k22 => (mm_ix s16.1 123).bind fun k24 => mm_let (mm_pI s16.2 301 k24 (s16.2.1 273 k22)) fun h26 => mm_let (s16.1 + 1) fun y28 => some (Sum.inl (y28, h26)))) (0, v4)).bind fun v19 => (mm_while (σ := (Int32 × mm_H)) (ρ := mm_H) (fun s33 => if (s33.2.1 263 0) ≤ s33.1 then (some (Sum.inr s33.2)) else ((mm_ix s33.1 12).bind fun k39 => (mm_ix (70 + s33.1) 123).bind fun k41 => mm_let (mm_pI s33.2 301 k41 (s33.2.1 267 k39)) fun h43 => mm_let (s33.1 + 1) fun y45 => some (Sum.inl (y45, h43)))) (0, v19)).bind fun v36 => some v36
theorem T_M_fresh (V : mm_V) (l : Launch) (h : mm_H) (r : mm_H) (hf : f_M_fresh h = some r) : MT V l Y_M_fresh 1 [.ref 261] (fun r1 h1 => r1 = none ∧ h1 = r) h := by
  unfold f_M_fresh at hf
  refine MT.intro (pn_M rfl) [(0, .ref 261)] rfl (Nat.le_of_ble_eq_true rfl) ?_
  generalize hZ : mm_Z V _ = Z0
  refine MM.iconst ic_0 d_M_fresh_0 rfl ?_
  refine MM.istore_n (i := 1) (lv' := [(1, .int 0), (0, .ref 261)]) rfl rfl (Nat.le_of_ble_eq_true rfl) rfl d_M_fresh_1 rfl ?_
  obtain ⟨v4, e6, hf⟩ := mm_bind hf
  have K5 : MM V l Y_M_fresh 1 0 0 Z0 21 [(0, .ref 261)] [] v4 := by
    refine MM.iconst ic_0 d_M_fresh_21 rfl ?_
    refine MM.istore_n (i := 1) (lv' := [(1, .int 0), (0, .ref 261)]) rfl rfl (Nat.le_of_ble_eq_true rfl) rfl d_M_fresh_22 rfl ?_
    obtain ⟨v19, e21, hf⟩ := mm_bind hf
    have K20 : MM V l Y_M_fresh 1 0 0 Z0 51 [(0, .ref 261)] [] v19 := by
      refine MM.iconst ic_0 d_M_fresh_51 rfl ?_
      refine MM.istore_n (i := 1) (lv' := [(1, .int 0), (0, .ref 261)]) rfl rfl (Nat.le_of_ble_eq_true rfl) rfl d_M_fresh_52 rfl ?_
      obtain ⟨v36, e38, hf⟩ := mm_bind hf
      have K37 : MM V l Y_M_fresh 1 0 0 Z0 84 [] [] v36 := by
        obtain rfl := Option.some.inj hf
        subst hZ
        exact MM.vret rfl d_M_fresh_84 ⟨rfl, rfl⟩
      clear hf
      refine MM.sub [1, 0] (by rfl) (mm_while_ind (fun s33 => MM V l Y_M_fresh 1 0 0 Z0 53 [(0, .ref 261), (1, .int s33.1)] [] s33.2) e38 (fun s33 q34 hf hx35 => ?_))
      refine MM.iload_n (i := 1) rfl rfl d_M_fresh_53 rfl ?_
      refine MM.aload_n (i := 0) rfl rfl d_M_fresh_54 rfl ?_
      refine MM.gR 9 2 tg_261 rq_9_10 rfl lays_9 ww_1368 d_M_fresh_55 rfl ?_
      refine MM.iconst ic_0 d_M_fresh_58 rfl ?_
      refine MM.gI ix_0_8 al_263 d_M_fresh_59 rfl ?_
      obtain ⟨m48, m49⟩ := mm_ifE hf
      refine MM.icmp_ge (tgt := 84) d_M_fresh_60 rfl rfl (fun c47 => ?_) (fun c47 => ?_)
      · replace hf := m48 c47
        obtain rfl := Option.some.inj hf
        obtain rfl := Option.some.inj (mm_wxR hx35)
        exact MM.sub [] (by rfl) K37
      · replace hf := m49 c47
        refine MM.aload_n (i := 0) rfl rfl d_M_fresh_63 rfl ?_
        refine MM.gR 9 40 tg_261 rq_9_50 rfl lays_9 ww_1408 d_M_fresh_64 rfl ?_
        refine MM.bipush bp_70 d_M_fresh_67 rfl ?_
        refine MM.iload_n (i := 1) rfl rfl d_M_fresh_69 rfl ?_
        refine MM.iadd d_M_fresh_70 rfl ?_
        refine MM.aload_n (i := 0) rfl rfl d_M_fresh_71 rfl ?_
        refine MM.gR 9 6 tg_261 rq_9_14 rfl lays_9 ww_1372 d_M_fresh_72 rfl ?_
        refine MM.iload_n (i := 1) rfl rfl d_M_fresh_75 rfl ?_
        obtain ⟨k39, e40, hf⟩ := mm_bind hf
        refine MM.gI e40 al_267 d_M_fresh_76 rfl ?_
        obtain ⟨k41, e42, hf⟩ := mm_bind hf
        obtain ⟨h43, e44, hf⟩ := mm_letE hf
        refine MM.sI e42 e44 al_301 d_M_fresh_77 rfl ?_
        obtain ⟨y45, e46, hf⟩ := mm_letE hf
        refine MM.iinc (k0 := 1) (lv' := [(1, .int y45), (0, .ref 261)]) (by rw [ic_1]; exact e46) rfl (Nat.le_of_ble_eq_true rfl) rfl d_M_fresh_78 rfl ?_
        refine MM.goto (tgt := 53) d_M_fresh_81 rfl ?_
        obtain rfl := Option.some.inj hf
        have h9 := mm_wxL hx35
        exact MM.sub [1, 0] (by rfl) h9
    clear hf
    refine MM.sub [1, 0] (by rfl) (mm_while_ind (fun s16 => MM V l Y_M_fresh 1 0 0 Z0 23 [(0, .ref 261), (1, .int s16.1)] [] s16.2) e21 (fun s16 q17 hf hx18 => ?_))
    refine MM.iload_n (i := 1) rfl rfl d_M_fresh_23 rfl ?_
    refine MM.aload_n (i := 0) rfl rfl d_M_fresh_24 rfl ?_
    refine MM.gR 9 2 tg_261 rq_9_10 rfl lays_9 ww_1368 d_M_fresh_25 rfl ?_
    refine MM.iconst ic_1 d_M_fresh_28 rfl ?_
    refine MM.gI ix_1_8 al_263 d_M_fresh_29 rfl ?_
    obtain ⟨m31, m32⟩ := mm_ifE hf
    refine MM.icmp_ge (tgt := 51) d_M_fresh_30 rfl rfl (fun c30 => ?_) (fun c30 => ?_)
    · replace hf := m31 c30
      obtain rfl := Option.some.inj hf
      obtain rfl := Option.some.inj (mm_wxR hx18)
      exact MM.sub [0] (by rfl) K20
    · replace hf := m32 c30
      refine MM.aload_n (i := 0) rfl rfl d_M_fresh_33 rfl ?_
      refine MM.gR 9 40 tg_261 rq_9_50 rfl lays_9 ww_1408 d_M_fresh_34 rfl ?_
      refine MM.iload_n (i := 1) rfl rfl d_M_fresh_37 rfl ?_
      refine MM.aload_n (i := 0) rfl rfl d_M_fresh_38 rfl ?_
      refine MM.gR 9 12 tg_261 rq_9_20 rfl lays_9 ww_1378 d_M_fresh_39 rfl ?_
      refine MM.iload_n (i := 1) rfl rfl d_M_fresh_42 rfl ?_
      obtain ⟨k22, e23, hf⟩ := mm_bind hf
      refine MM.gI e23 al_273 d_M_fresh_43 rfl ?_
      obtain ⟨k24, e25, hf⟩ := mm_bind hf
      obtain ⟨h26, e27, hf⟩ := mm_letE hf
      refine MM.sI e25 e27 al_301 d_M_fresh_44 rfl ?_
      obtain ⟨y28, e29, hf⟩ := mm_letE hf
      refine MM.iinc (k0 := 1) (lv' := [(1, .int y28), (0, .ref 261)]) (by rw [ic_1]; exact e29) rfl (Nat.le_of_ble_eq_true rfl) rfl d_M_fresh_45 rfl ?_
      refine MM.goto (tgt := 23) d_M_fresh_48 rfl ?_
      obtain rfl := Option.some.inj hf
      have h9 := mm_wxL hx18
      exact MM.sub [1, 0] (by rfl) h9
  clear hf
  refine MM.sub [1, 0] (by rfl) (mm_while_ind (fun s1 => MM V l Y_M_fresh 1 0 0 Z0 2 [(0, .ref 261), (1, .int s1.1)] [] s1.2) e6 (fun s1 q2 hf hx3 => ?_))
  refine MM.iload_n (i := 1) rfl rfl d_M_fresh_2 rfl ?_
  refine MM.bipush bp_123 d_M_fresh_3 rfl ?_
  obtain ⟨m14, m15⟩ := mm_ifE hf
  refine MM.icmp_ge (tgt := 21) d_M_fresh_5 rfl rfl (fun c13 => ?_) (fun c13 => ?_)
  · replace hf := m14 c13
    obtain rfl := Option.some.inj hf
    obtain rfl := Option.some.inj (mm_wxR hx3)
    exact MM.sub [0] (by rfl) K5
  · replace hf := m15 c13
    refine MM.aload_n (i := 0) rfl rfl d_M_fresh_8 rfl ?_
    refine MM.gR 9 40 tg_261 rq_9_50 rfl lays_9 ww_1408 d_M_fresh_9 rfl ?_
    refine MM.iload_n (i := 1) rfl rfl d_M_fresh_12 rfl ?_
    refine MM.iconst ic_0 d_M_fresh_13 rfl ?_
    obtain ⟨k7, e8, hf⟩ := mm_bind hf
    obtain ⟨h9, e10, hf⟩ := mm_letE hf
    refine MM.sI e8 e10 al_301 d_M_fresh_14 rfl ?_
    obtain ⟨y11, e12, hf⟩ := mm_letE hf
    refine MM.iinc (k0 := 1) (lv' := [(1, .int y11), (0, .ref 261)]) (by rw [ic_1]; exact e12) rfl (Nat.le_of_ble_eq_true rfl) rfl d_M_fresh_15 rfl ?_
    refine MM.goto (tgt := 2) d_M_fresh_18 rfl ?_
    obtain rfl := Option.some.inj hf
    have h9 := mm_wxL hx3
    exact MM.sub [1, 0] (by rfl) h9
theorem d_M_town_0 : decode cX12_town 0 = .ok (.aload_n 0, 1) := by decide +kernel
theorem d_M_town_1 : decode cX12_town 1 = .ok (.iconst 0, 1) := by decide +kernel
theorem d_M_town_2 : decode cX12_town 2 = .ok (.putfield 175, 3) := by decide +kernel
theorem d_M_town_5 : decode cX12_town 5 = .ok (.aload_n 0, 1) := by decide +kernel
theorem d_M_town_6 : decode cX12_town 6 = .ok (.invokevirtual 389, 3) := by decide +kernel
theorem d_M_town_9 : decode cX12_town 9 = .ok (.ifCond .ne 8, 3) := by decide +kernel
theorem d_M_town_12 : decode cX12_town 12 = .ok (.aload_n 0, 1) := by decide +kernel
theorem d_M_town_13 : decode cX12_town 13 = .ok (.getfield 211, 3) := by decide +kernel
theorem d_M_town_16 : decode cX12_town 16 = .ok (.ireturn, 1) := by decide +kernel
theorem d_M_town_17 : decode cX12_town 17 = .ok (.aload_n 0, 1) := by decide +kernel
theorem d_M_town_18 : decode cX12_town 18 = .ok (.invokevirtual 392, 3) := by decide +kernel
theorem d_M_town_21 : decode cX12_town 21 = .ok (.aload_n 0, 1) := by decide +kernel
theorem d_M_town_22 : decode cX12_town 22 = .ok (.invokevirtual 395, 3) := by decide +kernel
theorem d_M_town_25 : decode cX12_town 25 = .ok (.aload_n 0, 1) := by decide +kernel
theorem d_M_town_26 : decode cX12_town 26 = .ok (.getfield 105, 3) := by decide +kernel
theorem d_M_town_29 : decode cX12_town 29 = .ok (.iconst 0, 1) := by decide +kernel
theorem d_M_town_30 : decode cX12_town 30 = .ok (.iconst 0, 1) := by decide +kernel
theorem d_M_town_31 : decode cX12_town 31 = .ok (.iastore, 1) := by decide +kernel
theorem d_M_town_32 : decode cX12_town 32 = .ok (.aload_n 0, 1) := by decide +kernel
theorem d_M_town_33 : decode cX12_town 33 = .ok (.getfield 120, 3) := by decide +kernel
theorem d_M_town_36 : decode cX12_town 36 = .ok (.iconst 0, 1) := by decide +kernel
theorem d_M_town_37 : decode cX12_town 37 = .ok (.iconst 0, 1) := by decide +kernel
theorem d_M_town_38 : decode cX12_town 38 = .ok (.iastore, 1) := by decide +kernel
theorem d_M_town_39 : decode cX12_town 39 = .ok (.aload_n 0, 1) := by decide +kernel
theorem d_M_town_40 : decode cX12_town 40 = .ok (.iconst 0, 1) := by decide +kernel
theorem d_M_town_41 : decode cX12_town 41 = .ok (.putfield 398, 3) := by decide +kernel
theorem d_M_town_44 : decode cX12_town 44 = .ok (.iconst 0, 1) := by decide +kernel
theorem d_M_town_45 : decode cX12_town 45 = .ok (.istore_n 1, 1) := by decide +kernel
theorem d_M_town_46 : decode cX12_town 46 = .ok (.iload_n 1, 1) := by decide +kernel
theorem d_M_town_47 : decode cX12_town 47 = .ok (.iconst 4, 1) := by decide +kernel
theorem d_M_town_48 : decode cX12_town 48 = .ok (.if_icmp .ge 16, 3) := by decide +kernel
theorem d_M_town_51 : decode cX12_town 51 = .ok (.aload_n 0, 1) := by decide +kernel
theorem d_M_town_52 : decode cX12_town 52 = .ok (.getfield 141, 3) := by decide +kernel
theorem d_M_town_55 : decode cX12_town 55 = .ok (.iload_n 1, 1) := by decide +kernel
theorem d_M_town_56 : decode cX12_town 56 = .ok (.iconst 0, 1) := by decide +kernel
theorem d_M_town_57 : decode cX12_town 57 = .ok (.bastore, 1) := by decide +kernel
theorem d_M_town_58 : decode cX12_town 58 = .ok (.iinc 1 1, 3) := by decide +kernel
theorem d_M_town_61 : decode cX12_town 61 = .ok (.goto (-15), 3) := by decide +kernel
theorem d_M_town_64 : decode cX12_town 64 = .ok (.iconst 0, 1) := by decide +kernel
theorem d_M_town_65 : decode cX12_town 65 = .ok (.ireturn, 1) := by decide +kernel
noncomputable def f_M_town (h : mm_H) : Option (Int32 × mm_H) := mm_let (mm_pI h 261 0 0) fun h1 => (f_M_readsAll h1).bind fun v4 => if v4.1 = 0 then (some ((v4.2.1 261 9), v4.2)) else ((f_M_lays v4.2).bind fun v6 => (f_M_fresh v6).bind fun v8 => mm_let (mm_pI v8 293 0 0) fun h9 => mm_let (mm_pI h9 298 0 0) fun h11 => mm_let (mm_pI h11 261 55 0) fun h13 => (mm_while (σ := (Int32 × mm_H)) (ρ := mm_H) (fun s15 => if 4 ≤ s15.1 then (some (Sum.inr s15.2)) else ((mm_ix s15.1 4).bind fun k21 => mm_let (mm_pI s15.2 305 k21 ((0 : Int32) &&& 1)) fun h23 => mm_let (s15.1 + 1) fun y25 => some (Sum.inl (y25, h23)))) (0, h13)).bind fun v18 => some (0, v18))
theorem T_M_town (V : mm_V) (l : Launch) (h : mm_H) (r : (Int32 × mm_H)) (hf : f_M_town h = some r) : MT V l Y_M_town 7 [.ref 261] (fun r1 h1 => r1 = some (.int r.1) ∧ h1 = r.2) h := by
  unfold f_M_town at hf
  refine MT.intro (pn_M rfl) [(0, .ref 261)] rfl (Nat.le_of_ble_eq_true rfl) ?_
  generalize hZ : mm_Z V _ = Z0
  refine MM.aload_n (i := 0) rfl rfl d_M_town_0 rfl ?_
  refine MM.iconst ic_0 d_M_town_1 rfl ?_
  obtain ⟨h1, e2, hf⟩ := mm_letE hf
  refine MM.putI e2 9 tg_261 lays_9 toks_9 pq_9_0 ww_1358 d_M_town_2 rfl ?_
  refine MM.aload_n (i := 0) rfl rfl d_M_town_5 rfl ?_
  obtain ⟨v4, e3, hf⟩ := mm_bind hf
  refine MM.callV1 (T_M_readsAll V l  h1 _ e3) (fun _ _ q => q) cal_M_readsAll rfl tg_261 ct_9 ww_37 ww_1585 ww_1583 (by decide) (by simp [Value.category]) d_M_town_6 rfl ⟨rfl, rfl⟩ rfl ?_
  obtain ⟨m31, m32⟩ := mm_ifE hf
  refine MM.if_ne (tgt := 17) d_M_town_9 rfl rfl (fun c30 => ?_) (fun c30 => ?_)
  · replace hf := m32 c30
    refine MM.aload_n (i := 0) rfl rfl d_M_town_17 rfl ?_
    obtain ⟨v6, e5, hf⟩ := mm_bind hf
    refine MM.callV0 (T_M_lays V l  v4.2 _ e5) (fun _ _ q => q) cal_M_lays rfl tg_261 ct_9 ww_63 ww_1725 ww_1723 (by decide) (by simp [Value.category]) d_M_town_18 rfl ⟨rfl, rfl⟩ rfl ?_
    refine MM.aload_n (i := 0) rfl rfl d_M_town_21 rfl ?_
    obtain ⟨v8, e7, hf⟩ := mm_bind hf
    refine MM.callV0 (T_M_fresh V l  v6 _ e7) (fun _ _ q => q) cal_M_fresh rfl tg_261 ct_9 ww_64 ww_1735 ww_1733 (by decide) (by simp [Value.category]) d_M_town_22 rfl ⟨rfl, rfl⟩ rfl ?_
    refine MM.aload_n (i := 0) rfl rfl d_M_town_25 rfl ?_
    refine MM.gR 9 32 tg_261 rq_9_42 rfl lays_9 ww_1400 d_M_town_26 rfl ?_
    refine MM.iconst ic_0 d_M_town_29 rfl ?_
    refine MM.iconst ic_0 d_M_town_30 rfl ?_
    obtain ⟨h9, e10, hf⟩ := mm_letE hf
    refine MM.sI ix_0_6 e10 al_293 d_M_town_31 rfl ?_
    refine MM.aload_n (i := 0) rfl rfl d_M_town_32 rfl ?_
    refine MM.gR 9 37 tg_261 rq_9_47 rfl lays_9 ww_1405 d_M_town_33 rfl ?_
    refine MM.iconst ic_0 d_M_town_36 rfl ?_
    refine MM.iconst ic_0 d_M_town_37 rfl ?_
    obtain ⟨h11, e12, hf⟩ := mm_letE hf
    refine MM.sI ix_0_5 e12 al_298 d_M_town_38 rfl ?_
    refine MM.aload_n (i := 0) rfl rfl d_M_town_39 rfl ?_
    refine MM.iconst ic_0 d_M_town_40 rfl ?_
    obtain ⟨h13, e14, hf⟩ := mm_letE hf
    refine MM.putI e14 9 tg_261 lays_9 toks_9 pq_9_55 ww_1413 d_M_town_41 rfl ?_
    refine MM.iconst ic_0 d_M_town_44 rfl ?_
    refine MM.istore_n (i := 1) (lv' := [(1, .int 0), (0, .ref 261)]) rfl rfl (Nat.le_of_ble_eq_true rfl) rfl d_M_town_45 rfl ?_
    obtain ⟨v18, e20, hf⟩ := mm_bind hf
    have K19 : MM V l Y_M_town 7 0 0 Z0 64 [] [] v18 := by
      refine MM.iconst ic_0 d_M_town_64 rfl ?_
      obtain rfl := Option.some.inj hf
      subst hZ
      exact MM.iret rfl d_M_town_65 ⟨rfl, rfl⟩
    clear hf
    refine MM.sub [1, 0] (by rfl) (mm_while_ind (fun s15 => MM V l Y_M_town 7 0 0 Z0 46 [(0, .ref 261), (1, .int s15.1)] [] s15.2) e20 (fun s15 q16 hf hx17 => ?_))
    refine MM.iload_n (i := 1) rfl rfl d_M_town_46 rfl ?_
    refine MM.iconst ic_4 d_M_town_47 rfl ?_
    obtain ⟨m28, m29⟩ := mm_ifE hf
    refine MM.icmp_ge (tgt := 64) d_M_town_48 rfl rfl (fun c27 => ?_) (fun c27 => ?_)
    · replace hf := m28 c27
      obtain rfl := Option.some.inj hf
      obtain rfl := Option.some.inj (mm_wxR hx17)
      exact MM.sub [] (by rfl) K19
    · replace hf := m29 c27
      refine MM.aload_n (i := 0) rfl rfl d_M_town_51 rfl ?_
      refine MM.gR 9 44 tg_261 rq_9_54 rfl lays_9 ww_1412 d_M_town_52 rfl ?_
      refine MM.iload_n (i := 1) rfl rfl d_M_town_55 rfl ?_
      refine MM.iconst ic_0 d_M_town_56 rfl ?_
      obtain ⟨k21, e22, hf⟩ := mm_bind hf
      obtain ⟨h23, e24, hf⟩ := mm_letE hf
      refine MM.sZ e22 e24 al_305 d_M_town_57 rfl ?_
      obtain ⟨y25, e26, hf⟩ := mm_letE hf
      refine MM.iinc (k0 := 1) (lv' := [(1, .int y25), (0, .ref 261)]) (by rw [ic_1]; exact e26) rfl (Nat.le_of_ble_eq_true rfl) rfl d_M_town_58 rfl ?_
      refine MM.goto (tgt := 46) d_M_town_61 rfl ?_
      obtain rfl := Option.some.inj hf
      have h9 := mm_wxL hx17
      exact MM.sub [1, 0] (by rfl) h9
  · replace hf := m31 c30
    refine MM.aload_n (i := 0) rfl rfl d_M_town_12 rfl ?_
    refine MM.getI 9 tg_261 lays_9 gq_9_9 ww_1367 d_M_town_13 rfl ?_
    obtain rfl := Option.some.inj hf
    subst hZ
    exact MM.iret rfl d_M_town_16 ⟨rfl, rfl⟩
theorem d_M_gossip_0 : decode cX12_gossip 0 = .ok (.aload_n 0, 1) := by decide +kernel
theorem d_M_gossip_1 : decode cX12_gossip 1 = .ok (.iconst 0, 1) := by decide +kernel
theorem d_M_gossip_2 : decode cX12_gossip 2 = .ok (.putfield 175, 3) := by decide +kernel
theorem d_M_gossip_5 : decode cX12_gossip 5 = .ok (.aload_n 0, 1) := by decide +kernel
theorem d_M_gossip_6 : decode cX12_gossip 6 = .ok (.getfield 105, 3) := by decide +kernel
theorem d_M_gossip_9 : decode cX12_gossip 9 = .ok (.iconst 5, 1) := by decide +kernel
theorem d_M_gossip_10 : decode cX12_gossip 10 = .ok (.iconst 0, 1) := by decide +kernel
theorem d_M_gossip_11 : decode cX12_gossip 11 = .ok (.iastore, 1) := by decide +kernel
theorem d_M_gossip_12 : decode cX12_gossip 12 = .ok (.aload_n 0, 1) := by decide +kernel
theorem d_M_gossip_13 : decode cX12_gossip 13 = .ok (.invokevirtual 354, 3) := by decide +kernel
theorem d_M_gossip_16 : decode cX12_gossip 16 = .ok (.aload_n 0, 1) := by decide +kernel
theorem d_M_gossip_17 : decode cX12_gossip 17 = .ok (.getfield 200, 3) := by decide +kernel
theorem d_M_gossip_20 : decode cX12_gossip 20 = .ok (.ifCond .eq 15, 3) := by decide +kernel
theorem d_M_gossip_23 : decode cX12_gossip 23 = .ok (.aload_n 0, 1) := by decide +kernel
theorem d_M_gossip_24 : decode cX12_gossip 24 = .ok (.invokevirtual 401, 3) := by decide +kernel
theorem d_M_gossip_27 : decode cX12_gossip 27 = .ok (.ifCond .ne (-11), 3) := by decide +kernel
theorem d_M_gossip_30 : decode cX12_gossip 30 = .ok (.aload_n 0, 1) := by decide +kernel
theorem d_M_gossip_31 : decode cX12_gossip 31 = .ok (.getfield 211, 3) := by decide +kernel
theorem d_M_gossip_34 : decode cX12_gossip 34 = .ok (.ireturn, 1) := by decide +kernel
theorem d_M_gossip_35 : decode cX12_gossip 35 = .ok (.aload_n 0, 1) := by decide +kernel
theorem d_M_gossip_36 : decode cX12_gossip 36 = .ok (.iconst 5, 1) := by decide +kernel
theorem d_M_gossip_37 : decode cX12_gossip 37 = .ok (.iconst 0, 1) := by decide +kernel
theorem d_M_gossip_38 : decode cX12_gossip 38 = .ok (.invokevirtual 404, 3) := by decide +kernel
theorem d_M_gossip_41 : decode cX12_gossip 41 = .ok (.iconst 0, 1) := by decide +kernel
theorem d_M_gossip_42 : decode cX12_gossip 42 = .ok (.ireturn, 1) := by decide +kernel
noncomputable def f_M_gossip (h : mm_H) : Option (Int32 × mm_H) := mm_let (mm_pI h 261 0 0) fun h1 => mm_let (mm_pI h1 293 5 0) fun h3 => (f_M_starts h3).bind fun v6 => mm_while (σ := mm_H) (ρ := (Int32 × mm_H)) (fun s7 => if (s7.1 261 6) = 0 then ((f_M_laysLines 5 0 s7).bind fun v11 => some (Sum.inr (0, v11))) else ((f_M_readsLine s7).bind fun v13 => if v13.1 = 0 then (some (Sum.inr ((v13.2.1 261 9), v13.2))) else (some (Sum.inl v13.2)))) v6
theorem T_M_gossip (V : mm_V) (l : Launch) (h : mm_H) (r : (Int32 × mm_H)) (hf : f_M_gossip h = some r) : MT V l Y_M_gossip 6 [.ref 261] (fun r1 h1 => r1 = some (.int r.1) ∧ h1 = r.2) h := by
  unfold f_M_gossip at hf
  refine MT.intro (pn_M rfl) [(0, .ref 261)] rfl (Nat.le_of_ble_eq_true rfl) ?_
  generalize hZ : mm_Z V _ = Z0
  refine MM.aload_n (i := 0) rfl rfl d_M_gossip_0 rfl ?_
  refine MM.iconst ic_0 d_M_gossip_1 rfl ?_
  obtain ⟨h1, e2, hf⟩ := mm_letE hf
  refine MM.putI e2 9 tg_261 lays_9 toks_9 pq_9_0 ww_1358 d_M_gossip_2 rfl ?_
  refine MM.aload_n (i := 0) rfl rfl d_M_gossip_5 rfl ?_
  refine MM.gR 9 32 tg_261 rq_9_42 rfl lays_9 ww_1400 d_M_gossip_6 rfl ?_
  refine MM.iconst ic_5 d_M_gossip_9 rfl ?_
  refine MM.iconst ic_0 d_M_gossip_10 rfl ?_
  obtain ⟨h3, e4, hf⟩ := mm_letE hf
  refine MM.sI ix_5_6 e4 al_293 d_M_gossip_11 rfl ?_
  refine MM.aload_n (i := 0) rfl rfl d_M_gossip_12 rfl ?_
  obtain ⟨v6, e5, hf⟩ := mm_bind hf
  refine MM.callV0 (T_M_starts V l  h3 _ e5) (fun _ _ q => q) cal_M_starts rfl tg_261 ct_9 ww_38 ww_1589 ww_1587 (by decide) (by simp [Value.category]) d_M_gossip_13 rfl ⟨rfl, rfl⟩ rfl ?_
  refine MM.sub [0] (by rfl) (mm_while_ind (fun s7 => MM V l Y_M_gossip 6 0 0 Z0 16 [(0, .ref 261)] [] s7) hf (fun s7 q8 hf hx9 => ?_))
  refine MM.aload_n (i := 0) rfl rfl d_M_gossip_16 rfl ?_
  refine MM.getI 9 tg_261 lays_9 gq_9_6 ww_1364 d_M_gossip_17 rfl ?_
  obtain ⟨m18, m19⟩ := mm_ifE hf
  refine MM.if_eq (tgt := 35) d_M_gossip_20 rfl rfl (fun c17 => ?_) (fun c17 => ?_)
  · replace hf := m18 c17
    refine MM.aload_n (i := 0) rfl rfl d_M_gossip_35 rfl ?_
    refine MM.iconst ic_5 d_M_gossip_36 rfl ?_
    refine MM.iconst ic_0 d_M_gossip_37 rfl ?_
    obtain ⟨v11, e10, hf⟩ := mm_bind hf
    refine MM.callV0 (T_M_laysLines V l 5 0 s7 _ e10) (fun _ _ q => q) cal_M_laysLines rfl tg_261 ct_9 ww_69 ww_1759 ww_1757 (by decide) (by simp [Value.category]) d_M_gossip_38 rfl ⟨rfl, rfl⟩ rfl ?_
    refine MM.iconst ic_0 d_M_gossip_41 rfl ?_
    obtain rfl := Option.some.inj hf
    replace hf := mm_wxR hx9
    obtain rfl := Option.some.inj hf
    subst hZ
    exact MM.iret rfl d_M_gossip_42 ⟨rfl, rfl⟩
  · replace hf := m19 c17
    refine MM.aload_n (i := 0) rfl rfl d_M_gossip_23 rfl ?_
    obtain ⟨v13, e12, hf⟩ := mm_bind hf
    refine MM.callV1 (T_M_readsLine V l  s7 _ e12) (fun _ _ q => q) cal_M_readsLine rfl tg_261 ct_9 ww_65 ww_1743 ww_1741 (by decide) (by simp [Value.category]) d_M_gossip_24 rfl ⟨rfl, rfl⟩ rfl ?_
    obtain ⟨m15, m16⟩ := mm_ifE hf
    refine MM.if_ne (tgt := 16) d_M_gossip_27 rfl rfl (fun c14 => ?_) (fun c14 => ?_)
    · replace hf := m16 c14
      obtain rfl := Option.some.inj hf
      have h9 := mm_wxL hx9
      exact MM.sub [0] (by rfl) h9
    · replace hf := m15 c14
      refine MM.aload_n (i := 0) rfl rfl d_M_gossip_30 rfl ?_
      refine MM.getI 9 tg_261 lays_9 gq_9_9 ww_1367 d_M_gossip_31 rfl ?_
      obtain rfl := Option.some.inj hf
      replace hf := mm_wxR hx9
      obtain rfl := Option.some.inj hf
      subst hZ
      exact MM.iret rfl d_M_gossip_34 ⟨rfl, rfl⟩
theorem d_M_isPerson_0 : decode cX12_isPerson 0 = .ok (.iload_n 1, 1) := by decide +kernel
theorem d_M_isPerson_1 : decode cX12_isPerson 1 = .ok (.ifCond .lt 17, 3) := by decide +kernel
theorem d_M_isPerson_4 : decode cX12_isPerson 4 = .ok (.iload_n 1, 1) := by decide +kernel
theorem d_M_isPerson_5 : decode cX12_isPerson 5 = .ok (.aload_n 0, 1) := by decide +kernel
theorem d_M_isPerson_6 : decode cX12_isPerson 6 = .ok (.getfield 13, 3) := by decide +kernel
theorem d_M_isPerson_9 : decode cX12_isPerson 9 = .ok (.iconst 0, 1) := by decide +kernel
theorem d_M_isPerson_10 : decode cX12_isPerson 10 = .ok (.iaload, 1) := by decide +kernel
theorem d_M_isPerson_11 : decode cX12_isPerson 11 = .ok (.if_icmp .ge 7, 3) := by decide +kernel
theorem d_M_isPerson_14 : decode cX12_isPerson 14 = .ok (.iconst 1, 1) := by decide +kernel
theorem d_M_isPerson_15 : decode cX12_isPerson 15 = .ok (.goto 4, 3) := by decide +kernel
theorem d_M_isPerson_18 : decode cX12_isPerson 18 = .ok (.iconst 0, 1) := by decide +kernel
theorem d_M_isPerson_19 : decode cX12_isPerson 19 = .ok (.ireturn, 1) := by decide +kernel
noncomputable def f_M_isPerson (x1 : Int32) (h : mm_H) : Option Int32 := if x1 < 0 then (some 0) else (if (h.1 263 0) ≤ x1 then (some 0) else (some 1))
theorem T_M_isPerson (V : mm_V) (l : Launch) (x1 : Int32) (h : mm_H) (r : Int32) (hf : f_M_isPerson x1 h = some r) : MT V l Y_M_isPerson 1 [.ref 261, .int x1] (fun r1 h1 => r1 = some (.int r) ∧ h1 = h) h := by
  unfold f_M_isPerson at hf
  refine MT.intro (pn_M rfl) [(0, .ref 261), (1, .int x1)] rfl (Nat.le_of_ble_eq_true rfl) ?_
  generalize hZ : mm_Z V _ = Z0
  refine MM.iload_n (i := 1) rfl rfl d_M_isPerson_0 rfl ?_
  obtain ⟨m5, m6⟩ := mm_ifE hf
  refine MM.if_lt (tgt := 18) d_M_isPerson_1 rfl rfl (fun c4 => ?_) (fun c4 => ?_)
  · replace hf := m5 c4
    refine MM.iconst ic_0 d_M_isPerson_18 rfl ?_
    obtain rfl := Option.some.inj hf
    subst hZ
    exact MM.zret (Or.inl rfl) rfl d_M_isPerson_19 ⟨rfl, rfl⟩
  · replace hf := m6 c4
    refine MM.iload_n (i := 1) rfl rfl d_M_isPerson_4 rfl ?_
    refine MM.aload_n (i := 0) rfl rfl d_M_isPerson_5 rfl ?_
    refine MM.gR 9 2 tg_261 rq_9_10 rfl lays_9 ww_1368 d_M_isPerson_6 rfl ?_
    refine MM.iconst ic_0 d_M_isPerson_9 rfl ?_
    refine MM.gI ix_0_8 al_263 d_M_isPerson_10 rfl ?_
    obtain ⟨m2, m3⟩ := mm_ifE hf
    refine MM.icmp_ge (tgt := 18) d_M_isPerson_11 rfl rfl (fun c1 => ?_) (fun c1 => ?_)
    · replace hf := m2 c1
      refine MM.iconst ic_0 d_M_isPerson_18 rfl ?_
      obtain rfl := Option.some.inj hf
      subst hZ
      exact MM.zret (Or.inl rfl) rfl d_M_isPerson_19 ⟨rfl, rfl⟩
    · replace hf := m3 c1
      refine MM.iconst ic_1 d_M_isPerson_14 rfl ?_
      refine MM.goto (tgt := 19) d_M_isPerson_15 rfl ?_
      obtain rfl := Option.some.inj hf
      subst hZ
      exact MM.zret (Or.inr rfl) rfl d_M_isPerson_19 ⟨rfl, rfl⟩
theorem d_M_isSecret_0 : decode cX12_isSecret 0 = .ok (.iload_n 1, 1) := by decide +kernel
theorem d_M_isSecret_1 : decode cX12_isSecret 1 = .ok (.ifCond .lt 17, 3) := by decide +kernel
theorem d_M_isSecret_4 : decode cX12_isSecret 4 = .ok (.iload_n 1, 1) := by decide +kernel
theorem d_M_isSecret_5 : decode cX12_isSecret 5 = .ok (.aload_n 0, 1) := by decide +kernel
theorem d_M_isSecret_6 : decode cX12_isSecret 6 = .ok (.getfield 13, 3) := by decide +kernel
theorem d_M_isSecret_9 : decode cX12_isSecret 9 = .ok (.iconst 1, 1) := by decide +kernel
theorem d_M_isSecret_10 : decode cX12_isSecret 10 = .ok (.iaload, 1) := by decide +kernel
theorem d_M_isSecret_11 : decode cX12_isSecret 11 = .ok (.if_icmp .ge 7, 3) := by decide +kernel
theorem d_M_isSecret_14 : decode cX12_isSecret 14 = .ok (.iconst 1, 1) := by decide +kernel
theorem d_M_isSecret_15 : decode cX12_isSecret 15 = .ok (.goto 4, 3) := by decide +kernel
theorem d_M_isSecret_18 : decode cX12_isSecret 18 = .ok (.iconst 0, 1) := by decide +kernel
theorem d_M_isSecret_19 : decode cX12_isSecret 19 = .ok (.ireturn, 1) := by decide +kernel
noncomputable def f_M_isSecret (x1 : Int32) (h : mm_H) : Option Int32 := if x1 < 0 then (some 0) else (if (h.1 263 1) ≤ x1 then (some 0) else (some 1))
theorem T_M_isSecret (V : mm_V) (l : Launch) (x1 : Int32) (h : mm_H) (r : Int32) (hf : f_M_isSecret x1 h = some r) : MT V l Y_M_isSecret 1 [.ref 261, .int x1] (fun r1 h1 => r1 = some (.int r) ∧ h1 = h) h := by
  unfold f_M_isSecret at hf
  refine MT.intro (pn_M rfl) [(0, .ref 261), (1, .int x1)] rfl (Nat.le_of_ble_eq_true rfl) ?_
  generalize hZ : mm_Z V _ = Z0
  refine MM.iload_n (i := 1) rfl rfl d_M_isSecret_0 rfl ?_
  obtain ⟨m5, m6⟩ := mm_ifE hf
  refine MM.if_lt (tgt := 18) d_M_isSecret_1 rfl rfl (fun c4 => ?_) (fun c4 => ?_)
  · replace hf := m5 c4
    refine MM.iconst ic_0 d_M_isSecret_18 rfl ?_
    obtain rfl := Option.some.inj hf
    subst hZ
    exact MM.zret (Or.inl rfl) rfl d_M_isSecret_19 ⟨rfl, rfl⟩
  · replace hf := m6 c4
    refine MM.iload_n (i := 1) rfl rfl d_M_isSecret_4 rfl ?_
    refine MM.aload_n (i := 0) rfl rfl d_M_isSecret_5 rfl ?_
    refine MM.gR 9 2 tg_261 rq_9_10 rfl lays_9 ww_1368 d_M_isSecret_6 rfl ?_
    refine MM.iconst ic_1 d_M_isSecret_9 rfl ?_
    refine MM.gI ix_1_8 al_263 d_M_isSecret_10 rfl ?_
    obtain ⟨m2, m3⟩ := mm_ifE hf
    refine MM.icmp_ge (tgt := 18) d_M_isSecret_11 rfl rfl (fun c1 => ?_) (fun c1 => ?_)
    · replace hf := m2 c1
      refine MM.iconst ic_0 d_M_isSecret_18 rfl ?_
      obtain rfl := Option.some.inj hf
      subst hZ
      exact MM.zret (Or.inl rfl) rfl d_M_isSecret_19 ⟨rfl, rfl⟩
    · replace hf := m3 c1
      refine MM.iconst ic_1 d_M_isSecret_14 rfl ?_
      refine MM.goto (tgt := 19) d_M_isSecret_15 rfl ?_
      obtain rfl := Option.some.inj hf
      subst hZ
      exact MM.zret (Or.inr rfl) rfl d_M_isSecret_19 ⟨rfl, rfl⟩
theorem d_M_knowersOf_0 : decode cX12_knowersOf 0 = .ok (.iconst 0, 1) := by decide +kernel
theorem d_M_knowersOf_1 : decode cX12_knowersOf 1 = .ok (.istore_n 2, 1) := by decide +kernel
theorem d_M_knowersOf_2 : decode cX12_knowersOf 2 = .ok (.iconst 0, 1) := by decide +kernel
theorem d_M_knowersOf_3 : decode cX12_knowersOf 3 = .ok (.istore_n 3, 1) := by decide +kernel
theorem d_M_knowersOf_4 : decode cX12_knowersOf 4 = .ok (.iload_n 3, 1) := by decide +kernel
theorem d_M_knowersOf_5 : decode cX12_knowersOf 5 = .ok (.aload_n 0, 1) := by decide +kernel
theorem d_M_knowersOf_6 : decode cX12_knowersOf 6 = .ok (.getfield 13, 3) := by decide +kernel
theorem d_M_knowersOf_9 : decode cX12_knowersOf 9 = .ok (.iconst 0, 1) := by decide +kernel
theorem d_M_knowersOf_10 : decode cX12_knowersOf 10 = .ok (.iaload, 1) := by decide +kernel
theorem d_M_knowersOf_11 : decode cX12_knowersOf 11 = .ok (.if_icmp .ge 36, 3) := by decide +kernel
theorem d_M_knowersOf_14 : decode cX12_knowersOf 14 = .ok (.iload_n 2, 1) := by decide +kernel
theorem d_M_knowersOf_15 : decode cX12_knowersOf 15 = .ok (.iload_n 1, 1) := by decide +kernel
theorem d_M_knowersOf_16 : decode cX12_knowersOf 16 = .ok (.iload_n 3, 1) := by decide +kernel
theorem d_M_knowersOf_17 : decode cX12_knowersOf 17 = .ok (.ishr, 1) := by decide +kernel
theorem d_M_knowersOf_18 : decode cX12_knowersOf 18 = .ok (.iconst 1, 1) := by decide +kernel
theorem d_M_knowersOf_19 : decode cX12_knowersOf 19 = .ok (.iand, 1) := by decide +kernel
theorem d_M_knowersOf_20 : decode cX12_knowersOf 20 = .ok (.iconst 1, 1) := by decide +kernel
theorem d_M_knowersOf_21 : decode cX12_knowersOf 21 = .ok (.if_icmp .ne 17, 3) := by decide +kernel
theorem d_M_knowersOf_24 : decode cX12_knowersOf 24 = .ok (.aload_n 0, 1) := by decide +kernel
theorem d_M_knowersOf_25 : decode cX12_knowersOf 25 = .ok (.getfield 23, 3) := by decide +kernel
theorem d_M_knowersOf_28 : decode cX12_knowersOf 28 = .ok (.iload_n 3, 1) := by decide +kernel
theorem d_M_knowersOf_29 : decode cX12_knowersOf 29 = .ok (.iaload, 1) := by decide +kernel
theorem d_M_knowersOf_30 : decode cX12_knowersOf 30 = .ok (.iconst 3, 1) := by decide +kernel
theorem d_M_knowersOf_31 : decode cX12_knowersOf 31 = .ok (.if_icmp .eq 7, 3) := by decide +kernel
theorem d_M_knowersOf_34 : decode cX12_knowersOf 34 = .ok (.iconst 1, 1) := by decide +kernel
theorem d_M_knowersOf_35 : decode cX12_knowersOf 35 = .ok (.goto 4, 3) := by decide +kernel
theorem d_M_knowersOf_38 : decode cX12_knowersOf 38 = .ok (.iconst 0, 1) := by decide +kernel
theorem d_M_knowersOf_39 : decode cX12_knowersOf 39 = .ok (.iadd, 1) := by decide +kernel
theorem d_M_knowersOf_40 : decode cX12_knowersOf 40 = .ok (.istore_n 2, 1) := by decide +kernel
theorem d_M_knowersOf_41 : decode cX12_knowersOf 41 = .ok (.iinc 3 1, 3) := by decide +kernel
theorem d_M_knowersOf_44 : decode cX12_knowersOf 44 = .ok (.goto (-40), 3) := by decide +kernel
theorem d_M_knowersOf_47 : decode cX12_knowersOf 47 = .ok (.iload_n 2, 1) := by decide +kernel
theorem d_M_knowersOf_48 : decode cX12_knowersOf 48 = .ok (.ireturn, 1) := by decide +kernel
noncomputable def f_M_knowersOf (x1 : Int32) (h : mm_H) : Option Int32 := (mm_while (σ := (Int32 × Int32)) (ρ := Int32) (fun s1 => if (h.1 263 0) ≤ s1.2 then (some (Sum.inr s1.1)) else ((if ((x1 >>> (s1.2 &&& 31)) &&& 1) = 1 then ((mm_ix s1.2 12).bind fun k9 => if (h.1 266 k9) = 3 then (some 0) else (some 1)) else (some 0) : Option Int32).bind fun j7 => mm_let (s1.1 + j7) fun y17 => mm_let (s1.2 + 1) fun y19 => some (Sum.inl (y17, y19)))) (0, 0)).bind fun v4 => some v4
theorem T_M_knowersOf (V : mm_V) (l : Launch) (x1 : Int32) (h : mm_H) (r : Int32) (hf : f_M_knowersOf x1 h = some r) : MT V l Y_M_knowersOf 1 [.ref 261, .int x1] (fun r1 h1 => r1 = some (.int r) ∧ h1 = h) h := by
  unfold f_M_knowersOf at hf
  refine MT.intro (pn_M rfl) [(0, .ref 261), (1, .int x1)] rfl (Nat.le_of_ble_eq_true rfl) ?_
  generalize hZ : mm_Z V _ = Z0
  refine MM.iconst ic_0 d_M_knowersOf_0 rfl ?_
  refine MM.istore_n (i := 2) (lv' := [(2, .int 0), (0, .ref 261), (1, .int x1)]) rfl rfl (Nat.le_of_ble_eq_true rfl) rfl d_M_knowersOf_1 rfl ?_
  refine MM.iconst ic_0 d_M_knowersOf_2 rfl ?_
  refine MM.istore_n (i := 3) (lv' := [(3, .int 0), (2, .int 0), (0, .ref 261), (1, .int x1)]) rfl rfl (Nat.le_of_ble_eq_true rfl) rfl d_M_knowersOf_3 rfl ?_
  obtain ⟨v4, e6, hf⟩ := mm_bind hf
  have K5 : MM V l Y_M_knowersOf 1 0 0 Z0 47 [(2, .int v4)] [] h := by
    refine MM.iload_n (i := 2) rfl rfl d_M_knowersOf_47 rfl ?_
    obtain rfl := Option.some.inj hf
    subst hZ
    exact MM.iret rfl d_M_knowersOf_48 ⟨rfl, rfl⟩
  clear hf
  refine MM.sub [2, 3, 1, 0] (by rfl) (mm_while_ind (fun s1 => MM V l Y_M_knowersOf 1 0 0 Z0 4 [(0, .ref 261), (1, .int x1), (2, .int s1.1), (3, .int s1.2)] [] h) e6 (fun s1 q2 hf hx3 => ?_))
  refine MM.iload_n (i := 3) rfl rfl d_M_knowersOf_4 rfl ?_
  refine MM.aload_n (i := 0) rfl rfl d_M_knowersOf_5 rfl ?_
  refine MM.gR 9 2 tg_261 rq_9_10 rfl lays_9 ww_1368 d_M_knowersOf_6 rfl ?_
  refine MM.iconst ic_0 d_M_knowersOf_9 rfl ?_
  refine MM.gI ix_0_8 al_263 d_M_knowersOf_10 rfl ?_
  obtain ⟨m23, m24⟩ := mm_ifE hf
  refine MM.icmp_ge (tgt := 47) d_M_knowersOf_11 rfl rfl (fun c22 => ?_) (fun c22 => ?_)
  · replace hf := m23 c22
    obtain rfl := Option.some.inj hf
    obtain rfl := Option.some.inj (mm_wxR hx3)
    exact MM.sub [2] (by rfl) K5
  · replace hf := m24 c22
    refine MM.iload_n (i := 2) rfl rfl d_M_knowersOf_14 rfl ?_
    refine MM.iload_n (i := 1) rfl rfl d_M_knowersOf_15 rfl ?_
    refine MM.iload_n (i := 3) rfl rfl d_M_knowersOf_16 rfl ?_
    refine MM.ishr d_M_knowersOf_17 rfl ?_
    refine MM.iconst ic_1 d_M_knowersOf_18 rfl ?_
    refine MM.iand d_M_knowersOf_19 rfl ?_
    refine MM.iconst ic_1 d_M_knowersOf_20 rfl ?_
    obtain ⟨j7, e21, hf⟩ := mm_bind hf
    have K8 : MM V l Y_M_knowersOf 1 0 0 Z0 39 [(0, .ref 261), (1, .int x1), (3, .int s1.2)] [.int j7, .int s1.1] h := by
      refine MM.iadd d_M_knowersOf_39 rfl ?_
      obtain ⟨y17, e18, hf⟩ := mm_letE hf
      refine MM.istore_n (i := 2) (lv' := [(2, .int y17), (0, .ref 261), (1, .int x1), (3, .int s1.2)]) e18 rfl (Nat.le_of_ble_eq_true rfl) rfl d_M_knowersOf_40 rfl ?_
      obtain ⟨y19, e20, hf⟩ := mm_letE hf
      refine MM.iinc (k0 := 3) (lv' := [(3, .int y19), (2, .int y17), (0, .ref 261), (1, .int x1)]) (by rw [ic_1]; exact e20) rfl (Nat.le_of_ble_eq_true rfl) rfl d_M_knowersOf_41 rfl ?_
      refine MM.goto (tgt := 4) d_M_knowersOf_44 rfl ?_
      obtain rfl := Option.some.inj hf
      have h9 := mm_wxL hx3
      exact MM.sub [2, 3, 1, 0] (by rfl) h9
    clear hf
    have hf := e21
    clear e21
    obtain ⟨m15, m16⟩ := mm_ifE hf
    refine MM.icmp_ne (tgt := 38) d_M_knowersOf_21 rfl rfl (fun c14 => ?_) (fun c14 => ?_)
    · replace hf := m16 c14
      refine MM.iconst ic_0 d_M_knowersOf_38 rfl ?_
      obtain rfl := Option.some.inj hf
      exact MM.sub [0, 1, 3] (by rfl) K8
    · replace hf := m15 c14
      refine MM.aload_n (i := 0) rfl rfl d_M_knowersOf_24 rfl ?_
      refine MM.gR 9 5 tg_261 rq_9_13 rfl lays_9 ww_1371 d_M_knowersOf_25 rfl ?_
      refine MM.iload_n (i := 3) rfl rfl d_M_knowersOf_28 rfl ?_
      obtain ⟨k9, e10, hf⟩ := mm_bind hf
      refine MM.gI e10 al_266 d_M_knowersOf_29 rfl ?_
      refine MM.iconst ic_3 d_M_knowersOf_30 rfl ?_
      obtain ⟨m12, m13⟩ := mm_ifE hf
      refine MM.icmp_eq (tgt := 38) d_M_knowersOf_31 rfl rfl (fun c11 => ?_) (fun c11 => ?_)
      · replace hf := m12 c11
        refine MM.iconst ic_0 d_M_knowersOf_38 rfl ?_
        obtain rfl := Option.some.inj hf
        exact MM.sub [0, 1, 3] (by rfl) K8
      · replace hf := m13 c11
        refine MM.iconst ic_1 d_M_knowersOf_34 rfl ?_
        refine MM.goto (tgt := 39) d_M_knowersOf_35 rfl ?_
        obtain rfl := Option.some.inj hf
        exact MM.sub [0, 1, 3] (by rfl) K8
theorem d_M_baseOf_0 : decode cX12_baseOf 0 = .ok (.aload_n 0, 1) := by decide +kernel
theorem d_M_baseOf_1 : decode cX12_baseOf 1 = .ok (.iload_n 2, 1) := by decide +kernel
theorem d_M_baseOf_2 : decode cX12_baseOf 2 = .ok (.invokevirtual 408, 3) := by decide +kernel
theorem d_M_baseOf_5 : decode cX12_baseOf 5 = .ok (.istore_n 3, 1) := by decide +kernel
theorem d_M_baseOf_6 : decode cX12_baseOf 6 = .ok (.aload_n 0, 1) := by decide +kernel
theorem d_M_baseOf_7 : decode cX12_baseOf 7 = .ok (.getfield 62, 3) := by decide +kernel
theorem d_M_baseOf_10 : decode cX12_baseOf 10 = .ok (.iconst 0, 1) := by decide +kernel
theorem d_M_baseOf_11 : decode cX12_baseOf 11 = .ok (.iaload, 1) := by decide +kernel
theorem d_M_baseOf_12 : decode cX12_baseOf 12 = .ok (.aload_n 0, 1) := by decide +kernel
theorem d_M_baseOf_13 : decode cX12_baseOf 13 = .ok (.getfield 59, 3) := by decide +kernel
theorem d_M_baseOf_16 : decode cX12_baseOf 16 = .ok (.iconst 0, 1) := by decide +kernel
theorem d_M_baseOf_17 : decode cX12_baseOf 17 = .ok (.iaload, 1) := by decide +kernel
theorem d_M_baseOf_18 : decode cX12_baseOf 18 = .ok (.if_icmp .ne 25, 3) := by decide +kernel
theorem d_M_baseOf_21 : decode cX12_baseOf 21 = .ok (.iload_n 3, 1) := by decide +kernel
theorem d_M_baseOf_22 : decode cX12_baseOf 22 = .ok (.iconst 4, 1) := by decide +kernel
theorem d_M_baseOf_23 : decode cX12_baseOf 23 = .ok (.if_icmp .le 7, 3) := by decide +kernel
theorem d_M_baseOf_26 : decode cX12_baseOf 26 = .ok (.iconst 0, 1) := by decide +kernel
theorem d_M_baseOf_27 : decode cX12_baseOf 27 = .ok (.goto 15, 3) := by decide +kernel
theorem d_M_baseOf_30 : decode cX12_baseOf 30 = .ok (.aload_n 0, 1) := by decide +kernel
theorem d_M_baseOf_31 : decode cX12_baseOf 31 = .ok (.getfield 38, 3) := by decide +kernel
theorem d_M_baseOf_34 : decode cX12_baseOf 34 = .ok (.iload_n 1, 1) := by decide +kernel
theorem d_M_baseOf_35 : decode cX12_baseOf 35 = .ok (.iaload, 1) := by decide +kernel
theorem d_M_baseOf_36 : decode cX12_baseOf 36 = .ok (.iconst 1, 1) := by decide +kernel
theorem d_M_baseOf_37 : decode cX12_baseOf 37 = .ok (.iload_n 3, 1) := by decide +kernel
theorem d_M_baseOf_38 : decode cX12_baseOf 38 = .ok (.invokestatic 411, 3) := by decide +kernel
theorem d_M_baseOf_41 : decode cX12_baseOf 41 = .ok (.idiv, 1) := by decide +kernel
theorem d_M_baseOf_42 : decode cX12_baseOf 42 = .ok (.ireturn, 1) := by decide +kernel
theorem d_M_baseOf_43 : decode cX12_baseOf 43 = .ok (.aload_n 0, 1) := by decide +kernel
theorem d_M_baseOf_44 : decode cX12_baseOf 44 = .ok (.getfield 102, 3) := by decide +kernel
theorem d_M_baseOf_47 : decode cX12_baseOf 47 = .ok (.iconst 1, 1) := by decide +kernel
theorem d_M_baseOf_48 : decode cX12_baseOf 48 = .ok (.aload_n 0, 1) := by decide +kernel
theorem d_M_baseOf_49 : decode cX12_baseOf 49 = .ok (.getfield 38, 3) := by decide +kernel
theorem d_M_baseOf_52 : decode cX12_baseOf 52 = .ok (.iload_n 1, 1) := by decide +kernel
theorem d_M_baseOf_53 : decode cX12_baseOf 53 = .ok (.iaload, 1) := by decide +kernel
theorem d_M_baseOf_54 : decode cX12_baseOf 54 = .ok (.iastore, 1) := by decide +kernel
theorem d_M_baseOf_55 : decode cX12_baseOf 55 = .ok (.aload_n 0, 1) := by decide +kernel
theorem d_M_baseOf_56 : decode cX12_baseOf 56 = .ok (.getfield 102, 3) := by decide +kernel
theorem d_M_baseOf_59 : decode cX12_baseOf 59 = .ok (.iconst 2, 1) := by decide +kernel
theorem d_M_baseOf_60 : decode cX12_baseOf 60 = .ok (.iload_n 3, 1) := by decide +kernel
theorem d_M_baseOf_61 : decode cX12_baseOf 61 = .ok (.iastore, 1) := by decide +kernel
theorem d_M_baseOf_62 : decode cX12_baseOf 62 = .ok (.aload_n 0, 1) := by decide +kernel
theorem d_M_baseOf_63 : decode cX12_baseOf 63 = .ok (.getfield 102, 3) := by decide +kernel
theorem d_M_baseOf_66 : decode cX12_baseOf 66 = .ok (.iconst 3, 1) := by decide +kernel
theorem d_M_baseOf_67 : decode cX12_baseOf 67 = .ok (.aload_n 0, 1) := by decide +kernel
theorem d_M_baseOf_68 : decode cX12_baseOf 68 = .ok (.getfield 129, 3) := by decide +kernel
theorem d_M_baseOf_71 : decode cX12_baseOf 71 = .ok (.bipush 85, 2) := by decide +kernel
theorem d_M_baseOf_73 : decode cX12_baseOf 73 = .ok (.iaload, 1) := by decide +kernel
theorem d_M_baseOf_74 : decode cX12_baseOf 74 = .ok (.iastore, 1) := by decide +kernel
theorem d_M_baseOf_75 : decode cX12_baseOf 75 = .ok (.aload_n 0, 1) := by decide +kernel
theorem d_M_baseOf_76 : decode cX12_baseOf 76 = .ok (.getfield 102, 3) := by decide +kernel
theorem d_M_baseOf_79 : decode cX12_baseOf 79 = .ok (.iconst 4, 1) := by decide +kernel
theorem d_M_baseOf_80 : decode cX12_baseOf 80 = .ok (.aload_n 0, 1) := by decide +kernel
theorem d_M_baseOf_81 : decode cX12_baseOf 81 = .ok (.getfield 129, 3) := by decide +kernel
theorem d_M_baseOf_84 : decode cX12_baseOf 84 = .ok (.bipush 70, 2) := by decide +kernel
theorem d_M_baseOf_86 : decode cX12_baseOf 86 = .ok (.aload_n 0, 1) := by decide +kernel
theorem d_M_baseOf_87 : decode cX12_baseOf 87 = .ok (.getfield 35, 3) := by decide +kernel
theorem d_M_baseOf_90 : decode cX12_baseOf 90 = .ok (.iload_n 1, 1) := by decide +kernel
theorem d_M_baseOf_91 : decode cX12_baseOf 91 = .ok (.iaload, 1) := by decide +kernel
theorem d_M_baseOf_92 : decode cX12_baseOf 92 = .ok (.iadd, 1) := by decide +kernel
theorem d_M_baseOf_93 : decode cX12_baseOf 93 = .ok (.iaload, 1) := by decide +kernel
theorem d_M_baseOf_94 : decode cX12_baseOf 94 = .ok (.iastore, 1) := by decide +kernel
theorem d_M_baseOf_95 : decode cX12_baseOf 95 = .ok (.aload_n 0, 1) := by decide +kernel
theorem d_M_baseOf_96 : decode cX12_baseOf 96 = .ok (.iconst 0, 1) := by decide +kernel
theorem d_M_baseOf_97 : decode cX12_baseOf 97 = .ok (.invokevirtual 417, 3) := by decide +kernel
theorem d_M_baseOf_100 : decode cX12_baseOf 100 = .ok (.iconst 0, 1) := by decide +kernel
theorem d_M_baseOf_101 : decode cX12_baseOf 101 = .ok (.sipush 999, 3) := by decide +kernel
theorem d_M_baseOf_104 : decode cX12_baseOf 104 = .ok (.invokestatic 420, 3) := by decide +kernel
theorem d_M_baseOf_107 : decode cX12_baseOf 107 = .ok (.ireturn, 1) := by decide +kernel
noncomputable def f_M_baseOf (x1 : Int32) (x2 : Int32) (h : mm_H) : Option (Int32 × mm_H) := (f_M_knowersOf x2 h).bind fun v2 => if (h.1 279 0) = (h.1 278 0) then (if v2 ≤ 4 then ((mm_ix x1 20).bind fun k21 => (f_JM_max 1 v2).bind fun v24 => (mm_nzI v24).bind fun _ => some (((h.1 271 k21) / v24), h)) else (some (0, h))) else ((mm_ix x1 20).bind fun k3 => mm_let (mm_pI h 292 1 (h.1 271 k3)) fun h5 => mm_let (mm_pI h5 292 2 v2) fun h7 => mm_let (mm_pI h7 292 3 (h7.1 301 85)) fun h9 => (mm_ix x1 20).bind fun k11 => (mm_ix (70 + (h9.1 270 k11)) 123).bind fun k13 => mm_let (mm_pI h9 292 4 (h9.1 301 k13)) fun h15 => (f_M_worked 0 h15).bind fun v18 => (f_M_between v18.1 0 999).bind fun v20 => some (v20, v18.2))
theorem T_M_baseOf (V : mm_V) (l : Launch) (x1 : Int32) (x2 : Int32) (h : mm_H) (r : (Int32 × mm_H)) (hf : f_M_baseOf x1 x2 h = some r) : MT V l Y_M_baseOf 4 [.ref 261, .int x1, .int x2] (fun r1 h1 => r1 = some (.int r.1) ∧ h1 = r.2) h := by
  unfold f_M_baseOf at hf
  refine MT.intro (pn_M rfl) [(0, .ref 261), (1, .int x1), (2, .int x2)] rfl (Nat.le_of_ble_eq_true rfl) ?_
  generalize hZ : mm_Z V _ = Z0
  refine MM.aload_n (i := 0) rfl rfl d_M_baseOf_0 rfl ?_
  refine MM.iload_n (i := 2) rfl rfl d_M_baseOf_1 rfl ?_
  obtain ⟨v2, e1, hf⟩ := mm_bind hf
  refine MM.callV1 (T_M_knowersOf V l x2 h _ e1) (fun _ _ q => q) cal_M_knowersOf rfl tg_261 ct_9 ww_76 ww_1791 ww_1789 (by decide) (by simp [Value.category]) d_M_baseOf_2 rfl ⟨rfl, rfl⟩ rfl ?_
  refine MM.istore_n (i := 3) (lv' := [(3, .int v2), (0, .ref 261), (1, .int x1), (2, .int x2)]) rfl rfl (Nat.le_of_ble_eq_true rfl) rfl d_M_baseOf_5 rfl ?_
  refine MM.aload_n (i := 0) rfl rfl d_M_baseOf_6 rfl ?_
  refine MM.gR 9 18 tg_261 rq_9_26 rfl lays_9 ww_1384 d_M_baseOf_7 rfl ?_
  refine MM.iconst ic_0 d_M_baseOf_10 rfl ?_
  refine MM.gI ix_0_2 al_279 d_M_baseOf_11 rfl ?_
  refine MM.aload_n (i := 0) rfl rfl d_M_baseOf_12 rfl ?_
  refine MM.gR 9 17 tg_261 rq_9_25 rfl lays_9 ww_1383 d_M_baseOf_13 rfl ?_
  refine MM.iconst ic_0 d_M_baseOf_16 rfl ?_
  refine MM.gI ix_0_2 al_278 d_M_baseOf_17 rfl ?_
  obtain ⟨m31, m32⟩ := mm_ifE hf
  refine MM.icmp_ne (tgt := 43) d_M_baseOf_18 rfl rfl (fun c30 => ?_) (fun c30 => ?_)
  · replace hf := m32 c30
    refine MM.aload_n (i := 0) rfl rfl d_M_baseOf_43 rfl ?_
    refine MM.gR 9 31 tg_261 rq_9_40 rfl lays_9 ww_1398 d_M_baseOf_44 rfl ?_
    refine MM.iconst ic_1 d_M_baseOf_47 rfl ?_
    refine MM.aload_n (i := 0) rfl rfl d_M_baseOf_48 rfl ?_
    refine MM.gR 9 10 tg_261 rq_9_18 rfl lays_9 ww_1376 d_M_baseOf_49 rfl ?_
    refine MM.iload_n (i := 1) rfl rfl d_M_baseOf_52 rfl ?_
    obtain ⟨k3, e4, hf⟩ := mm_bind hf
    refine MM.gI e4 al_271 d_M_baseOf_53 rfl ?_
    obtain ⟨h5, e6, hf⟩ := mm_letE hf
    refine MM.sI ix_1_20 e6 al_292 d_M_baseOf_54 rfl ?_
    refine MM.aload_n (i := 0) rfl rfl d_M_baseOf_55 rfl ?_
    refine MM.gR 9 31 tg_261 rq_9_40 rfl lays_9 ww_1398 d_M_baseOf_56 rfl ?_
    refine MM.iconst ic_2 d_M_baseOf_59 rfl ?_
    refine MM.iload_n (i := 3) rfl rfl d_M_baseOf_60 rfl ?_
    obtain ⟨h7, e8, hf⟩ := mm_letE hf
    refine MM.sI ix_2_20 e8 al_292 d_M_baseOf_61 rfl ?_
    refine MM.aload_n (i := 0) rfl rfl d_M_baseOf_62 rfl ?_
    refine MM.gR 9 31 tg_261 rq_9_40 rfl lays_9 ww_1398 d_M_baseOf_63 rfl ?_
    refine MM.iconst ic_3 d_M_baseOf_66 rfl ?_
    refine MM.aload_n (i := 0) rfl rfl d_M_baseOf_67 rfl ?_
    refine MM.gR 9 40 tg_261 rq_9_50 rfl lays_9 ww_1408 d_M_baseOf_68 rfl ?_
    refine MM.bipush bp_85 d_M_baseOf_71 rfl ?_
    refine MM.gI ix_85_123 al_301 d_M_baseOf_73 rfl ?_
    obtain ⟨h9, e10, hf⟩ := mm_letE hf
    refine MM.sI ix_3_20 e10 al_292 d_M_baseOf_74 rfl ?_
    refine MM.aload_n (i := 0) rfl rfl d_M_baseOf_75 rfl ?_
    refine MM.gR 9 31 tg_261 rq_9_40 rfl lays_9 ww_1398 d_M_baseOf_76 rfl ?_
    refine MM.iconst ic_4 d_M_baseOf_79 rfl ?_
    refine MM.aload_n (i := 0) rfl rfl d_M_baseOf_80 rfl ?_
    refine MM.gR 9 40 tg_261 rq_9_50 rfl lays_9 ww_1408 d_M_baseOf_81 rfl ?_
    refine MM.bipush bp_70 d_M_baseOf_84 rfl ?_
    refine MM.aload_n (i := 0) rfl rfl d_M_baseOf_86 rfl ?_
    refine MM.gR 9 9 tg_261 rq_9_17 rfl lays_9 ww_1375 d_M_baseOf_87 rfl ?_
    refine MM.iload_n (i := 1) rfl rfl d_M_baseOf_90 rfl ?_
    obtain ⟨k11, e12, hf⟩ := mm_bind hf
    refine MM.gI e12 al_270 d_M_baseOf_91 rfl ?_
    refine MM.iadd d_M_baseOf_92 rfl ?_
    obtain ⟨k13, e14, hf⟩ := mm_bind hf
    refine MM.gI e14 al_301 d_M_baseOf_93 rfl ?_
    obtain ⟨h15, e16, hf⟩ := mm_letE hf
    refine MM.sI ix_4_20 e16 al_292 d_M_baseOf_94 rfl ?_
    refine MM.aload_n (i := 0) rfl rfl d_M_baseOf_95 rfl ?_
    refine MM.iconst ic_0 d_M_baseOf_96 rfl ?_
    obtain ⟨v18, e17, hf⟩ := mm_bind hf
    refine MM.callV1 (T_M_worked V l 0 h15 _ e17) (fun _ _ q => q) cal_M_worked rfl tg_261 ct_9 ww_77 ww_1796 ww_1794 (by decide) (by simp [Value.category]) d_M_baseOf_97 rfl ⟨rfl, rfl⟩ rfl ?_
    refine MM.iconst ic_0 d_M_baseOf_100 rfl ?_
    refine MM.sipush sp_999 d_M_baseOf_101 rfl ?_
    obtain ⟨v20, e19, hf⟩ := mm_bind hf
    refine MM.callS1 (T_M_between V l v18.1 0 999 v18.2 _ e19) (fun _ _ q => q) cal_M_between rfl ww_1811 ww_1810 (by decide) (by simp [Value.category]) d_M_baseOf_104 rfl ⟨rfl, rfl⟩ rfl ?_
    obtain rfl := Option.some.inj hf
    subst hZ
    exact MM.iret rfl d_M_baseOf_107 ⟨rfl, rfl⟩
  · replace hf := m31 c30
    refine MM.iload_n (i := 3) rfl rfl d_M_baseOf_21 rfl ?_
    refine MM.iconst ic_4 d_M_baseOf_22 rfl ?_
    obtain ⟨m28, m29⟩ := mm_ifE hf
    refine MM.icmp_le (tgt := 30) d_M_baseOf_23 rfl rfl (fun c27 => ?_) (fun c27 => ?_)
    · replace hf := m28 c27
      refine MM.aload_n (i := 0) rfl rfl d_M_baseOf_30 rfl ?_
      refine MM.gR 9 10 tg_261 rq_9_18 rfl lays_9 ww_1376 d_M_baseOf_31 rfl ?_
      refine MM.iload_n (i := 1) rfl rfl d_M_baseOf_34 rfl ?_
      obtain ⟨k21, e22, hf⟩ := mm_bind hf
      refine MM.gI e22 al_271 d_M_baseOf_35 rfl ?_
      refine MM.iconst ic_1 d_M_baseOf_36 rfl ?_
      refine MM.iload_n (i := 3) rfl rfl d_M_baseOf_37 rfl ?_
      obtain ⟨v24, e23, hf⟩ := mm_bind hf
      refine MM.callS1 (T_JM_max V l 1 v2 h _ e23) (fun _ _ q => q) cal_JM_max rfl ww_604 ww_1793 (by decide) (by simp [Value.category]) d_M_baseOf_38 rfl ⟨rfl, rfl⟩ rfl ?_
      obtain ⟨u25, e26, hf⟩ := mm_bind hf
      refine MM.idiv (mm_nzIE e26) d_M_baseOf_41 rfl ?_
      obtain rfl := Option.some.inj hf
      subst hZ
      exact MM.iret rfl d_M_baseOf_42 ⟨rfl, rfl⟩
    · replace hf := m29 c27
      refine MM.iconst ic_0 d_M_baseOf_26 rfl ?_
      refine MM.goto (tgt := 42) d_M_baseOf_27 rfl ?_
      obtain rfl := Option.some.inj hf
      subst hZ
      exact MM.iret rfl d_M_baseOf_42 ⟨rfl, rfl⟩
theorem d_M_worthOf_0 : decode cX12_worthOf 0 = .ok (.aload_n 0, 1) := by decide +kernel
theorem d_M_worthOf_1 : decode cX12_worthOf 1 = .ok (.getfield 129, 3) := by decide +kernel
theorem d_M_worthOf_4 : decode cX12_worthOf 4 = .ok (.bipush 76, 2) := by decide +kernel
theorem d_M_worthOf_6 : decode cX12_worthOf 6 = .ok (.iaload, 1) := by decide +kernel
theorem d_M_worthOf_7 : decode cX12_worthOf 7 = .ok (.iload_n 1, 1) := by decide +kernel
theorem d_M_worthOf_8 : decode cX12_worthOf 8 = .ok (.ishr, 1) := by decide +kernel
theorem d_M_worthOf_9 : decode cX12_worthOf 9 = .ok (.iconst 1, 1) := by decide +kernel
theorem d_M_worthOf_10 : decode cX12_worthOf 10 = .ok (.iand, 1) := by decide +kernel
theorem d_M_worthOf_11 : decode cX12_worthOf 11 = .ok (.iconst 1, 1) := by decide +kernel
theorem d_M_worthOf_12 : decode cX12_worthOf 12 = .ok (.if_icmp .ne 5, 3) := by decide +kernel
theorem d_M_worthOf_15 : decode cX12_worthOf 15 = .ok (.iconst 0, 1) := by decide +kernel
theorem d_M_worthOf_16 : decode cX12_worthOf 16 = .ok (.ireturn, 1) := by decide +kernel
theorem d_M_worthOf_17 : decode cX12_worthOf 17 = .ok (.aload_n 0, 1) := by decide +kernel
theorem d_M_worthOf_18 : decode cX12_worthOf 18 = .ok (.iload_n 1, 1) := by decide +kernel
theorem d_M_worthOf_19 : decode cX12_worthOf 19 = .ok (.aload_n 0, 1) := by decide +kernel
theorem d_M_worthOf_20 : decode cX12_worthOf 20 = .ok (.getfield 129, 3) := by decide +kernel
theorem d_M_worthOf_23 : decode cX12_worthOf 23 = .ok (.iload_n 1, 1) := by decide +kernel
theorem d_M_worthOf_24 : decode cX12_worthOf 24 = .ok (.iaload, 1) := by decide +kernel
theorem d_M_worthOf_25 : decode cX12_worthOf 25 = .ok (.invokevirtual 424, 3) := by decide +kernel
theorem d_M_worthOf_28 : decode cX12_worthOf 28 = .ok (.aload_n 0, 1) := by decide +kernel
theorem d_M_worthOf_29 : decode cX12_worthOf 29 = .ok (.getfield 41, 3) := by decide +kernel
theorem d_M_worthOf_32 : decode cX12_worthOf 32 = .ok (.iload_n 1, 1) := by decide +kernel
theorem d_M_worthOf_33 : decode cX12_worthOf 33 = .ok (.iaload, 1) := by decide +kernel
theorem d_M_worthOf_34 : decode cX12_worthOf 34 = .ok (.ifCond .ge 7, 3) := by decide +kernel
theorem d_M_worthOf_37 : decode cX12_worthOf 37 = .ok (.iconst 0, 1) := by decide +kernel
theorem d_M_worthOf_38 : decode cX12_worthOf 38 = .ok (.goto 13, 3) := by decide +kernel
theorem d_M_worthOf_41 : decode cX12_worthOf 41 = .ok (.aload_n 0, 1) := by decide +kernel
theorem d_M_worthOf_42 : decode cX12_worthOf 42 = .ok (.aload_n 0, 1) := by decide +kernel
theorem d_M_worthOf_43 : decode cX12_worthOf 43 = .ok (.getfield 41, 3) := by decide +kernel
theorem d_M_worthOf_46 : decode cX12_worthOf 46 = .ok (.iload_n 1, 1) := by decide +kernel
theorem d_M_worthOf_47 : decode cX12_worthOf 47 = .ok (.iaload, 1) := by decide +kernel
theorem d_M_worthOf_48 : decode cX12_worthOf 48 = .ok (.invokevirtual 427, 3) := by decide +kernel
theorem d_M_worthOf_51 : decode cX12_worthOf 51 = .ok (.iadd, 1) := by decide +kernel
theorem d_M_worthOf_52 : decode cX12_worthOf 52 = .ok (.ireturn, 1) := by decide +kernel
noncomputable def f_M_worthOf_b (rp : Int32 → mm_H → Option (Int32 × mm_H)) (x1 : Int32) (h : mm_H) : Option (Int32 × mm_H) := if (((h.1 301 76) >>> (x1 &&& 31)) &&& 1) = 1 then (some (0, h)) else ((mm_ix x1 123).bind fun k1 => (f_M_baseOf x1 (h.1 301 k1) h).bind fun v4 => (mm_ix x1 20).bind fun k5 => (if 0 ≤ (v4.2.1 272 k5) then ((mm_ix x1 20).bind fun k9 => (rp (v4.2.1 272 k9) v4.2).bind fun v12 => some (v12.1, v12.2)) else (some (0, v4.2)) : Option (Int32 × mm_H)).bind fun j7 => some ((v4.1 + j7.1), j7.2))
theorem T_M_worthOf_b (V : mm_V) (l : Launch) (rp : Int32 → mm_H → Option (Int32 × mm_H)) (D : Nat) (hD : 5 ≤ D) (hrp : ∀ (x1 : Int32) (h : mm_H) (r : (Int32 × mm_H)), rp x1 h = some r → MT V l Y_M_worthOf D [.ref 261, .int x1] (fun r1 h1 => r1 = some (.int r.1) ∧ h1 = r.2) h) (x1 : Int32) (h : mm_H) (r : (Int32 × mm_H)) (hf : f_M_worthOf_b rp x1 h = some r) : MT V l Y_M_worthOf (D + 1) [.ref 261, .int x1] (fun r1 h1 => r1 = some (.int r.1) ∧ h1 = r.2) h := by
  unfold f_M_worthOf_b at hf
  refine MT.intro (pn_M rfl) [(0, .ref 261), (1, .int x1)] rfl (Nat.le_of_ble_eq_true rfl) ?_
  generalize hZ : mm_Z V _ = Z0
  refine MM.aload_n (i := 0) rfl rfl d_M_worthOf_0 rfl ?_
  refine MM.gR 9 40 tg_261 rq_9_50 rfl lays_9 ww_1408 d_M_worthOf_1 rfl ?_
  refine MM.bipush bp_76 d_M_worthOf_4 rfl ?_
  refine MM.gI ix_76_123 al_301 d_M_worthOf_6 rfl ?_
  refine MM.iload_n (i := 1) rfl rfl d_M_worthOf_7 rfl ?_
  refine MM.ishr d_M_worthOf_8 rfl ?_
  refine MM.iconst ic_1 d_M_worthOf_9 rfl ?_
  refine MM.iand d_M_worthOf_10 rfl ?_
  refine MM.iconst ic_1 d_M_worthOf_11 rfl ?_
  obtain ⟨m18, m19⟩ := mm_ifE hf
  refine MM.icmp_ne (tgt := 17) d_M_worthOf_12 rfl rfl (fun c17 => ?_) (fun c17 => ?_)
  · replace hf := m19 c17
    refine MM.aload_n (i := 0) rfl rfl d_M_worthOf_17 rfl ?_
    refine MM.iload_n (i := 1) rfl rfl d_M_worthOf_18 rfl ?_
    refine MM.aload_n (i := 0) rfl rfl d_M_worthOf_19 rfl ?_
    refine MM.gR 9 40 tg_261 rq_9_50 rfl lays_9 ww_1408 d_M_worthOf_20 rfl ?_
    refine MM.iload_n (i := 1) rfl rfl d_M_worthOf_23 rfl ?_
    obtain ⟨k1, e2, hf⟩ := mm_bind hf
    refine MM.gI e2 al_301 d_M_worthOf_24 rfl ?_
    obtain ⟨v4, e3, hf⟩ := mm_bind hf
    refine MM.callV1 (T_M_baseOf V l x1 (h.1 301 k1) h _ e3) (fun _ _ q => q) cal_M_baseOf rfl tg_261 ct_9 ww_75 ww_1787 ww_1785 (by omega) (by simp [Value.category]) d_M_worthOf_25 rfl ⟨rfl, rfl⟩ rfl ?_
    refine MM.aload_n (i := 0) rfl rfl d_M_worthOf_28 rfl ?_
    refine MM.gR 9 11 tg_261 rq_9_19 rfl lays_9 ww_1377 d_M_worthOf_29 rfl ?_
    refine MM.iload_n (i := 1) rfl rfl d_M_worthOf_32 rfl ?_
    obtain ⟨k5, e6, hf⟩ := mm_bind hf
    refine MM.gI e6 al_272 d_M_worthOf_33 rfl ?_
    obtain ⟨j7, e16, hf⟩ := mm_bind hf
    have K8 : MM V l Y_M_worthOf (D + 1) 0 0 Z0 51 [] [.int j7.1, .int v4.1] j7.2 := by
      refine MM.iadd d_M_worthOf_51 rfl ?_
      obtain rfl := Option.some.inj hf
      subst hZ
      exact MM.iret rfl d_M_worthOf_52 ⟨rfl, rfl⟩
    clear hf
    have hf := e16
    clear e16
    obtain ⟨m14, m15⟩ := mm_ifE hf
    refine MM.if_ge (tgt := 41) d_M_worthOf_34 rfl rfl (fun c13 => ?_) (fun c13 => ?_)
    · replace hf := m14 c13
      refine MM.aload_n (i := 0) rfl rfl d_M_worthOf_41 rfl ?_
      refine MM.aload_n (i := 0) rfl rfl d_M_worthOf_42 rfl ?_
      refine MM.gR 9 11 tg_261 rq_9_19 rfl lays_9 ww_1377 d_M_worthOf_43 rfl ?_
      refine MM.iload_n (i := 1) rfl rfl d_M_worthOf_46 rfl ?_
      obtain ⟨k9, e10, hf⟩ := mm_bind hf
      refine MM.gI e10 al_272 d_M_worthOf_47 rfl ?_
      obtain ⟨v12, e11, hf⟩ := mm_bind hf
      refine MM.callV1 (hrp (v4.2.1 272 k9) v4.2 _ e11) (fun _ _ q => q) cal_M_worthOf rfl tg_261 ct_9 ww_74 ww_1783 ww_1781 (by omega) (by simp [Value.category]) d_M_worthOf_48 rfl ⟨rfl, rfl⟩ rfl ?_
      obtain rfl := Option.some.inj hf
      exact MM.sub [] (by rfl) K8
    · replace hf := m15 c13
      refine MM.iconst ic_0 d_M_worthOf_37 rfl ?_
      refine MM.goto (tgt := 51) d_M_worthOf_38 rfl ?_
      obtain rfl := Option.some.inj hf
      exact MM.sub [] (by rfl) K8
  · replace hf := m18 c17
    refine MM.iconst ic_0 d_M_worthOf_15 rfl ?_
    obtain rfl := Option.some.inj hf
    subst hZ
    exact MM.iret rfl d_M_worthOf_16 ⟨rfl, rfl⟩
noncomputable def f_M_worthOf_n : Nat → Int32 → mm_H → Option (Int32 × mm_H)
  | 0 => fun _ _ => none
  | n + 1 => f_M_worthOf_b (f_M_worthOf_n n)
theorem T_M_worthOf_n (V : mm_V) (l : Launch) : ∀ (n : Nat) (x1 : Int32) (h : mm_H) (r : (Int32 × mm_H)), f_M_worthOf_n n x1 h = some r → MT V l Y_M_worthOf (5 + 1 * n) [.ref 261, .int x1] (fun r1 h1 => r1 = some (.int r.1) ∧ h1 = r.2) h := by
  intro n
  induction n with
  | zero => intro x1 h r hf; cases hf
  | succ n ih =>
    intro x1 h r hf
    have e9 : 5 + 1 * (n + 1) = 5 + 1 * n + 1 := by omega
    rw [e9]
    exact T_M_worthOf_b V l _ (5 + 1 * n) (by omega) ih x1 h r hf
noncomputable def f_M_worthOf (x1 : Int32) (h : mm_H) : Option (Int32 × mm_H) := f_M_worthOf_n 12 x1 h
theorem T_M_worthOf (V : mm_V) (l : Launch) (x1 : Int32) (h : mm_H) (r : (Int32 × mm_H)) (hf : f_M_worthOf x1 h = some r) : MT V l Y_M_worthOf 17 [.ref 261, .int x1] (fun r1 h1 => r1 = some (.int r.1) ∧ h1 = r.2) h := T_M_worthOf_n V l 12 x1 h r hf
theorem d_M_knownBy_0 : decode cX12_knownBy 0 = .ok (.iconst 0, 1) := by decide +kernel
theorem d_M_knownBy_1 : decode cX12_knownBy 1 = .ok (.istore_n 2, 1) := by decide +kernel
theorem d_M_knownBy_2 : decode cX12_knownBy 2 = .ok (.iconst 0, 1) := by decide +kernel
theorem d_M_knownBy_3 : decode cX12_knownBy 3 = .ok (.istore_n 3, 1) := by decide +kernel
theorem d_M_knownBy_4 : decode cX12_knownBy 4 = .ok (.iload_n 3, 1) := by decide +kernel
theorem d_M_knownBy_5 : decode cX12_knownBy 5 = .ok (.aload_n 0, 1) := by decide +kernel
theorem d_M_knownBy_6 : decode cX12_knownBy 6 = .ok (.getfield 13, 3) := by decide +kernel
theorem d_M_knownBy_9 : decode cX12_knownBy 9 = .ok (.iconst 1, 1) := by decide +kernel
theorem d_M_knownBy_10 : decode cX12_knownBy 10 = .ok (.iaload, 1) := by decide +kernel
theorem d_M_knownBy_11 : decode cX12_knownBy 11 = .ok (.if_icmp .ge 24, 3) := by decide +kernel
theorem d_M_knownBy_14 : decode cX12_knownBy 14 = .ok (.iload_n 2, 1) := by decide +kernel
theorem d_M_knownBy_15 : decode cX12_knownBy 15 = .ok (.aload_n 0, 1) := by decide +kernel
theorem d_M_knownBy_16 : decode cX12_knownBy 16 = .ok (.getfield 129, 3) := by decide +kernel
theorem d_M_knownBy_19 : decode cX12_knownBy 19 = .ok (.iload_n 3, 1) := by decide +kernel
theorem d_M_knownBy_20 : decode cX12_knownBy 20 = .ok (.iaload, 1) := by decide +kernel
theorem d_M_knownBy_21 : decode cX12_knownBy 21 = .ok (.iload_n 1, 1) := by decide +kernel
theorem d_M_knownBy_22 : decode cX12_knownBy 22 = .ok (.ishr, 1) := by decide +kernel
theorem d_M_knownBy_23 : decode cX12_knownBy 23 = .ok (.iconst 1, 1) := by decide +kernel
theorem d_M_knownBy_24 : decode cX12_knownBy 24 = .ok (.iand, 1) := by decide +kernel
theorem d_M_knownBy_25 : decode cX12_knownBy 25 = .ok (.iload_n 3, 1) := by decide +kernel
theorem d_M_knownBy_26 : decode cX12_knownBy 26 = .ok (.ishl, 1) := by decide +kernel
theorem d_M_knownBy_27 : decode cX12_knownBy 27 = .ok (.ior, 1) := by decide +kernel
theorem d_M_knownBy_28 : decode cX12_knownBy 28 = .ok (.istore_n 2, 1) := by decide +kernel
theorem d_M_knownBy_29 : decode cX12_knownBy 29 = .ok (.iinc 3 1, 3) := by decide +kernel
theorem d_M_knownBy_32 : decode cX12_knownBy 32 = .ok (.goto (-28), 3) := by decide +kernel
theorem d_M_knownBy_35 : decode cX12_knownBy 35 = .ok (.iload_n 2, 1) := by decide +kernel
theorem d_M_knownBy_36 : decode cX12_knownBy 36 = .ok (.ireturn, 1) := by decide +kernel
noncomputable def f_M_knownBy (x1 : Int32) (h : mm_H) : Option Int32 := (mm_while (σ := (Int32 × Int32)) (ρ := Int32) (fun s1 => if (h.1 263 1) ≤ s1.2 then (some (Sum.inr s1.1)) else ((mm_ix s1.2 123).bind fun k7 => mm_let (s1.1 ||| ((((h.1 301 k7) >>> (x1 &&& 31)) &&& 1) <<< (s1.2 &&& 31))) fun y9 => mm_let (s1.2 + 1) fun y11 => some (Sum.inl (y9, y11)))) (0, 0)).bind fun v4 => some v4
theorem T_M_knownBy (V : mm_V) (l : Launch) (x1 : Int32) (h : mm_H) (r : Int32) (hf : f_M_knownBy x1 h = some r) : MT V l Y_M_knownBy 1 [.ref 261, .int x1] (fun r1 h1 => r1 = some (.int r) ∧ h1 = h) h := by
  unfold f_M_knownBy at hf
  refine MT.intro (pn_M rfl) [(0, .ref 261), (1, .int x1)] rfl (Nat.le_of_ble_eq_true rfl) ?_
  generalize hZ : mm_Z V _ = Z0
  refine MM.iconst ic_0 d_M_knownBy_0 rfl ?_
  refine MM.istore_n (i := 2) (lv' := [(2, .int 0), (0, .ref 261), (1, .int x1)]) rfl rfl (Nat.le_of_ble_eq_true rfl) rfl d_M_knownBy_1 rfl ?_
  refine MM.iconst ic_0 d_M_knownBy_2 rfl ?_
  refine MM.istore_n (i := 3) (lv' := [(3, .int 0), (2, .int 0), (0, .ref 261), (1, .int x1)]) rfl rfl (Nat.le_of_ble_eq_true rfl) rfl d_M_knownBy_3 rfl ?_
  obtain ⟨v4, e6, hf⟩ := mm_bind hf
  have K5 : MM V l Y_M_knownBy 1 0 0 Z0 35 [(2, .int v4)] [] h := by
    refine MM.iload_n (i := 2) rfl rfl d_M_knownBy_35 rfl ?_
    obtain rfl := Option.some.inj hf
    subst hZ
    exact MM.iret rfl d_M_knownBy_36 ⟨rfl, rfl⟩
  clear hf
  refine MM.sub [2, 3, 1, 0] (by rfl) (mm_while_ind (fun s1 => MM V l Y_M_knownBy 1 0 0 Z0 4 [(0, .ref 261), (1, .int x1), (2, .int s1.1), (3, .int s1.2)] [] h) e6 (fun s1 q2 hf hx3 => ?_))
  refine MM.iload_n (i := 3) rfl rfl d_M_knownBy_4 rfl ?_
  refine MM.aload_n (i := 0) rfl rfl d_M_knownBy_5 rfl ?_
  refine MM.gR 9 2 tg_261 rq_9_10 rfl lays_9 ww_1368 d_M_knownBy_6 rfl ?_
  refine MM.iconst ic_1 d_M_knownBy_9 rfl ?_
  refine MM.gI ix_1_8 al_263 d_M_knownBy_10 rfl ?_
  obtain ⟨m14, m15⟩ := mm_ifE hf
  refine MM.icmp_ge (tgt := 35) d_M_knownBy_11 rfl rfl (fun c13 => ?_) (fun c13 => ?_)
  · replace hf := m14 c13
    obtain rfl := Option.some.inj hf
    obtain rfl := Option.some.inj (mm_wxR hx3)
    exact MM.sub [2] (by rfl) K5
  · replace hf := m15 c13
    refine MM.iload_n (i := 2) rfl rfl d_M_knownBy_14 rfl ?_
    refine MM.aload_n (i := 0) rfl rfl d_M_knownBy_15 rfl ?_
    refine MM.gR 9 40 tg_261 rq_9_50 rfl lays_9 ww_1408 d_M_knownBy_16 rfl ?_
    refine MM.iload_n (i := 3) rfl rfl d_M_knownBy_19 rfl ?_
    obtain ⟨k7, e8, hf⟩ := mm_bind hf
    refine MM.gI e8 al_301 d_M_knownBy_20 rfl ?_
    refine MM.iload_n (i := 1) rfl rfl d_M_knownBy_21 rfl ?_
    refine MM.ishr d_M_knownBy_22 rfl ?_
    refine MM.iconst ic_1 d_M_knownBy_23 rfl ?_
    refine MM.iand d_M_knownBy_24 rfl ?_
    refine MM.iload_n (i := 3) rfl rfl d_M_knownBy_25 rfl ?_
    refine MM.ishl d_M_knownBy_26 rfl ?_
    refine MM.ior d_M_knownBy_27 rfl ?_
    obtain ⟨y9, e10, hf⟩ := mm_letE hf
    refine MM.istore_n (i := 2) (lv' := [(2, .int y9), (0, .ref 261), (1, .int x1), (3, .int s1.2)]) e10 rfl (Nat.le_of_ble_eq_true rfl) rfl d_M_knownBy_28 rfl ?_
    obtain ⟨y11, e12, hf⟩ := mm_letE hf
    refine MM.iinc (k0 := 3) (lv' := [(3, .int y11), (2, .int y9), (0, .ref 261), (1, .int x1)]) (by rw [ic_1]; exact e12) rfl (Nat.le_of_ble_eq_true rfl) rfl d_M_knownBy_29 rfl ?_
    refine MM.goto (tgt := 4) d_M_knownBy_32 rfl ?_
    obtain rfl := Option.some.inj hf
    have h9 := mm_wxL hx3
    exact MM.sub [2, 3, 1, 0] (by rfl) h9
theorem d_M_worthsOf_0 : decode cX12_worthsOf 0 = .ok (.iconst 0, 1) := by decide +kernel
theorem d_M_worthsOf_1 : decode cX12_worthsOf 1 = .ok (.istore_n 2, 1) := by decide +kernel
theorem d_M_worthsOf_2 : decode cX12_worthsOf 2 = .ok (.iconst 0, 1) := by decide +kernel
theorem d_M_worthsOf_3 : decode cX12_worthsOf 3 = .ok (.istore_n 3, 1) := by decide +kernel
theorem d_M_worthsOf_4 : decode cX12_worthsOf 4 = .ok (.iload_n 3, 1) := by decide +kernel
theorem d_M_worthsOf_5 : decode cX12_worthsOf 5 = .ok (.aload_n 0, 1) := by decide +kernel
theorem d_M_worthsOf_6 : decode cX12_worthsOf 6 = .ok (.getfield 13, 3) := by decide +kernel
theorem d_M_worthsOf_9 : decode cX12_worthsOf 9 = .ok (.iconst 1, 1) := by decide +kernel
theorem d_M_worthsOf_10 : decode cX12_worthsOf 10 = .ok (.iaload, 1) := by decide +kernel
theorem d_M_worthsOf_11 : decode cX12_worthsOf 11 = .ok (.if_icmp .ge 30, 3) := by decide +kernel
theorem d_M_worthsOf_14 : decode cX12_worthsOf 14 = .ok (.iload_n 2, 1) := by decide +kernel
theorem d_M_worthsOf_15 : decode cX12_worthsOf 15 = .ok (.iload_n 1, 1) := by decide +kernel
theorem d_M_worthsOf_16 : decode cX12_worthsOf 16 = .ok (.iload_n 3, 1) := by decide +kernel
theorem d_M_worthsOf_17 : decode cX12_worthsOf 17 = .ok (.ishr, 1) := by decide +kernel
theorem d_M_worthsOf_18 : decode cX12_worthsOf 18 = .ok (.iconst 1, 1) := by decide +kernel
theorem d_M_worthsOf_19 : decode cX12_worthsOf 19 = .ok (.iand, 1) := by decide +kernel
theorem d_M_worthsOf_20 : decode cX12_worthsOf 20 = .ok (.iconst 1, 1) := by decide +kernel
theorem d_M_worthsOf_21 : decode cX12_worthsOf 21 = .ok (.if_icmp .ne 11, 3) := by decide +kernel
theorem d_M_worthsOf_24 : decode cX12_worthsOf 24 = .ok (.aload_n 0, 1) := by decide +kernel
theorem d_M_worthsOf_25 : decode cX12_worthsOf 25 = .ok (.iload_n 3, 1) := by decide +kernel
theorem d_M_worthsOf_26 : decode cX12_worthsOf 26 = .ok (.invokevirtual 427, 3) := by decide +kernel
theorem d_M_worthsOf_29 : decode cX12_worthsOf 29 = .ok (.goto 4, 3) := by decide +kernel
theorem d_M_worthsOf_32 : decode cX12_worthsOf 32 = .ok (.iconst 0, 1) := by decide +kernel
theorem d_M_worthsOf_33 : decode cX12_worthsOf 33 = .ok (.iadd, 1) := by decide +kernel
theorem d_M_worthsOf_34 : decode cX12_worthsOf 34 = .ok (.istore_n 2, 1) := by decide +kernel
theorem d_M_worthsOf_35 : decode cX12_worthsOf 35 = .ok (.iinc 3 1, 3) := by decide +kernel
theorem d_M_worthsOf_38 : decode cX12_worthsOf 38 = .ok (.goto (-34), 3) := by decide +kernel
theorem d_M_worthsOf_41 : decode cX12_worthsOf 41 = .ok (.iload_n 2, 1) := by decide +kernel
theorem d_M_worthsOf_42 : decode cX12_worthsOf 42 = .ok (.ireturn, 1) := by decide +kernel
noncomputable def f_M_worthsOf (x1 : Int32) (h : mm_H) : Option (Int32 × mm_H) := (mm_while (σ := (Int32 × Int32 × mm_H)) (ρ := (Int32 × mm_H)) (fun s1 => if (s1.2.2.1 263 1) ≤ s1.2.1 then (some (Sum.inr (s1.1, s1.2.2))) else ((if ((x1 >>> (s1.2.1 &&& 31)) &&& 1) = 1 then ((f_M_worthOf s1.2.1 s1.2.2).bind fun v10 => some (v10.1, v10.2)) else (some (0, s1.2.2)) : Option (Int32 × mm_H)).bind fun j7 => mm_let (s1.1 + j7.1) fun y14 => mm_let (s1.2.1 + 1) fun y16 => some (Sum.inl (y14, y16, j7.2)))) (0, 0, h)).bind fun v4 => some (v4.1, v4.2)
theorem T_M_worthsOf (V : mm_V) (l : Launch) (x1 : Int32) (h : mm_H) (r : (Int32 × mm_H)) (hf : f_M_worthsOf x1 h = some r) : MT V l Y_M_worthsOf 18 [.ref 261, .int x1] (fun r1 h1 => r1 = some (.int r.1) ∧ h1 = r.2) h := by
  unfold f_M_worthsOf at hf
  refine MT.intro (pn_M rfl) [(0, .ref 261), (1, .int x1)] rfl (Nat.le_of_ble_eq_true rfl) ?_
  generalize hZ : mm_Z V _ = Z0
  refine MM.iconst ic_0 d_M_worthsOf_0 rfl ?_
  refine MM.istore_n (i := 2) (lv' := [(2, .int 0), (0, .ref 261), (1, .int x1)]) rfl rfl (Nat.le_of_ble_eq_true rfl) rfl d_M_worthsOf_1 rfl ?_
  refine MM.iconst ic_0 d_M_worthsOf_2 rfl ?_
  refine MM.istore_n (i := 3) (lv' := [(3, .int 0), (2, .int 0), (0, .ref 261), (1, .int x1)]) rfl rfl (Nat.le_of_ble_eq_true rfl) rfl d_M_worthsOf_3 rfl ?_
  obtain ⟨v4, e6, hf⟩ := mm_bind hf
  have K5 : MM V l Y_M_worthsOf 18 0 0 Z0 41 [(2, .int v4.1)] [] v4.2 := by
    refine MM.iload_n (i := 2) rfl rfl d_M_worthsOf_41 rfl ?_
    obtain rfl := Option.some.inj hf
    subst hZ
    exact MM.iret rfl d_M_worthsOf_42 ⟨rfl, rfl⟩
  clear hf
  refine MM.sub [2, 3, 1, 0] (by rfl) (mm_while_ind (fun s1 => MM V l Y_M_worthsOf 18 0 0 Z0 4 [(0, .ref 261), (1, .int x1), (2, .int s1.1), (3, .int s1.2.1)] [] s1.2.2) e6 (fun s1 q2 hf hx3 => ?_))
  refine MM.iload_n (i := 3) rfl rfl d_M_worthsOf_4 rfl ?_
  refine MM.aload_n (i := 0) rfl rfl d_M_worthsOf_5 rfl ?_
  refine MM.gR 9 2 tg_261 rq_9_10 rfl lays_9 ww_1368 d_M_worthsOf_6 rfl ?_
  refine MM.iconst ic_1 d_M_worthsOf_9 rfl ?_
  refine MM.gI ix_1_8 al_263 d_M_worthsOf_10 rfl ?_
  obtain ⟨m20, m21⟩ := mm_ifE hf
  refine MM.icmp_ge (tgt := 41) d_M_worthsOf_11 rfl rfl (fun c19 => ?_) (fun c19 => ?_)
  · replace hf := m20 c19
    obtain rfl := Option.some.inj hf
    obtain rfl := Option.some.inj (mm_wxR hx3)
    exact MM.sub [2] (by rfl) K5
  · replace hf := m21 c19
    refine MM.iload_n (i := 2) rfl rfl d_M_worthsOf_14 rfl ?_
    refine MM.iload_n (i := 1) rfl rfl d_M_worthsOf_15 rfl ?_
    refine MM.iload_n (i := 3) rfl rfl d_M_worthsOf_16 rfl ?_
    refine MM.ishr d_M_worthsOf_17 rfl ?_
    refine MM.iconst ic_1 d_M_worthsOf_18 rfl ?_
    refine MM.iand d_M_worthsOf_19 rfl ?_
    refine MM.iconst ic_1 d_M_worthsOf_20 rfl ?_
    obtain ⟨j7, e18, hf⟩ := mm_bind hf
    have K8 : MM V l Y_M_worthsOf 18 0 0 Z0 33 [(0, .ref 261), (1, .int x1), (3, .int s1.2.1)] [.int j7.1, .int s1.1] j7.2 := by
      refine MM.iadd d_M_worthsOf_33 rfl ?_
      obtain ⟨y14, e15, hf⟩ := mm_letE hf
      refine MM.istore_n (i := 2) (lv' := [(2, .int y14), (0, .ref 261), (1, .int x1), (3, .int s1.2.1)]) e15 rfl (Nat.le_of_ble_eq_true rfl) rfl d_M_worthsOf_34 rfl ?_
      obtain ⟨y16, e17, hf⟩ := mm_letE hf
      refine MM.iinc (k0 := 3) (lv' := [(3, .int y16), (2, .int y14), (0, .ref 261), (1, .int x1)]) (by rw [ic_1]; exact e17) rfl (Nat.le_of_ble_eq_true rfl) rfl d_M_worthsOf_35 rfl ?_
      refine MM.goto (tgt := 4) d_M_worthsOf_38 rfl ?_
      obtain rfl := Option.some.inj hf
      have h9 := mm_wxL hx3
      exact MM.sub [2, 3, 1, 0] (by rfl) h9
    clear hf
    have hf := e18
    clear e18
    obtain ⟨m12, m13⟩ := mm_ifE hf
    refine MM.icmp_ne (tgt := 32) d_M_worthsOf_21 rfl rfl (fun c11 => ?_) (fun c11 => ?_)
    · replace hf := m13 c11
      refine MM.iconst ic_0 d_M_worthsOf_32 rfl ?_
      obtain rfl := Option.some.inj hf
      exact MM.sub [0, 1, 3] (by rfl) K8
    · replace hf := m12 c11
      refine MM.aload_n (i := 0) rfl rfl d_M_worthsOf_24 rfl ?_
      refine MM.iload_n (i := 3) rfl rfl d_M_worthsOf_25 rfl ?_
      obtain ⟨v10, e9, hf⟩ := mm_bind hf
      refine MM.callV1 (T_M_worthOf V l s1.2.1 s1.2.2 _ e9) (fun _ _ q => q) cal_M_worthOf rfl tg_261 ct_9 ww_74 ww_1783 ww_1781 (by decide) (by simp [Value.category]) d_M_worthsOf_26 rfl ⟨rfl, rfl⟩ rfl ?_
      refine MM.goto (tgt := 33) d_M_worthsOf_29 rfl ?_
      obtain rfl := Option.some.inj hf
      exact MM.sub [0, 1, 3] (by rfl) K8
theorem d_M_purse_0 : decode cX12_purse 0 = .ok (.aload_n 0, 1) := by decide +kernel
theorem d_M_purse_1 : decode cX12_purse 1 = .ok (.aload_n 0, 1) := by decide +kernel
theorem d_M_purse_2 : decode cX12_purse 2 = .ok (.iload_n 1, 1) := by decide +kernel
theorem d_M_purse_3 : decode cX12_purse 3 = .ok (.invokevirtual 430, 3) := by decide +kernel
theorem d_M_purse_6 : decode cX12_purse 6 = .ok (.invokevirtual 433, 3) := by decide +kernel
theorem d_M_purse_9 : decode cX12_purse 9 = .ok (.ireturn, 1) := by decide +kernel
noncomputable def f_M_purse (x1 : Int32) (h : mm_H) : Option (Int32 × mm_H) := (f_M_knownBy x1 h).bind fun v2 => (f_M_worthsOf v2 h).bind fun v4 => some (v4.1, v4.2)
theorem T_M_purse (V : mm_V) (l : Launch) (x1 : Int32) (h : mm_H) (r : (Int32 × mm_H)) (hf : f_M_purse x1 h = some r) : MT V l Y_M_purse 19 [.ref 261, .int x1] (fun r1 h1 => r1 = some (.int r.1) ∧ h1 = r.2) h := by
  unfold f_M_purse at hf
  refine MT.intro (pn_M rfl) [(0, .ref 261), (1, .int x1)] rfl (Nat.le_of_ble_eq_true rfl) ?_
  generalize hZ : mm_Z V _ = Z0
  refine MM.aload_n (i := 0) rfl rfl d_M_purse_0 rfl ?_
  refine MM.aload_n (i := 0) rfl rfl d_M_purse_1 rfl ?_
  refine MM.iload_n (i := 1) rfl rfl d_M_purse_2 rfl ?_
  obtain ⟨v2, e1, hf⟩ := mm_bind hf
  refine MM.callV1 (T_M_knownBy V l x1 h _ e1) (fun _ _ q => q) cal_M_knownBy rfl tg_261 ct_9 ww_71 ww_1771 ww_1769 (by decide) (by simp [Value.category]) d_M_purse_3 rfl ⟨rfl, rfl⟩ rfl ?_
  obtain ⟨v4, e3, hf⟩ := mm_bind hf
  refine MM.callV1 (T_M_worthsOf V l v2 h _ e3) (fun _ _ q => q) cal_M_worthsOf rfl tg_261 ct_9 ww_73 ww_1779 ww_1777 (by decide) (by simp [Value.category]) d_M_purse_6 rfl ⟨rfl, rfl⟩ rfl ?_
  obtain rfl := Option.some.inj hf
  subst hZ
  exact MM.iret rfl d_M_purse_9 ⟨rfl, rfl⟩
theorem d_M_net_0 : decode cX12_net 0 = .ok (.iconst 0, 1) := by decide +kernel
theorem d_M_net_1 : decode cX12_net 1 = .ok (.istore_n 2, 1) := by decide +kernel
theorem d_M_net_2 : decode cX12_net 2 = .ok (.iconst 0, 1) := by decide +kernel
theorem d_M_net_3 : decode cX12_net 3 = .ok (.istore_n 3, 1) := by decide +kernel
theorem d_M_net_4 : decode cX12_net 4 = .ok (.iload_n 3, 1) := by decide +kernel
theorem d_M_net_5 : decode cX12_net 5 = .ok (.bipush 6, 2) := by decide +kernel
theorem d_M_net_7 : decode cX12_net 7 = .ok (.if_icmp .ge 41, 3) := by decide +kernel
theorem d_M_net_10 : decode cX12_net 10 = .ok (.iload_n 2, 1) := by decide +kernel
theorem d_M_net_11 : decode cX12_net 11 = .ok (.aload_n 0, 1) := by decide +kernel
theorem d_M_net_12 : decode cX12_net 12 = .ok (.getfield 129, 3) := by decide +kernel
theorem d_M_net_15 : decode cX12_net 15 = .ok (.bipush 86, 2) := by decide +kernel
theorem d_M_net_17 : decode cX12_net 17 = .ok (.bipush 6, 2) := by decide +kernel
theorem d_M_net_19 : decode cX12_net 19 = .ok (.iload_n 3, 1) := by decide +kernel
theorem d_M_net_20 : decode cX12_net 20 = .ok (.imul, 1) := by decide +kernel
theorem d_M_net_21 : decode cX12_net 21 = .ok (.iadd, 1) := by decide +kernel
theorem d_M_net_22 : decode cX12_net 22 = .ok (.iload_n 1, 1) := by decide +kernel
theorem d_M_net_23 : decode cX12_net 23 = .ok (.iadd, 1) := by decide +kernel
theorem d_M_net_24 : decode cX12_net 24 = .ok (.iaload, 1) := by decide +kernel
theorem d_M_net_25 : decode cX12_net 25 = .ok (.aload_n 0, 1) := by decide +kernel
theorem d_M_net_26 : decode cX12_net 26 = .ok (.getfield 129, 3) := by decide +kernel
theorem d_M_net_29 : decode cX12_net 29 = .ok (.bipush 86, 2) := by decide +kernel
theorem d_M_net_31 : decode cX12_net 31 = .ok (.bipush 6, 2) := by decide +kernel
theorem d_M_net_33 : decode cX12_net 33 = .ok (.iload_n 1, 1) := by decide +kernel
theorem d_M_net_34 : decode cX12_net 34 = .ok (.imul, 1) := by decide +kernel
theorem d_M_net_35 : decode cX12_net 35 = .ok (.iadd, 1) := by decide +kernel
theorem d_M_net_36 : decode cX12_net 36 = .ok (.iload_n 3, 1) := by decide +kernel
theorem d_M_net_37 : decode cX12_net 37 = .ok (.iadd, 1) := by decide +kernel
theorem d_M_net_38 : decode cX12_net 38 = .ok (.iaload, 1) := by decide +kernel
theorem d_M_net_39 : decode cX12_net 39 = .ok (.isub, 1) := by decide +kernel
theorem d_M_net_40 : decode cX12_net 40 = .ok (.iadd, 1) := by decide +kernel
theorem d_M_net_41 : decode cX12_net 41 = .ok (.istore_n 2, 1) := by decide +kernel
theorem d_M_net_42 : decode cX12_net 42 = .ok (.iinc 3 1, 3) := by decide +kernel
theorem d_M_net_45 : decode cX12_net 45 = .ok (.goto (-41), 3) := by decide +kernel
theorem d_M_net_48 : decode cX12_net 48 = .ok (.iload_n 2, 1) := by decide +kernel
theorem d_M_net_49 : decode cX12_net 49 = .ok (.ireturn, 1) := by decide +kernel
noncomputable def f_M_net (x1 : Int32) (h : mm_H) : Option Int32 := (mm_while (σ := (Int32 × Int32)) (ρ := Int32) (fun s1 => if 6 ≤ s1.2 then (some (Sum.inr s1.1)) else ((mm_ix ((86 + (6 * s1.2)) + x1) 123).bind fun k7 => (mm_ix ((86 + (6 * x1)) + s1.2) 123).bind fun k9 => mm_let (s1.1 + ((h.1 301 k7) - (h.1 301 k9))) fun y11 => mm_let (s1.2 + 1) fun y13 => some (Sum.inl (y11, y13)))) (0, 0)).bind fun v4 => some v4
theorem T_M_net (V : mm_V) (l : Launch) (x1 : Int32) (h : mm_H) (r : Int32) (hf : f_M_net x1 h = some r) : MT V l Y_M_net 1 [.ref 261, .int x1] (fun r1 h1 => r1 = some (.int r) ∧ h1 = h) h := by
  unfold f_M_net at hf
  refine MT.intro (pn_M rfl) [(0, .ref 261), (1, .int x1)] rfl (Nat.le_of_ble_eq_true rfl) ?_
  generalize hZ : mm_Z V _ = Z0
  refine MM.iconst ic_0 d_M_net_0 rfl ?_
  refine MM.istore_n (i := 2) (lv' := [(2, .int 0), (0, .ref 261), (1, .int x1)]) rfl rfl (Nat.le_of_ble_eq_true rfl) rfl d_M_net_1 rfl ?_
  refine MM.iconst ic_0 d_M_net_2 rfl ?_
  refine MM.istore_n (i := 3) (lv' := [(3, .int 0), (2, .int 0), (0, .ref 261), (1, .int x1)]) rfl rfl (Nat.le_of_ble_eq_true rfl) rfl d_M_net_3 rfl ?_
  obtain ⟨v4, e6, hf⟩ := mm_bind hf
  have K5 : MM V l Y_M_net 1 0 0 Z0 48 [(2, .int v4)] [] h := by
    refine MM.iload_n (i := 2) rfl rfl d_M_net_48 rfl ?_
    obtain rfl := Option.some.inj hf
    subst hZ
    exact MM.iret rfl d_M_net_49 ⟨rfl, rfl⟩
  clear hf
  refine MM.sub [2, 3, 1, 0] (by rfl) (mm_while_ind (fun s1 => MM V l Y_M_net 1 0 0 Z0 4 [(0, .ref 261), (1, .int x1), (2, .int s1.1), (3, .int s1.2)] [] h) e6 (fun s1 q2 hf hx3 => ?_))
  refine MM.iload_n (i := 3) rfl rfl d_M_net_4 rfl ?_
  refine MM.bipush bp_6 d_M_net_5 rfl ?_
  obtain ⟨m16, m17⟩ := mm_ifE hf
  refine MM.icmp_ge (tgt := 48) d_M_net_7 rfl rfl (fun c15 => ?_) (fun c15 => ?_)
  · replace hf := m16 c15
    obtain rfl := Option.some.inj hf
    obtain rfl := Option.some.inj (mm_wxR hx3)
    exact MM.sub [2] (by rfl) K5
  · replace hf := m17 c15
    refine MM.iload_n (i := 2) rfl rfl d_M_net_10 rfl ?_
    refine MM.aload_n (i := 0) rfl rfl d_M_net_11 rfl ?_
    refine MM.gR 9 40 tg_261 rq_9_50 rfl lays_9 ww_1408 d_M_net_12 rfl ?_
    refine MM.bipush bp_86 d_M_net_15 rfl ?_
    refine MM.bipush bp_6 d_M_net_17 rfl ?_
    refine MM.iload_n (i := 3) rfl rfl d_M_net_19 rfl ?_
    refine MM.imul d_M_net_20 rfl ?_
    refine MM.iadd d_M_net_21 rfl ?_
    refine MM.iload_n (i := 1) rfl rfl d_M_net_22 rfl ?_
    refine MM.iadd d_M_net_23 rfl ?_
    obtain ⟨k7, e8, hf⟩ := mm_bind hf
    refine MM.gI e8 al_301 d_M_net_24 rfl ?_
    refine MM.aload_n (i := 0) rfl rfl d_M_net_25 rfl ?_
    refine MM.gR 9 40 tg_261 rq_9_50 rfl lays_9 ww_1408 d_M_net_26 rfl ?_
    refine MM.bipush bp_86 d_M_net_29 rfl ?_
    refine MM.bipush bp_6 d_M_net_31 rfl ?_
    refine MM.iload_n (i := 1) rfl rfl d_M_net_33 rfl ?_
    refine MM.imul d_M_net_34 rfl ?_
    refine MM.iadd d_M_net_35 rfl ?_
    refine MM.iload_n (i := 3) rfl rfl d_M_net_36 rfl ?_
    refine MM.iadd d_M_net_37 rfl ?_
    obtain ⟨k9, e10, hf⟩ := mm_bind hf
    refine MM.gI e10 al_301 d_M_net_38 rfl ?_
    refine MM.isub d_M_net_39 rfl ?_
    refine MM.iadd d_M_net_40 rfl ?_
    obtain ⟨y11, e12, hf⟩ := mm_letE hf
    refine MM.istore_n (i := 2) (lv' := [(2, .int y11), (0, .ref 261), (1, .int x1), (3, .int s1.2)]) e12 rfl (Nat.le_of_ble_eq_true rfl) rfl d_M_net_41 rfl ?_
    obtain ⟨y13, e14, hf⟩ := mm_letE hf
    refine MM.iinc (k0 := 3) (lv' := [(3, .int y13), (2, .int y11), (0, .ref 261), (1, .int x1)]) (by rw [ic_1]; exact e14) rfl (Nat.le_of_ble_eq_true rfl) rfl d_M_net_42 rfl ?_
    refine MM.goto (tgt := 4) d_M_net_45 rfl ?_
    obtain rfl := Option.some.inj hf
    have h9 := mm_wxL hx3
    exact MM.sub [2, 3, 1, 0] (by rfl) h9
theorem d_M_person_0 : decode cX12_person 0 = .ok (.aload_n 0, 1) := by decide +kernel
theorem d_M_person_1 : decode cX12_person 1 = .ok (.aload_n 0, 1) := by decide +kernel
theorem d_M_person_2 : decode cX12_person 2 = .ok (.iload_n 1, 1) := by decide +kernel
theorem d_M_person_3 : decode cX12_person 3 = .ok (.invokevirtual 436, 3) := by decide +kernel
theorem d_M_person_6 : decode cX12_person 6 = .ok (.ifCond .eq 17, 3) := by decide +kernel
theorem d_M_person_9 : decode cX12_person 9 = .ok (.iload_n 2, 1) := by decide +kernel
theorem d_M_person_10 : decode cX12_person 10 = .ok (.iconst 0, 1) := by decide +kernel
theorem d_M_person_11 : decode cX12_person 11 = .ok (.bipush 7, 2) := by decide +kernel
theorem d_M_person_13 : decode cX12_person 13 = .ok (.invokestatic 308, 3) := by decide +kernel
theorem d_M_person_16 : decode cX12_person 16 = .ok (.ifCond .eq 7, 3) := by decide +kernel
theorem d_M_person_19 : decode cX12_person 19 = .ok (.iconst 0, 1) := by decide +kernel
theorem d_M_person_20 : decode cX12_person 20 = .ok (.goto 4, 3) := by decide +kernel
theorem d_M_person_23 : decode cX12_person 23 = .ok (.iconst 1, 1) := by decide +kernel
theorem d_M_person_24 : decode cX12_person 24 = .ok (.putfield 175, 3) := by decide +kernel
theorem d_M_person_27 : decode cX12_person 27 = .ok (.aload_n 0, 1) := by decide +kernel
theorem d_M_person_28 : decode cX12_person 28 = .ok (.getfield 175, 3) := by decide +kernel
theorem d_M_person_31 : decode cX12_person 31 = .ok (.iconst 1, 1) := by decide +kernel
theorem d_M_person_32 : decode cX12_person 32 = .ok (.if_icmp .ne 5, 3) := by decide +kernel
theorem d_M_person_35 : decode cX12_person 35 = .ok (.iconst 0, 1) := by decide +kernel
theorem d_M_person_36 : decode cX12_person 36 = .ok (.ireturn, 1) := by decide +kernel
theorem d_M_person_37 : decode cX12_person 37 = .ok (.iload_n 2, 1) := by decide +kernel
theorem d_M_person_38 : decode cX12_person 38 = .ok (.iconst 3, 1) := by decide +kernel
theorem d_M_person_39 : decode cX12_person 39 = .ok (.if_icmp .ge 40, 3) := by decide +kernel
theorem d_M_person_42 : decode cX12_person 42 = .ok (.iload_n 2, 1) := by decide +kernel
theorem d_M_person_43 : decode cX12_person 43 = .ok (.ifCond .ne 12, 3) := by decide +kernel
theorem d_M_person_46 : decode cX12_person 46 = .ok (.aload_n 0, 1) := by decide +kernel
theorem d_M_person_47 : decode cX12_person 47 = .ok (.getfield 23, 3) := by decide +kernel
theorem d_M_person_50 : decode cX12_person 50 = .ok (.iload_n 1, 1) := by decide +kernel
theorem d_M_person_51 : decode cX12_person 51 = .ok (.iaload, 1) := by decide +kernel
theorem d_M_person_52 : decode cX12_person 52 = .ok (.goto 26, 3) := by decide +kernel
theorem d_M_person_55 : decode cX12_person 55 = .ok (.iload_n 2, 1) := by decide +kernel
theorem d_M_person_56 : decode cX12_person 56 = .ok (.iconst 1, 1) := by decide +kernel
theorem d_M_person_57 : decode cX12_person 57 = .ok (.if_icmp .ne 15, 3) := by decide +kernel
theorem d_M_person_60 : decode cX12_person 60 = .ok (.aload_n 0, 1) := by decide +kernel
theorem d_M_person_61 : decode cX12_person 61 = .ok (.getfield 129, 3) := by decide +kernel
theorem d_M_person_64 : decode cX12_person 64 = .ok (.bipush 70, 2) := by decide +kernel
theorem d_M_person_66 : decode cX12_person 66 = .ok (.iload_n 1, 1) := by decide +kernel
theorem d_M_person_67 : decode cX12_person 67 = .ok (.iadd, 1) := by decide +kernel
theorem d_M_person_68 : decode cX12_person 68 = .ok (.iaload, 1) := by decide +kernel
theorem d_M_person_69 : decode cX12_person 69 = .ok (.goto 9, 3) := by decide +kernel
theorem d_M_person_72 : decode cX12_person 72 = .ok (.aload_n 0, 1) := by decide +kernel
theorem d_M_person_73 : decode cX12_person 73 = .ok (.getfield 29, 3) := by decide +kernel
theorem d_M_person_76 : decode cX12_person 76 = .ok (.iload_n 1, 1) := by decide +kernel
theorem d_M_person_77 : decode cX12_person 77 = .ok (.iaload, 1) := by decide +kernel
theorem d_M_person_78 : decode cX12_person 78 = .ok (.ireturn, 1) := by decide +kernel
theorem d_M_person_79 : decode cX12_person 79 = .ok (.iload_n 2, 1) := by decide +kernel
theorem d_M_person_80 : decode cX12_person 80 = .ok (.iconst 5, 1) := by decide +kernel
theorem d_M_person_81 : decode cX12_person 81 = .ok (.if_icmp .ge 22, 3) := by decide +kernel
theorem d_M_person_84 : decode cX12_person 84 = .ok (.iload_n 2, 1) := by decide +kernel
theorem d_M_person_85 : decode cX12_person 85 = .ok (.iconst 3, 1) := by decide +kernel
theorem d_M_person_86 : decode cX12_person 86 = .ok (.if_icmp .ne 11, 3) := by decide +kernel
theorem d_M_person_89 : decode cX12_person 89 = .ok (.aload_n 0, 1) := by decide +kernel
theorem d_M_person_90 : decode cX12_person 90 = .ok (.iload_n 1, 1) := by decide +kernel
theorem d_M_person_91 : decode cX12_person 91 = .ok (.invokevirtual 430, 3) := by decide +kernel
theorem d_M_person_94 : decode cX12_person 94 = .ok (.goto 8, 3) := by decide +kernel
theorem d_M_person_97 : decode cX12_person 97 = .ok (.aload_n 0, 1) := by decide +kernel
theorem d_M_person_98 : decode cX12_person 98 = .ok (.iload_n 1, 1) := by decide +kernel
theorem d_M_person_99 : decode cX12_person 99 = .ok (.invokevirtual 439, 3) := by decide +kernel
theorem d_M_person_102 : decode cX12_person 102 = .ok (.ireturn, 1) := by decide +kernel
theorem d_M_person_103 : decode cX12_person 103 = .ok (.iload_n 2, 1) := by decide +kernel
theorem d_M_person_104 : decode cX12_person 104 = .ok (.iconst 5, 1) := by decide +kernel
theorem d_M_person_105 : decode cX12_person 105 = .ok (.if_icmp .ne 17, 3) := by decide +kernel
theorem d_M_person_108 : decode cX12_person 108 = .ok (.aload_n 0, 1) := by decide +kernel
theorem d_M_person_109 : decode cX12_person 109 = .ok (.getfield 129, 3) := by decide +kernel
theorem d_M_person_112 : decode cX12_person 112 = .ok (.bipush 78, 2) := by decide +kernel
theorem d_M_person_114 : decode cX12_person 114 = .ok (.iaload, 1) := by decide +kernel
theorem d_M_person_115 : decode cX12_person 115 = .ok (.iload_n 1, 1) := by decide +kernel
theorem d_M_person_116 : decode cX12_person 116 = .ok (.ishr, 1) := by decide +kernel
theorem d_M_person_117 : decode cX12_person 117 = .ok (.iconst 1, 1) := by decide +kernel
theorem d_M_person_118 : decode cX12_person 118 = .ok (.iand, 1) := by decide +kernel
theorem d_M_person_119 : decode cX12_person 119 = .ok (.goto 26, 3) := by decide +kernel
theorem d_M_person_122 : decode cX12_person 122 = .ok (.iload_n 2, 1) := by decide +kernel
theorem d_M_person_123 : decode cX12_person 123 = .ok (.bipush 6, 2) := by decide +kernel
theorem d_M_person_125 : decode cX12_person 125 = .ok (.if_icmp .ne 15, 3) := by decide +kernel
theorem d_M_person_128 : decode cX12_person 128 = .ok (.aload_n 0, 1) := by decide +kernel
theorem d_M_person_129 : decode cX12_person 129 = .ok (.getfield 129, 3) := by decide +kernel
theorem d_M_person_132 : decode cX12_person 132 = .ok (.bipush 79, 2) := by decide +kernel
theorem d_M_person_134 : decode cX12_person 134 = .ok (.iload_n 1, 1) := by decide +kernel
theorem d_M_person_135 : decode cX12_person 135 = .ok (.iadd, 1) := by decide +kernel
theorem d_M_person_136 : decode cX12_person 136 = .ok (.iaload, 1) := by decide +kernel
theorem d_M_person_137 : decode cX12_person 137 = .ok (.goto 8, 3) := by decide +kernel
theorem d_M_person_140 : decode cX12_person 140 = .ok (.aload_n 0, 1) := by decide +kernel
theorem d_M_person_141 : decode cX12_person 141 = .ok (.iload_n 1, 1) := by decide +kernel
theorem d_M_person_142 : decode cX12_person 142 = .ok (.invokevirtual 442, 3) := by decide +kernel
theorem d_M_person_145 : decode cX12_person 145 = .ok (.ireturn, 1) := by decide +kernel
noncomputable def f_M_person (x1 : Int32) (x2 : Int32) (h : mm_H) : Option (Int32 × mm_H) := (f_M_isPerson x1 h).bind fun v2 => (if v2 = 0 then (some 1) else ((f_M_within x2 0 7).bind fun v6 => if v6 = 0 then (some 1) else (some 0)) : Option Int32).bind fun j3 => mm_let (mm_pI h 261 0 j3) fun h13 => if (h13.1 261 0) = 1 then (some (0, h13)) else (if 3 ≤ x2 then (if 5 ≤ x2 then (if x2 = 5 then (some ((((h13.1 301 78) >>> (x1 &&& 31)) &&& 1), h13)) else (if x2 = 6 then ((mm_ix (79 + x1) 123).bind fun k17 => some ((h13.1 301 k17), h13)) else ((f_M_net x1 h13).bind fun v16 => some (v16, h13)))) else (if x2 = 3 then ((f_M_knownBy x1 h13).bind fun v28 => some (v28, h13)) else ((f_M_purse x1 h13).bind fun v26 => some (v26.1, v26.2)))) else (if x2 = 0 then ((mm_ix x1 12).bind fun k42 => some ((h13.1 266 k42), h13)) else (if x2 = 1 then ((mm_ix (70 + x1) 123).bind fun k37 => some ((h13.1 301 k37), h13)) else ((mm_ix x1 12).bind fun k35 => some ((h13.1 268 k35), h13)))))
theorem T_M_person (V : mm_V) (l : Launch) (x1 : Int32) (x2 : Int32) (h : mm_H) (r : (Int32 × mm_H)) (hf : f_M_person x1 x2 h = some r) : MT V l Y_M_person 20 [.ref 261, .int x1, .int x2] (fun r1 h1 => r1 = some (.int r.1) ∧ h1 = r.2) h := by
  unfold f_M_person at hf
  refine MT.intro (pn_M rfl) [(0, .ref 261), (1, .int x1), (2, .int x2)] rfl (Nat.le_of_ble_eq_true rfl) ?_
  generalize hZ : mm_Z V _ = Z0
  refine MM.aload_n (i := 0) rfl rfl d_M_person_0 rfl ?_
  refine MM.aload_n (i := 0) rfl rfl d_M_person_1 rfl ?_
  refine MM.iload_n (i := 1) rfl rfl d_M_person_2 rfl ?_
  obtain ⟨v2, e1, hf⟩ := mm_bind hf
  refine MM.callV1 (T_M_isPerson V l x1 h _ e1) (fun _ _ q => q) cal_M_isPerson rfl tg_261 ct_9 ww_70 ww_1767 ww_1765 (by decide) (by simp [Value.category]) d_M_person_3 rfl ⟨rfl, rfl⟩ rfl ?_
  obtain ⟨j3, e53, hf⟩ := mm_bind hf
  have K4 : MM V l Y_M_person 20 0 0 Z0 24 [(0, .ref 261), (1, .int x1), (2, .int x2)] [.int j3, .ref 261] h := by
    obtain ⟨h13, e14, hf⟩ := mm_letE hf
    refine MM.putI e14 9 tg_261 lays_9 toks_9 pq_9_0 ww_1358 d_M_person_24 rfl ?_
    refine MM.aload_n (i := 0) rfl rfl d_M_person_27 rfl ?_
    refine MM.getI 9 tg_261 lays_9 gq_9_0 ww_1358 d_M_person_28 rfl ?_
    refine MM.iconst ic_1 d_M_person_31 rfl ?_
    obtain ⟨m51, m52⟩ := mm_ifE hf
    refine MM.icmp_ne (tgt := 37) d_M_person_32 rfl rfl (fun c50 => ?_) (fun c50 => ?_)
    · replace hf := m52 c50
      refine MM.iload_n (i := 2) rfl rfl d_M_person_37 rfl ?_
      refine MM.iconst ic_3 d_M_person_38 rfl ?_
      obtain ⟨m48, m49⟩ := mm_ifE hf
      refine MM.icmp_ge (tgt := 79) d_M_person_39 rfl rfl (fun c47 => ?_) (fun c47 => ?_)
      · replace hf := m48 c47
        refine MM.iload_n (i := 2) rfl rfl d_M_person_79 rfl ?_
        refine MM.iconst ic_5 d_M_person_80 rfl ?_
        obtain ⟨m33, m34⟩ := mm_ifE hf
        refine MM.icmp_ge (tgt := 103) d_M_person_81 rfl rfl (fun c32 => ?_) (fun c32 => ?_)
        · replace hf := m33 c32
          refine MM.iload_n (i := 2) rfl rfl d_M_person_103 rfl ?_
          refine MM.iconst ic_5 d_M_person_104 rfl ?_
          obtain ⟨m23, m24⟩ := mm_ifE hf
          refine MM.icmp_ne (tgt := 122) d_M_person_105 rfl rfl (fun c22 => ?_) (fun c22 => ?_)
          · replace hf := m24 c22
            refine MM.iload_n (i := 2) rfl rfl d_M_person_122 rfl ?_
            refine MM.bipush bp_6 d_M_person_123 rfl ?_
            obtain ⟨m20, m21⟩ := mm_ifE hf
            refine MM.icmp_ne (tgt := 140) d_M_person_125 rfl rfl (fun c19 => ?_) (fun c19 => ?_)
            · replace hf := m21 c19
              refine MM.aload_n (i := 0) rfl rfl d_M_person_140 rfl ?_
              refine MM.iload_n (i := 1) rfl rfl d_M_person_141 rfl ?_
              obtain ⟨v16, e15, hf⟩ := mm_bind hf
              refine MM.callV1 (T_M_net V l x1 h13 _ e15) (fun _ _ q => q) cal_M_net rfl tg_261 ct_9 ww_81 ww_1815 ww_1813 (by decide) (by simp [Value.category]) d_M_person_142 rfl ⟨rfl, rfl⟩ rfl ?_
              obtain rfl := Option.some.inj hf
              subst hZ
              exact MM.iret rfl d_M_person_145 ⟨rfl, rfl⟩
            · replace hf := m20 c19
              refine MM.aload_n (i := 0) rfl rfl d_M_person_128 rfl ?_
              refine MM.gR 9 40 tg_261 rq_9_50 rfl lays_9 ww_1408 d_M_person_129 rfl ?_
              refine MM.bipush bp_79 d_M_person_132 rfl ?_
              refine MM.iload_n (i := 1) rfl rfl d_M_person_134 rfl ?_
              refine MM.iadd d_M_person_135 rfl ?_
              obtain ⟨k17, e18, hf⟩ := mm_bind hf
              refine MM.gI e18 al_301 d_M_person_136 rfl ?_
              refine MM.goto (tgt := 145) d_M_person_137 rfl ?_
              obtain rfl := Option.some.inj hf
              subst hZ
              exact MM.iret rfl d_M_person_145 ⟨rfl, rfl⟩
          · replace hf := m23 c22
            refine MM.aload_n (i := 0) rfl rfl d_M_person_108 rfl ?_
            refine MM.gR 9 40 tg_261 rq_9_50 rfl lays_9 ww_1408 d_M_person_109 rfl ?_
            refine MM.bipush bp_78 d_M_person_112 rfl ?_
            refine MM.gI ix_78_123 al_301 d_M_person_114 rfl ?_
            refine MM.iload_n (i := 1) rfl rfl d_M_person_115 rfl ?_
            refine MM.ishr d_M_person_116 rfl ?_
            refine MM.iconst ic_1 d_M_person_117 rfl ?_
            refine MM.iand d_M_person_118 rfl ?_
            refine MM.goto (tgt := 145) d_M_person_119 rfl ?_
            obtain rfl := Option.some.inj hf
            subst hZ
            exact MM.iret rfl d_M_person_145 ⟨rfl, rfl⟩
        · replace hf := m34 c32
          refine MM.iload_n (i := 2) rfl rfl d_M_person_84 rfl ?_
          refine MM.iconst ic_3 d_M_person_85 rfl ?_
          obtain ⟨m30, m31⟩ := mm_ifE hf
          refine MM.icmp_ne (tgt := 97) d_M_person_86 rfl rfl (fun c29 => ?_) (fun c29 => ?_)
          · replace hf := m31 c29
            refine MM.aload_n (i := 0) rfl rfl d_M_person_97 rfl ?_
            refine MM.iload_n (i := 1) rfl rfl d_M_person_98 rfl ?_
            obtain ⟨v26, e25, hf⟩ := mm_bind hf
            refine MM.callV1 (T_M_purse V l x1 h13 _ e25) (fun _ _ q => q) cal_M_purse rfl tg_261 ct_9 ww_72 ww_1775 ww_1773 (by decide) (by simp [Value.category]) d_M_person_99 rfl ⟨rfl, rfl⟩ rfl ?_
            obtain rfl := Option.some.inj hf
            subst hZ
            exact MM.iret rfl d_M_person_102 ⟨rfl, rfl⟩
          · replace hf := m30 c29
            refine MM.aload_n (i := 0) rfl rfl d_M_person_89 rfl ?_
            refine MM.iload_n (i := 1) rfl rfl d_M_person_90 rfl ?_
            obtain ⟨v28, e27, hf⟩ := mm_bind hf
            refine MM.callV1 (T_M_knownBy V l x1 h13 _ e27) (fun _ _ q => q) cal_M_knownBy rfl tg_261 ct_9 ww_71 ww_1771 ww_1769 (by decide) (by simp [Value.category]) d_M_person_91 rfl ⟨rfl, rfl⟩ rfl ?_
            refine MM.goto (tgt := 102) d_M_person_94 rfl ?_
            obtain rfl := Option.some.inj hf
            subst hZ
            exact MM.iret rfl d_M_person_102 ⟨rfl, rfl⟩
      · replace hf := m49 c47
        refine MM.iload_n (i := 2) rfl rfl d_M_person_42 rfl ?_
        obtain ⟨m45, m46⟩ := mm_ifE hf
        refine MM.if_ne (tgt := 55) d_M_person_43 rfl rfl (fun c44 => ?_) (fun c44 => ?_)
        · replace hf := m46 c44
          refine MM.iload_n (i := 2) rfl rfl d_M_person_55 rfl ?_
          refine MM.iconst ic_1 d_M_person_56 rfl ?_
          obtain ⟨m40, m41⟩ := mm_ifE hf
          refine MM.icmp_ne (tgt := 72) d_M_person_57 rfl rfl (fun c39 => ?_) (fun c39 => ?_)
          · replace hf := m41 c39
            refine MM.aload_n (i := 0) rfl rfl d_M_person_72 rfl ?_
            refine MM.gR 9 7 tg_261 rq_9_15 rfl lays_9 ww_1373 d_M_person_73 rfl ?_
            refine MM.iload_n (i := 1) rfl rfl d_M_person_76 rfl ?_
            obtain ⟨k35, e36, hf⟩ := mm_bind hf
            refine MM.gI e36 al_268 d_M_person_77 rfl ?_
            obtain rfl := Option.some.inj hf
            subst hZ
            exact MM.iret rfl d_M_person_78 ⟨rfl, rfl⟩
          · replace hf := m40 c39
            refine MM.aload_n (i := 0) rfl rfl d_M_person_60 rfl ?_
            refine MM.gR 9 40 tg_261 rq_9_50 rfl lays_9 ww_1408 d_M_person_61 rfl ?_
            refine MM.bipush bp_70 d_M_person_64 rfl ?_
            refine MM.iload_n (i := 1) rfl rfl d_M_person_66 rfl ?_
            refine MM.iadd d_M_person_67 rfl ?_
            obtain ⟨k37, e38, hf⟩ := mm_bind hf
            refine MM.gI e38 al_301 d_M_person_68 rfl ?_
            refine MM.goto (tgt := 78) d_M_person_69 rfl ?_
            obtain rfl := Option.some.inj hf
            subst hZ
            exact MM.iret rfl d_M_person_78 ⟨rfl, rfl⟩
        · replace hf := m45 c44
          refine MM.aload_n (i := 0) rfl rfl d_M_person_46 rfl ?_
          refine MM.gR 9 5 tg_261 rq_9_13 rfl lays_9 ww_1371 d_M_person_47 rfl ?_
          refine MM.iload_n (i := 1) rfl rfl d_M_person_50 rfl ?_
          obtain ⟨k42, e43, hf⟩ := mm_bind hf
          refine MM.gI e43 al_266 d_M_person_51 rfl ?_
          refine MM.goto (tgt := 78) d_M_person_52 rfl ?_
          obtain rfl := Option.some.inj hf
          subst hZ
          exact MM.iret rfl d_M_person_78 ⟨rfl, rfl⟩
    · replace hf := m51 c50
      refine MM.iconst ic_0 d_M_person_35 rfl ?_
      obtain rfl := Option.some.inj hf
      subst hZ
      exact MM.iret rfl d_M_person_36 ⟨rfl, rfl⟩
  clear hf
  have hf := e53
  clear e53
  obtain ⟨m11, m12⟩ := mm_ifE hf
  refine MM.if_eq (tgt := 23) d_M_person_6 rfl rfl (fun c10 => ?_) (fun c10 => ?_)
  · replace hf := m11 c10
    refine MM.iconst ic_1 d_M_person_23 rfl ?_
    obtain rfl := Option.some.inj hf
    exact MM.sub [0, 1, 2] (by rfl) K4
  · replace hf := m12 c10
    refine MM.iload_n (i := 2) rfl rfl d_M_person_9 rfl ?_
    refine MM.iconst ic_0 d_M_person_10 rfl ?_
    refine MM.bipush bp_7 d_M_person_11 rfl ?_
    obtain ⟨v6, e5, hf⟩ := mm_bind hf
    refine MM.callS1 (T_M_within V l x2 0 7 h _ e5) (fun _ _ q => q) cal_M_within rfl ww_1669 ww_1668 (by decide) (by simp [Value.category]) d_M_person_13 rfl ⟨rfl, rfl⟩ rfl ?_
    obtain ⟨m8, m9⟩ := mm_ifE hf
    refine MM.if_eq (tgt := 23) d_M_person_16 rfl rfl (fun c7 => ?_) (fun c7 => ?_)
    · replace hf := m8 c7
      refine MM.iconst ic_1 d_M_person_23 rfl ?_
      obtain rfl := Option.some.inj hf
      exact MM.sub [0, 1, 2] (by rfl) K4
    · replace hf := m9 c7
      refine MM.iconst ic_0 d_M_person_19 rfl ?_
      refine MM.goto (tgt := 24) d_M_person_20 rfl ?_
      obtain rfl := Option.some.inj hf
      exact MM.sub [0, 1, 2] (by rfl) K4
theorem d_M_secret_0 : decode cX12_secret 0 = .ok (.aload_n 0, 1) := by decide +kernel
theorem d_M_secret_1 : decode cX12_secret 1 = .ok (.iconst 0, 1) := by decide +kernel
theorem d_M_secret_2 : decode cX12_secret 2 = .ok (.putfield 175, 3) := by decide +kernel
theorem d_M_secret_5 : decode cX12_secret 5 = .ok (.aload_n 0, 1) := by decide +kernel
theorem d_M_secret_6 : decode cX12_secret 6 = .ok (.iload_n 1, 1) := by decide +kernel
theorem d_M_secret_7 : decode cX12_secret 7 = .ok (.invokevirtual 445, 3) := by decide +kernel
theorem d_M_secret_10 : decode cX12_secret 10 = .ok (.ifCond .eq 13, 3) := by decide +kernel
theorem d_M_secret_13 : decode cX12_secret 13 = .ok (.iload_n 2, 1) := by decide +kernel
theorem d_M_secret_14 : decode cX12_secret 14 = .ok (.iconst 0, 1) := by decide +kernel
theorem d_M_secret_15 : decode cX12_secret 15 = .ok (.bipush 9, 2) := by decide +kernel
theorem d_M_secret_17 : decode cX12_secret 17 = .ok (.invokestatic 308, 3) := by decide +kernel
theorem d_M_secret_20 : decode cX12_secret 20 = .ok (.ifCond .ne 5, 3) := by decide +kernel
theorem d_M_secret_23 : decode cX12_secret 23 = .ok (.iconst (-1), 1) := by decide +kernel
theorem d_M_secret_24 : decode cX12_secret 24 = .ok (.ireturn, 1) := by decide +kernel
theorem d_M_secret_25 : decode cX12_secret 25 = .ok (.iload_n 2, 1) := by decide +kernel
theorem d_M_secret_26 : decode cX12_secret 26 = .ok (.iconst 4, 1) := by decide +kernel
theorem d_M_secret_27 : decode cX12_secret 27 = .ok (.if_icmp .ge 51, 3) := by decide +kernel
theorem d_M_secret_30 : decode cX12_secret 30 = .ok (.iload_n 2, 1) := by decide +kernel
theorem d_M_secret_31 : decode cX12_secret 31 = .ok (.ifCond .ne 12, 3) := by decide +kernel
theorem d_M_secret_34 : decode cX12_secret 34 = .ok (.aload_n 0, 1) := by decide +kernel
theorem d_M_secret_35 : decode cX12_secret 35 = .ok (.getfield 32, 3) := by decide +kernel
theorem d_M_secret_38 : decode cX12_secret 38 = .ok (.iload_n 1, 1) := by decide +kernel
theorem d_M_secret_39 : decode cX12_secret 39 = .ok (.iaload, 1) := by decide +kernel
theorem d_M_secret_40 : decode cX12_secret 40 = .ok (.goto 37, 3) := by decide +kernel
theorem d_M_secret_43 : decode cX12_secret 43 = .ok (.iload_n 2, 1) := by decide +kernel
theorem d_M_secret_44 : decode cX12_secret 44 = .ok (.iconst 1, 1) := by decide +kernel
theorem d_M_secret_45 : decode cX12_secret 45 = .ok (.if_icmp .ne 12, 3) := by decide +kernel
theorem d_M_secret_48 : decode cX12_secret 48 = .ok (.aload_n 0, 1) := by decide +kernel
theorem d_M_secret_49 : decode cX12_secret 49 = .ok (.getfield 35, 3) := by decide +kernel
theorem d_M_secret_52 : decode cX12_secret 52 = .ok (.iload_n 1, 1) := by decide +kernel
theorem d_M_secret_53 : decode cX12_secret 53 = .ok (.iaload, 1) := by decide +kernel
theorem d_M_secret_54 : decode cX12_secret 54 = .ok (.goto 23, 3) := by decide +kernel
theorem d_M_secret_57 : decode cX12_secret 57 = .ok (.iload_n 2, 1) := by decide +kernel
theorem d_M_secret_58 : decode cX12_secret 58 = .ok (.iconst 2, 1) := by decide +kernel
theorem d_M_secret_59 : decode cX12_secret 59 = .ok (.if_icmp .ne 12, 3) := by decide +kernel
theorem d_M_secret_62 : decode cX12_secret 62 = .ok (.aload_n 0, 1) := by decide +kernel
theorem d_M_secret_63 : decode cX12_secret 63 = .ok (.getfield 38, 3) := by decide +kernel
theorem d_M_secret_66 : decode cX12_secret 66 = .ok (.iload_n 1, 1) := by decide +kernel
theorem d_M_secret_67 : decode cX12_secret 67 = .ok (.iaload, 1) := by decide +kernel
theorem d_M_secret_68 : decode cX12_secret 68 = .ok (.goto 9, 3) := by decide +kernel
theorem d_M_secret_71 : decode cX12_secret 71 = .ok (.aload_n 0, 1) := by decide +kernel
theorem d_M_secret_72 : decode cX12_secret 72 = .ok (.getfield 41, 3) := by decide +kernel
theorem d_M_secret_75 : decode cX12_secret 75 = .ok (.iload_n 1, 1) := by decide +kernel
theorem d_M_secret_76 : decode cX12_secret 76 = .ok (.iaload, 1) := by decide +kernel
theorem d_M_secret_77 : decode cX12_secret 77 = .ok (.ireturn, 1) := by decide +kernel
theorem d_M_secret_78 : decode cX12_secret 78 = .ok (.iload_n 2, 1) := by decide +kernel
theorem d_M_secret_79 : decode cX12_secret 79 = .ok (.bipush 7, 2) := by decide +kernel
theorem d_M_secret_81 : decode cX12_secret 81 = .ok (.if_icmp .ge 41, 3) := by decide +kernel
theorem d_M_secret_84 : decode cX12_secret 84 = .ok (.iload_n 2, 1) := by decide +kernel
theorem d_M_secret_85 : decode cX12_secret 85 = .ok (.iconst 4, 1) := by decide +kernel
theorem d_M_secret_86 : decode cX12_secret 86 = .ok (.if_icmp .ne 12, 3) := by decide +kernel
theorem d_M_secret_89 : decode cX12_secret 89 = .ok (.aload_n 0, 1) := by decide +kernel
theorem d_M_secret_90 : decode cX12_secret 90 = .ok (.getfield 129, 3) := by decide +kernel
theorem d_M_secret_93 : decode cX12_secret 93 = .ok (.iload_n 1, 1) := by decide +kernel
theorem d_M_secret_94 : decode cX12_secret 94 = .ok (.iaload, 1) := by decide +kernel
theorem d_M_secret_95 : decode cX12_secret 95 = .ok (.goto 26, 3) := by decide +kernel
theorem d_M_secret_98 : decode cX12_secret 98 = .ok (.iload_n 2, 1) := by decide +kernel
theorem d_M_secret_99 : decode cX12_secret 99 = .ok (.iconst 5, 1) := by decide +kernel
theorem d_M_secret_100 : decode cX12_secret 100 = .ok (.if_icmp .ne 16, 3) := by decide +kernel
theorem d_M_secret_103 : decode cX12_secret 103 = .ok (.aload_n 0, 1) := by decide +kernel
theorem d_M_secret_104 : decode cX12_secret 104 = .ok (.aload_n 0, 1) := by decide +kernel
theorem d_M_secret_105 : decode cX12_secret 105 = .ok (.getfield 129, 3) := by decide +kernel
theorem d_M_secret_108 : decode cX12_secret 108 = .ok (.iload_n 1, 1) := by decide +kernel
theorem d_M_secret_109 : decode cX12_secret 109 = .ok (.iaload, 1) := by decide +kernel
theorem d_M_secret_110 : decode cX12_secret 110 = .ok (.invokevirtual 408, 3) := by decide +kernel
theorem d_M_secret_113 : decode cX12_secret 113 = .ok (.goto 8, 3) := by decide +kernel
theorem d_M_secret_116 : decode cX12_secret 116 = .ok (.aload_n 0, 1) := by decide +kernel
theorem d_M_secret_117 : decode cX12_secret 117 = .ok (.iload_n 1, 1) := by decide +kernel
theorem d_M_secret_118 : decode cX12_secret 118 = .ok (.invokevirtual 427, 3) := by decide +kernel
theorem d_M_secret_121 : decode cX12_secret 121 = .ok (.ireturn, 1) := by decide +kernel
theorem d_M_secret_122 : decode cX12_secret 122 = .ok (.iload_n 2, 1) := by decide +kernel
theorem d_M_secret_123 : decode cX12_secret 123 = .ok (.bipush 9, 2) := by decide +kernel
theorem d_M_secret_125 : decode cX12_secret 125 = .ok (.if_icmp .ne 12, 3) := by decide +kernel
theorem d_M_secret_128 : decode cX12_secret 128 = .ok (.aload_n 0, 1) := by decide +kernel
theorem d_M_secret_129 : decode cX12_secret 129 = .ok (.getfield 47, 3) := by decide +kernel
theorem d_M_secret_132 : decode cX12_secret 132 = .ok (.iload_n 1, 1) := by decide +kernel
theorem d_M_secret_133 : decode cX12_secret 133 = .ok (.iaload, 1) := by decide +kernel
theorem d_M_secret_134 : decode cX12_secret 134 = .ok (.goto 25, 3) := by decide +kernel
theorem d_M_secret_137 : decode cX12_secret 137 = .ok (.aload_n 0, 1) := by decide +kernel
theorem d_M_secret_138 : decode cX12_secret 138 = .ok (.getfield 129, 3) := by decide +kernel
theorem d_M_secret_141 : decode cX12_secret 141 = .ok (.iload_n 2, 1) := by decide +kernel
theorem d_M_secret_142 : decode cX12_secret 142 = .ok (.bipush 7, 2) := by decide +kernel
theorem d_M_secret_144 : decode cX12_secret 144 = .ok (.if_icmp .ne 8, 3) := by decide +kernel
theorem d_M_secret_147 : decode cX12_secret 147 = .ok (.bipush 76, 2) := by decide +kernel
theorem d_M_secret_149 : decode cX12_secret 149 = .ok (.goto 5, 3) := by decide +kernel
theorem d_M_secret_152 : decode cX12_secret 152 = .ok (.bipush 77, 2) := by decide +kernel
theorem d_M_secret_154 : decode cX12_secret 154 = .ok (.iaload, 1) := by decide +kernel
theorem d_M_secret_155 : decode cX12_secret 155 = .ok (.iload_n 1, 1) := by decide +kernel
theorem d_M_secret_156 : decode cX12_secret 156 = .ok (.ishr, 1) := by decide +kernel
theorem d_M_secret_157 : decode cX12_secret 157 = .ok (.iconst 1, 1) := by decide +kernel
theorem d_M_secret_158 : decode cX12_secret 158 = .ok (.iand, 1) := by decide +kernel
theorem d_M_secret_159 : decode cX12_secret 159 = .ok (.ireturn, 1) := by decide +kernel
noncomputable def f_M_secret (x1 : Int32) (x2 : Int32) (h : mm_H) : Option (Int32 × mm_H) := mm_let (mm_pI h 261 0 0) fun h1 => (f_M_isSecret x1 h1).bind fun v4 => if v4 = 0 then (some ((-1), h1)) else ((f_M_within x2 0 9).bind fun v6 => if v6 = 0 then (some ((-1), h1)) else (if 4 ≤ x2 then (if 7 ≤ x2 then (if x2 = 9 then ((mm_ix x1 20).bind fun k15 => some ((h1.1 274 k15), h1)) else ((if x2 = 7 then (some 76) else (some 77) : Option Int32).bind fun j7 => (mm_ix j7 123).bind fun k12 => some ((((h1.1 301 k12) >>> (x1 &&& 31)) &&& 1), h1))) else (if x2 = 4 then ((mm_ix x1 123).bind fun k29 => some ((h1.1 301 k29), h1)) else (if x2 = 5 then ((mm_ix x1 123).bind fun k22 => (f_M_knowersOf (h1.1 301 k22) h1).bind fun v25 => some (v25, h1)) else ((f_M_worthOf x1 h1).bind fun v21 => some (v21.1, v21.2))))) else (if x2 = 0 then ((mm_ix x1 20).bind fun k49 => some ((h1.1 269 k49), h1)) else (if x2 = 1 then ((mm_ix x1 20).bind fun k44 => some ((h1.1 270 k44), h1)) else (if x2 = 2 then ((mm_ix x1 20).bind fun k39 => some ((h1.1 271 k39), h1)) else ((mm_ix x1 20).bind fun k37 => some ((h1.1 272 k37), h1)))))))
theorem T_M_secret (V : mm_V) (l : Launch) (x1 : Int32) (x2 : Int32) (h : mm_H) (r : (Int32 × mm_H)) (hf : f_M_secret x1 x2 h = some r) : MT V l Y_M_secret 18 [.ref 261, .int x1, .int x2] (fun r1 h1 => r1 = some (.int r.1) ∧ h1 = r.2) h := by
  unfold f_M_secret at hf
  refine MT.intro (pn_M rfl) [(0, .ref 261), (1, .int x1), (2, .int x2)] rfl (Nat.le_of_ble_eq_true rfl) ?_
  generalize hZ : mm_Z V _ = Z0
  refine MM.aload_n (i := 0) rfl rfl d_M_secret_0 rfl ?_
  refine MM.iconst ic_0 d_M_secret_1 rfl ?_
  obtain ⟨h1, e2, hf⟩ := mm_letE hf
  refine MM.putI e2 9 tg_261 lays_9 toks_9 pq_9_0 ww_1358 d_M_secret_2 rfl ?_
  refine MM.aload_n (i := 0) rfl rfl d_M_secret_5 rfl ?_
  refine MM.iload_n (i := 1) rfl rfl d_M_secret_6 rfl ?_
  obtain ⟨v4, e3, hf⟩ := mm_bind hf
  refine MM.callV1 (T_M_isSecret V l x1 h1 _ e3) (fun _ _ q => q) cal_M_isSecret rfl tg_261 ct_9 ww_82 ww_1823 ww_1821 (by decide) (by simp [Value.category]) d_M_secret_7 rfl ⟨rfl, rfl⟩ rfl ?_
  obtain ⟨m61, m62⟩ := mm_ifE hf
  refine MM.if_eq (tgt := 23) d_M_secret_10 rfl rfl (fun c60 => ?_) (fun c60 => ?_)
  · replace hf := m61 c60
    refine MM.iconst ic_m1 d_M_secret_23 rfl ?_
    obtain rfl := Option.some.inj hf
    subst hZ
    exact MM.iret rfl d_M_secret_24 ⟨rfl, rfl⟩
  · replace hf := m62 c60
    refine MM.iload_n (i := 2) rfl rfl d_M_secret_13 rfl ?_
    refine MM.iconst ic_0 d_M_secret_14 rfl ?_
    refine MM.bipush bp_9 d_M_secret_15 rfl ?_
    obtain ⟨v6, e5, hf⟩ := mm_bind hf
    refine MM.callS1 (T_M_within V l x2 0 9 h1 _ e5) (fun _ _ q => q) cal_M_within rfl ww_1669 ww_1668 (by decide) (by simp [Value.category]) d_M_secret_17 rfl ⟨rfl, rfl⟩ rfl ?_
    obtain ⟨m58, m59⟩ := mm_ifE hf
    refine MM.if_ne (tgt := 25) d_M_secret_20 rfl rfl (fun c57 => ?_) (fun c57 => ?_)
    · replace hf := m59 c57
      refine MM.iload_n (i := 2) rfl rfl d_M_secret_25 rfl ?_
      refine MM.iconst ic_4 d_M_secret_26 rfl ?_
      obtain ⟨m55, m56⟩ := mm_ifE hf
      refine MM.icmp_ge (tgt := 78) d_M_secret_27 rfl rfl (fun c54 => ?_) (fun c54 => ?_)
      · replace hf := m55 c54
        refine MM.iload_n (i := 2) rfl rfl d_M_secret_78 rfl ?_
        refine MM.bipush bp_7 d_M_secret_79 rfl ?_
        obtain ⟨m35, m36⟩ := mm_ifE hf
        refine MM.icmp_ge (tgt := 122) d_M_secret_81 rfl rfl (fun c34 => ?_) (fun c34 => ?_)
        · replace hf := m35 c34
          refine MM.iload_n (i := 2) rfl rfl d_M_secret_122 rfl ?_
          refine MM.bipush bp_9 d_M_secret_123 rfl ?_
          obtain ⟨m18, m19⟩ := mm_ifE hf
          refine MM.icmp_ne (tgt := 137) d_M_secret_125 rfl rfl (fun c17 => ?_) (fun c17 => ?_)
          · replace hf := m19 c17
            refine MM.aload_n (i := 0) rfl rfl d_M_secret_137 rfl ?_
            refine MM.gR 9 40 tg_261 rq_9_50 rfl lays_9 ww_1408 d_M_secret_138 rfl ?_
            refine MM.iload_n (i := 2) rfl rfl d_M_secret_141 rfl ?_
            refine MM.bipush bp_7 d_M_secret_142 rfl ?_
            obtain ⟨j7, e14, hf⟩ := mm_bind hf
            have K8 : MM V l Y_M_secret 18 0 0 Z0 154 [(1, .int x1)] [.int j7, .ref 301] h1 := by
              obtain ⟨k12, e13, hf⟩ := mm_bind hf
              refine MM.gI e13 al_301 d_M_secret_154 rfl ?_
              refine MM.iload_n (i := 1) rfl rfl d_M_secret_155 rfl ?_
              refine MM.ishr d_M_secret_156 rfl ?_
              refine MM.iconst ic_1 d_M_secret_157 rfl ?_
              refine MM.iand d_M_secret_158 rfl ?_
              obtain rfl := Option.some.inj hf
              subst hZ
              exact MM.iret rfl d_M_secret_159 ⟨rfl, rfl⟩
            clear hf
            have hf := e14
            clear e14
            obtain ⟨m10, m11⟩ := mm_ifE hf
            refine MM.icmp_ne (tgt := 152) d_M_secret_144 rfl rfl (fun c9 => ?_) (fun c9 => ?_)
            · replace hf := m11 c9
              refine MM.bipush bp_77 d_M_secret_152 rfl ?_
              obtain rfl := Option.some.inj hf
              exact MM.sub [1] (by rfl) K8
            · replace hf := m10 c9
              refine MM.bipush bp_76 d_M_secret_147 rfl ?_
              refine MM.goto (tgt := 154) d_M_secret_149 rfl ?_
              obtain rfl := Option.some.inj hf
              exact MM.sub [1] (by rfl) K8
          · replace hf := m18 c17
            refine MM.aload_n (i := 0) rfl rfl d_M_secret_128 rfl ?_
            refine MM.gR 9 13 tg_261 rq_9_21 rfl lays_9 ww_1379 d_M_secret_129 rfl ?_
            refine MM.iload_n (i := 1) rfl rfl d_M_secret_132 rfl ?_
            obtain ⟨k15, e16, hf⟩ := mm_bind hf
            refine MM.gI e16 al_274 d_M_secret_133 rfl ?_
            refine MM.goto (tgt := 159) d_M_secret_134 rfl ?_
            obtain rfl := Option.some.inj hf
            subst hZ
            exact MM.iret rfl d_M_secret_159 ⟨rfl, rfl⟩
        · replace hf := m36 c34
          refine MM.iload_n (i := 2) rfl rfl d_M_secret_84 rfl ?_
          refine MM.iconst ic_4 d_M_secret_85 rfl ?_
          obtain ⟨m32, m33⟩ := mm_ifE hf
          refine MM.icmp_ne (tgt := 98) d_M_secret_86 rfl rfl (fun c31 => ?_) (fun c31 => ?_)
          · replace hf := m33 c31
            refine MM.iload_n (i := 2) rfl rfl d_M_secret_98 rfl ?_
            refine MM.iconst ic_5 d_M_secret_99 rfl ?_
            obtain ⟨m27, m28⟩ := mm_ifE hf
            refine MM.icmp_ne (tgt := 116) d_M_secret_100 rfl rfl (fun c26 => ?_) (fun c26 => ?_)
            · replace hf := m28 c26
              refine MM.aload_n (i := 0) rfl rfl d_M_secret_116 rfl ?_
              refine MM.iload_n (i := 1) rfl rfl d_M_secret_117 rfl ?_
              obtain ⟨v21, e20, hf⟩ := mm_bind hf
              refine MM.callV1 (T_M_worthOf V l x1 h1 _ e20) (fun _ _ q => q) cal_M_worthOf rfl tg_261 ct_9 ww_74 ww_1783 ww_1781 (by decide) (by simp [Value.category]) d_M_secret_118 rfl ⟨rfl, rfl⟩ rfl ?_
              obtain rfl := Option.some.inj hf
              subst hZ
              exact MM.iret rfl d_M_secret_121 ⟨rfl, rfl⟩
            · replace hf := m27 c26
              refine MM.aload_n (i := 0) rfl rfl d_M_secret_103 rfl ?_
              refine MM.aload_n (i := 0) rfl rfl d_M_secret_104 rfl ?_
              refine MM.gR 9 40 tg_261 rq_9_50 rfl lays_9 ww_1408 d_M_secret_105 rfl ?_
              refine MM.iload_n (i := 1) rfl rfl d_M_secret_108 rfl ?_
              obtain ⟨k22, e23, hf⟩ := mm_bind hf
              refine MM.gI e23 al_301 d_M_secret_109 rfl ?_
              obtain ⟨v25, e24, hf⟩ := mm_bind hf
              refine MM.callV1 (T_M_knowersOf V l (h1.1 301 k22) h1 _ e24) (fun _ _ q => q) cal_M_knowersOf rfl tg_261 ct_9 ww_76 ww_1791 ww_1789 (by decide) (by simp [Value.category]) d_M_secret_110 rfl ⟨rfl, rfl⟩ rfl ?_
              refine MM.goto (tgt := 121) d_M_secret_113 rfl ?_
              obtain rfl := Option.some.inj hf
              subst hZ
              exact MM.iret rfl d_M_secret_121 ⟨rfl, rfl⟩
          · replace hf := m32 c31
            refine MM.aload_n (i := 0) rfl rfl d_M_secret_89 rfl ?_
            refine MM.gR 9 40 tg_261 rq_9_50 rfl lays_9 ww_1408 d_M_secret_90 rfl ?_
            refine MM.iload_n (i := 1) rfl rfl d_M_secret_93 rfl ?_
            obtain ⟨k29, e30, hf⟩ := mm_bind hf
            refine MM.gI e30 al_301 d_M_secret_94 rfl ?_
            refine MM.goto (tgt := 121) d_M_secret_95 rfl ?_
            obtain rfl := Option.some.inj hf
            subst hZ
            exact MM.iret rfl d_M_secret_121 ⟨rfl, rfl⟩
      · replace hf := m56 c54
        refine MM.iload_n (i := 2) rfl rfl d_M_secret_30 rfl ?_
        obtain ⟨m52, m53⟩ := mm_ifE hf
        refine MM.if_ne (tgt := 43) d_M_secret_31 rfl rfl (fun c51 => ?_) (fun c51 => ?_)
        · replace hf := m53 c51
          refine MM.iload_n (i := 2) rfl rfl d_M_secret_43 rfl ?_
          refine MM.iconst ic_1 d_M_secret_44 rfl ?_
          obtain ⟨m47, m48⟩ := mm_ifE hf
          refine MM.icmp_ne (tgt := 57) d_M_secret_45 rfl rfl (fun c46 => ?_) (fun c46 => ?_)
          · replace hf := m48 c46
            refine MM.iload_n (i := 2) rfl rfl d_M_secret_57 rfl ?_
            refine MM.iconst ic_2 d_M_secret_58 rfl ?_
            obtain ⟨m42, m43⟩ := mm_ifE hf
            refine MM.icmp_ne (tgt := 71) d_M_secret_59 rfl rfl (fun c41 => ?_) (fun c41 => ?_)
            · replace hf := m43 c41
              refine MM.aload_n (i := 0) rfl rfl d_M_secret_71 rfl ?_
              refine MM.gR 9 11 tg_261 rq_9_19 rfl lays_9 ww_1377 d_M_secret_72 rfl ?_
              refine MM.iload_n (i := 1) rfl rfl d_M_secret_75 rfl ?_
              obtain ⟨k37, e38, hf⟩ := mm_bind hf
              refine MM.gI e38 al_272 d_M_secret_76 rfl ?_
              obtain rfl := Option.some.inj hf
              subst hZ
              exact MM.iret rfl d_M_secret_77 ⟨rfl, rfl⟩
            · replace hf := m42 c41
              refine MM.aload_n (i := 0) rfl rfl d_M_secret_62 rfl ?_
              refine MM.gR 9 10 tg_261 rq_9_18 rfl lays_9 ww_1376 d_M_secret_63 rfl ?_
              refine MM.iload_n (i := 1) rfl rfl d_M_secret_66 rfl ?_
              obtain ⟨k39, e40, hf⟩ := mm_bind hf
              refine MM.gI e40 al_271 d_M_secret_67 rfl ?_
              refine MM.goto (tgt := 77) d_M_secret_68 rfl ?_
              obtain rfl := Option.some.inj hf
              subst hZ
              exact MM.iret rfl d_M_secret_77 ⟨rfl, rfl⟩
          · replace hf := m47 c46
            refine MM.aload_n (i := 0) rfl rfl d_M_secret_48 rfl ?_
            refine MM.gR 9 9 tg_261 rq_9_17 rfl lays_9 ww_1375 d_M_secret_49 rfl ?_
            refine MM.iload_n (i := 1) rfl rfl d_M_secret_52 rfl ?_
            obtain ⟨k44, e45, hf⟩ := mm_bind hf
            refine MM.gI e45 al_270 d_M_secret_53 rfl ?_
            refine MM.goto (tgt := 77) d_M_secret_54 rfl ?_
            obtain rfl := Option.some.inj hf
            subst hZ
            exact MM.iret rfl d_M_secret_77 ⟨rfl, rfl⟩
        · replace hf := m52 c51
          refine MM.aload_n (i := 0) rfl rfl d_M_secret_34 rfl ?_
          refine MM.gR 9 8 tg_261 rq_9_16 rfl lays_9 ww_1374 d_M_secret_35 rfl ?_
          refine MM.iload_n (i := 1) rfl rfl d_M_secret_38 rfl ?_
          obtain ⟨k49, e50, hf⟩ := mm_bind hf
          refine MM.gI e50 al_269 d_M_secret_39 rfl ?_
          refine MM.goto (tgt := 77) d_M_secret_40 rfl ?_
          obtain rfl := Option.some.inj hf
          subst hZ
          exact MM.iret rfl d_M_secret_77 ⟨rfl, rfl⟩
    · replace hf := m58 c57
      refine MM.iconst ic_m1 d_M_secret_23 rfl ?_
      obtain rfl := Option.some.inj hf
      subst hZ
      exact MM.iret rfl d_M_secret_24 ⟨rfl, rfl⟩
theorem d_M_areTwo_0 : decode cX12_areTwo 0 = .ok (.aload_n 0, 1) := by decide +kernel
theorem d_M_areTwo_1 : decode cX12_areTwo 1 = .ok (.iload_n 1, 1) := by decide +kernel
theorem d_M_areTwo_2 : decode cX12_areTwo 2 = .ok (.invokevirtual 436, 3) := by decide +kernel
theorem d_M_areTwo_5 : decode cX12_areTwo 5 = .ok (.ifCond .eq 20, 3) := by decide +kernel
theorem d_M_areTwo_8 : decode cX12_areTwo 8 = .ok (.aload_n 0, 1) := by decide +kernel
theorem d_M_areTwo_9 : decode cX12_areTwo 9 = .ok (.iload_n 2, 1) := by decide +kernel
theorem d_M_areTwo_10 : decode cX12_areTwo 10 = .ok (.invokevirtual 436, 3) := by decide +kernel
theorem d_M_areTwo_13 : decode cX12_areTwo 13 = .ok (.ifCond .eq 12, 3) := by decide +kernel
theorem d_M_areTwo_16 : decode cX12_areTwo 16 = .ok (.iload_n 1, 1) := by decide +kernel
theorem d_M_areTwo_17 : decode cX12_areTwo 17 = .ok (.iload_n 2, 1) := by decide +kernel
theorem d_M_areTwo_18 : decode cX12_areTwo 18 = .ok (.if_icmp .eq 7, 3) := by decide +kernel
theorem d_M_areTwo_21 : decode cX12_areTwo 21 = .ok (.iconst 1, 1) := by decide +kernel
theorem d_M_areTwo_22 : decode cX12_areTwo 22 = .ok (.goto 4, 3) := by decide +kernel
theorem d_M_areTwo_25 : decode cX12_areTwo 25 = .ok (.iconst 0, 1) := by decide +kernel
theorem d_M_areTwo_26 : decode cX12_areTwo 26 = .ok (.ireturn, 1) := by decide +kernel
noncomputable def f_M_areTwo (x1 : Int32) (x2 : Int32) (h : mm_H) : Option Int32 := (f_M_isPerson x1 h).bind fun v2 => if v2 = 0 then (some 0) else ((f_M_isPerson x2 h).bind fun v4 => if v4 = 0 then (some 0) else (if x1 = x2 then (some 0) else (some 1)))
theorem T_M_areTwo (V : mm_V) (l : Launch) (x1 : Int32) (x2 : Int32) (h : mm_H) (r : Int32) (hf : f_M_areTwo x1 x2 h = some r) : MT V l Y_M_areTwo 2 [.ref 261, .int x1, .int x2] (fun r1 h1 => r1 = some (.int r) ∧ h1 = h) h := by
  unfold f_M_areTwo at hf
  refine MT.intro (pn_M rfl) [(0, .ref 261), (1, .int x1), (2, .int x2)] rfl (Nat.le_of_ble_eq_true rfl) ?_
  generalize hZ : mm_Z V _ = Z0
  refine MM.aload_n (i := 0) rfl rfl d_M_areTwo_0 rfl ?_
  refine MM.iload_n (i := 1) rfl rfl d_M_areTwo_1 rfl ?_
  obtain ⟨v2, e1, hf⟩ := mm_bind hf
  refine MM.callV1 (T_M_isPerson V l x1 h _ e1) (fun _ _ q => q) cal_M_isPerson rfl tg_261 ct_9 ww_70 ww_1767 ww_1765 (by decide) (by simp [Value.category]) d_M_areTwo_2 rfl ⟨rfl, rfl⟩ rfl ?_
  obtain ⟨m12, m13⟩ := mm_ifE hf
  refine MM.if_eq (tgt := 25) d_M_areTwo_5 rfl rfl (fun c11 => ?_) (fun c11 => ?_)
  · replace hf := m12 c11
    refine MM.iconst ic_0 d_M_areTwo_25 rfl ?_
    obtain rfl := Option.some.inj hf
    subst hZ
    exact MM.zret (Or.inl rfl) rfl d_M_areTwo_26 ⟨rfl, rfl⟩
  · replace hf := m13 c11
    refine MM.aload_n (i := 0) rfl rfl d_M_areTwo_8 rfl ?_
    refine MM.iload_n (i := 2) rfl rfl d_M_areTwo_9 rfl ?_
    obtain ⟨v4, e3, hf⟩ := mm_bind hf
    refine MM.callV1 (T_M_isPerson V l x2 h _ e3) (fun _ _ q => q) cal_M_isPerson rfl tg_261 ct_9 ww_70 ww_1767 ww_1765 (by decide) (by simp [Value.category]) d_M_areTwo_10 rfl ⟨rfl, rfl⟩ rfl ?_
    obtain ⟨m9, m10⟩ := mm_ifE hf
    refine MM.if_eq (tgt := 25) d_M_areTwo_13 rfl rfl (fun c8 => ?_) (fun c8 => ?_)
    · replace hf := m9 c8
      refine MM.iconst ic_0 d_M_areTwo_25 rfl ?_
      obtain rfl := Option.some.inj hf
      subst hZ
      exact MM.zret (Or.inl rfl) rfl d_M_areTwo_26 ⟨rfl, rfl⟩
    · replace hf := m10 c8
      refine MM.iload_n (i := 1) rfl rfl d_M_areTwo_16 rfl ?_
      refine MM.iload_n (i := 2) rfl rfl d_M_areTwo_17 rfl ?_
      obtain ⟨m6, m7⟩ := mm_ifE hf
      refine MM.icmp_eq (tgt := 25) d_M_areTwo_18 rfl rfl (fun c5 => ?_) (fun c5 => ?_)
      · replace hf := m6 c5
        refine MM.iconst ic_0 d_M_areTwo_25 rfl ?_
        obtain rfl := Option.some.inj hf
        subst hZ
        exact MM.zret (Or.inl rfl) rfl d_M_areTwo_26 ⟨rfl, rfl⟩
      · replace hf := m7 c5
        refine MM.iconst ic_1 d_M_areTwo_21 rfl ?_
        refine MM.goto (tgt := 26) d_M_areTwo_22 rfl ?_
        obtain rfl := Option.some.inj hf
        subst hZ
        exact MM.zret (Or.inr rfl) rfl d_M_areTwo_26 ⟨rfl, rfl⟩
theorem d_M_aware_0 : decode cX12_aware 0 = .ok (.aload_n 0, 1) := by decide +kernel
theorem d_M_aware_1 : decode cX12_aware 1 = .ok (.iconst 0, 1) := by decide +kernel
theorem d_M_aware_2 : decode cX12_aware 2 = .ok (.putfield 175, 3) := by decide +kernel
theorem d_M_aware_5 : decode cX12_aware 5 = .ok (.aload_n 0, 1) := by decide +kernel
theorem d_M_aware_6 : decode cX12_aware 6 = .ok (.iload_n 1, 1) := by decide +kernel
theorem d_M_aware_7 : decode cX12_aware 7 = .ok (.iload_n 2, 1) := by decide +kernel
theorem d_M_aware_8 : decode cX12_aware 8 = .ok (.invokevirtual 448, 3) := by decide +kernel
theorem d_M_aware_11 : decode cX12_aware 11 = .ok (.ifCond .eq 32, 3) := by decide +kernel
theorem d_M_aware_14 : decode cX12_aware 14 = .ok (.aload_n 0, 1) := by decide +kernel
theorem d_M_aware_15 : decode cX12_aware 15 = .ok (.iload_n 3, 1) := by decide +kernel
theorem d_M_aware_16 : decode cX12_aware 16 = .ok (.invokevirtual 445, 3) := by decide +kernel
theorem d_M_aware_19 : decode cX12_aware 19 = .ok (.ifCond .eq 24, 3) := by decide +kernel
theorem d_M_aware_22 : decode cX12_aware 22 = .ok (.aload_n 0, 1) := by decide +kernel
theorem d_M_aware_23 : decode cX12_aware 23 = .ok (.getfield 129, 3) := by decide +kernel
theorem d_M_aware_26 : decode cX12_aware 26 = .ok (.bipush 10, 2) := by decide +kernel
theorem d_M_aware_28 : decode cX12_aware 28 = .ok (.bipush 10, 2) := by decide +kernel
theorem d_M_aware_30 : decode cX12_aware 30 = .ok (.iload_n 1, 1) := by decide +kernel
theorem d_M_aware_31 : decode cX12_aware 31 = .ok (.imul, 1) := by decide +kernel
theorem d_M_aware_32 : decode cX12_aware 32 = .ok (.iadd, 1) := by decide +kernel
theorem d_M_aware_33 : decode cX12_aware 33 = .ok (.iload_n 3, 1) := by decide +kernel
theorem d_M_aware_34 : decode cX12_aware 34 = .ok (.iadd, 1) := by decide +kernel
theorem d_M_aware_35 : decode cX12_aware 35 = .ok (.iaload, 1) := by decide +kernel
theorem d_M_aware_36 : decode cX12_aware 36 = .ok (.iload_n 2, 1) := by decide +kernel
theorem d_M_aware_37 : decode cX12_aware 37 = .ok (.ishr, 1) := by decide +kernel
theorem d_M_aware_38 : decode cX12_aware 38 = .ok (.iconst 1, 1) := by decide +kernel
theorem d_M_aware_39 : decode cX12_aware 39 = .ok (.iand, 1) := by decide +kernel
theorem d_M_aware_40 : decode cX12_aware 40 = .ok (.goto 4, 3) := by decide +kernel
theorem d_M_aware_43 : decode cX12_aware 43 = .ok (.iconst (-1), 1) := by decide +kernel
theorem d_M_aware_44 : decode cX12_aware 44 = .ok (.ireturn, 1) := by decide +kernel
noncomputable def f_M_aware (x1 : Int32) (x2 : Int32) (x3 : Int32) (h : mm_H) : Option (Int32 × mm_H) := mm_let (mm_pI h 261 0 0) fun h1 => (f_M_areTwo x1 x2 h1).bind fun v4 => if v4 = 0 then (some ((-1), h1)) else ((f_M_isSecret x3 h1).bind fun v6 => if v6 = 0 then (some ((-1), h1)) else ((mm_ix ((10 + (10 * x1)) + x3) 123).bind fun k7 => some ((((h1.1 301 k7) >>> (x2 &&& 31)) &&& 1), h1)))
theorem T_M_aware (V : mm_V) (l : Launch) (x1 : Int32) (x2 : Int32) (x3 : Int32) (h : mm_H) (r : (Int32 × mm_H)) (hf : f_M_aware x1 x2 x3 h = some r) : MT V l Y_M_aware 3 [.ref 261, .int x1, .int x2, .int x3] (fun r1 h1 => r1 = some (.int r.1) ∧ h1 = r.2) h := by
  unfold f_M_aware at hf
  refine MT.intro (pn_M rfl) [(0, .ref 261), (1, .int x1), (2, .int x2), (3, .int x3)] rfl (Nat.le_of_ble_eq_true rfl) ?_
  generalize hZ : mm_Z V _ = Z0
  refine MM.aload_n (i := 0) rfl rfl d_M_aware_0 rfl ?_
  refine MM.iconst ic_0 d_M_aware_1 rfl ?_
  obtain ⟨h1, e2, hf⟩ := mm_letE hf
  refine MM.putI e2 9 tg_261 lays_9 toks_9 pq_9_0 ww_1358 d_M_aware_2 rfl ?_
  refine MM.aload_n (i := 0) rfl rfl d_M_aware_5 rfl ?_
  refine MM.iload_n (i := 1) rfl rfl d_M_aware_6 rfl ?_
  refine MM.iload_n (i := 2) rfl rfl d_M_aware_7 rfl ?_
  obtain ⟨v4, e3, hf⟩ := mm_bind hf
  refine MM.callV1 (T_M_areTwo V l x1 x2 h1 _ e3) (fun _ _ q => q) cal_M_areTwo rfl tg_261 ct_9 ww_83 ww_1831 ww_1829 (by decide) (by simp [Value.category]) d_M_aware_8 rfl ⟨rfl, rfl⟩ rfl ?_
  obtain ⟨m13, m14⟩ := mm_ifE hf
  refine MM.if_eq (tgt := 43) d_M_aware_11 rfl rfl (fun c12 => ?_) (fun c12 => ?_)
  · replace hf := m13 c12
    refine MM.iconst ic_m1 d_M_aware_43 rfl ?_
    obtain rfl := Option.some.inj hf
    subst hZ
    exact MM.iret rfl d_M_aware_44 ⟨rfl, rfl⟩
  · replace hf := m14 c12
    refine MM.aload_n (i := 0) rfl rfl d_M_aware_14 rfl ?_
    refine MM.iload_n (i := 3) rfl rfl d_M_aware_15 rfl ?_
    obtain ⟨v6, e5, hf⟩ := mm_bind hf
    refine MM.callV1 (T_M_isSecret V l x3 h1 _ e5) (fun _ _ q => q) cal_M_isSecret rfl tg_261 ct_9 ww_82 ww_1823 ww_1821 (by decide) (by simp [Value.category]) d_M_aware_16 rfl ⟨rfl, rfl⟩ rfl ?_
    obtain ⟨m10, m11⟩ := mm_ifE hf
    refine MM.if_eq (tgt := 43) d_M_aware_19 rfl rfl (fun c9 => ?_) (fun c9 => ?_)
    · replace hf := m10 c9
      refine MM.iconst ic_m1 d_M_aware_43 rfl ?_
      obtain rfl := Option.some.inj hf
      subst hZ
      exact MM.iret rfl d_M_aware_44 ⟨rfl, rfl⟩
    · replace hf := m11 c9
      refine MM.aload_n (i := 0) rfl rfl d_M_aware_22 rfl ?_
      refine MM.gR 9 40 tg_261 rq_9_50 rfl lays_9 ww_1408 d_M_aware_23 rfl ?_
      refine MM.bipush bp_10 d_M_aware_26 rfl ?_
      refine MM.bipush bp_10 d_M_aware_28 rfl ?_
      refine MM.iload_n (i := 1) rfl rfl d_M_aware_30 rfl ?_
      refine MM.imul d_M_aware_31 rfl ?_
      refine MM.iadd d_M_aware_32 rfl ?_
      refine MM.iload_n (i := 3) rfl rfl d_M_aware_33 rfl ?_
      refine MM.iadd d_M_aware_34 rfl ?_
      obtain ⟨k7, e8, hf⟩ := mm_bind hf
      refine MM.gI e8 al_301 d_M_aware_35 rfl ?_
      refine MM.iload_n (i := 2) rfl rfl d_M_aware_36 rfl ?_
      refine MM.ishr d_M_aware_37 rfl ?_
      refine MM.iconst ic_1 d_M_aware_38 rfl ?_
      refine MM.iand d_M_aware_39 rfl ?_
      refine MM.goto (tgt := 44) d_M_aware_40 rfl ?_
      obtain rfl := Option.some.inj hf
      subst hZ
      exact MM.iret rfl d_M_aware_44 ⟨rfl, rfl⟩
