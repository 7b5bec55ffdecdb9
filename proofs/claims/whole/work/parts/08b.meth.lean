/-! methods: Ta_takeNumber, Ta_isSign, Ta_takeSign, Tr_readPerson, To_findTold, To_takeTold, Tr_readOf, Tr_readOn, X_bit, To_takeSet, Tr_readSecret, Tr_readEar, Tr_readClash -/
theorem d_Ta_takeNumber_0 : decode cX7_takeNumber 0 = .ok (.aload_n 0, 1) := by decide +kernel
theorem d_Ta_takeNumber_1 : decode cX7_takeNumber 1 = .ok (.getfield 25, 3) := by decide +kernel
theorem d_Ta_takeNumber_4 : decode cX7_takeNumber 4 = .ok (.iconst 3, 1) := by decide +kernel
theorem d_Ta_takeNumber_5 : decode cX7_takeNumber 5 = .ok (.if_icmp .eq 11, 3) := by decide +kernel
theorem d_Ta_takeNumber_8 : decode cX7_takeNumber 8 = .ok (.aload_n 0, 1) := by decide +kernel
theorem d_Ta_takeNumber_9 : decode cX7_takeNumber 9 = .ok (.iconst 1, 1) := by decide +kernel
theorem d_Ta_takeNumber_10 : decode cX7_takeNumber 10 = .ok (.invokevirtual 75, 3) := by decide +kernel
theorem d_Ta_takeNumber_13 : decode cX7_takeNumber 13 = .ok (.pop, 1) := by decide +kernel
theorem d_Ta_takeNumber_14 : decode cX7_takeNumber 14 = .ok (.iconst (-1), 1) := by decide +kernel
theorem d_Ta_takeNumber_15 : decode cX7_takeNumber 15 = .ok (.ireturn, 1) := by decide +kernel
theorem d_Ta_takeNumber_16 : decode cX7_takeNumber 16 = .ok (.aload_n 0, 1) := by decide +kernel
theorem d_Ta_takeNumber_17 : decode cX7_takeNumber 17 = .ok (.getfield 28, 3) := by decide +kernel
theorem d_Ta_takeNumber_20 : decode cX7_takeNumber 20 = .ok (.iload_n 1, 1) := by decide +kernel
theorem d_Ta_takeNumber_21 : decode cX7_takeNumber 21 = .ok (.if_icmp .lt 11, 3) := by decide +kernel
theorem d_Ta_takeNumber_24 : decode cX7_takeNumber 24 = .ok (.aload_n 0, 1) := by decide +kernel
theorem d_Ta_takeNumber_25 : decode cX7_takeNumber 25 = .ok (.getfield 28, 3) := by decide +kernel
theorem d_Ta_takeNumber_28 : decode cX7_takeNumber 28 = .ok (.iload_n 2, 1) := by decide +kernel
theorem d_Ta_takeNumber_29 : decode cX7_takeNumber 29 = .ok (.if_icmp .le 11, 3) := by decide +kernel
theorem d_Ta_takeNumber_32 : decode cX7_takeNumber 32 = .ok (.aload_n 0, 1) := by decide +kernel
theorem d_Ta_takeNumber_33 : decode cX7_takeNumber 33 = .ok (.iconst 4, 1) := by decide +kernel
theorem d_Ta_takeNumber_34 : decode cX7_takeNumber 34 = .ok (.invokevirtual 75, 3) := by decide +kernel
theorem d_Ta_takeNumber_37 : decode cX7_takeNumber 37 = .ok (.pop, 1) := by decide +kernel
theorem d_Ta_takeNumber_38 : decode cX7_takeNumber 38 = .ok (.iconst (-1), 1) := by decide +kernel
theorem d_Ta_takeNumber_39 : decode cX7_takeNumber 39 = .ok (.ireturn, 1) := by decide +kernel
theorem d_Ta_takeNumber_40 : decode cX7_takeNumber 40 = .ok (.aload_n 0, 1) := by decide +kernel
theorem d_Ta_takeNumber_41 : decode cX7_takeNumber 41 = .ok (.getfield 28, 3) := by decide +kernel
theorem d_Ta_takeNumber_44 : decode cX7_takeNumber 44 = .ok (.istore_n 3, 1) := by decide +kernel
theorem d_Ta_takeNumber_45 : decode cX7_takeNumber 45 = .ok (.aload_n 0, 1) := by decide +kernel
theorem d_Ta_takeNumber_46 : decode cX7_takeNumber 46 = .ok (.invokevirtual 46, 3) := by decide +kernel
theorem d_Ta_takeNumber_49 : decode cX7_takeNumber 49 = .ok (.iload_n 3, 1) := by decide +kernel
theorem d_Ta_takeNumber_50 : decode cX7_takeNumber 50 = .ok (.ireturn, 1) := by decide +kernel
noncomputable def f_Ta_takeNumber (x1 : Int32) (x2 : Int32) (h : mm_H) : Option (Int32 × mm_H) := if (h.1 33 4) = 3 then (mm_jp (fun (j1 : Unit) => ((f_Ta_wrong 4 h).bind fun v5 => some ((-1), v5.2))) fun k3 => if (h.1 33 5) < x1 then (k3 ()) else (if (h.1 33 5) ≤ x2 then (mm_let (h.1 33 5) fun y6 => (f_Ta_next h).bind fun v9 => some (y6, v9)) else (k3 ()))) else ((f_Ta_wrong 1 h).bind fun v18 => some ((-1), v18.2))
theorem T_Ta_takeNumber (V : mm_V) (l : Launch) (x1 : Int32) (x2 : Int32) (h : mm_H) (r : (Int32 × mm_H)) (hf : f_Ta_takeNumber x1 x2 h = some r) : MT V l Y_Ta_takeNumber 6 [.ref 33, .int x1, .int x2] (fun r1 h1 => r1 = some (.int r.1) ∧ h1 = r.2) h := by
  unfold f_Ta_takeNumber at hf
  refine MT.intro (pn_Ta rfl) [(0, .ref 33), (1, .int x1), (2, .int x2)] rfl (Nat.le_of_ble_eq_true rfl) ?_
  generalize hZ : mm_Z V _ = Z0
  refine MM.aload_n (i := 0) rfl rfl d_Ta_takeNumber_0 rfl ?_
  refine MM.getI 6 tg_33 lays_6 gq_6_4 ww_156 d_Ta_takeNumber_1 rfl ?_
  refine MM.iconst ic_3 d_Ta_takeNumber_4 rfl ?_
  obtain ⟨m20, m21⟩ := mm_ifE hf
  refine MM.icmp_eq (tgt := 16) d_Ta_takeNumber_5 rfl rfl (fun c19 => ?_) (fun c19 => ?_)
  · replace hf := m20 c19
    refine MM.aload_n (i := 0) rfl rfl d_Ta_takeNumber_16 rfl ?_
    refine MM.getI 6 tg_33 lays_6 gq_6_5 ww_160 d_Ta_takeNumber_17 rfl ?_
    refine MM.iload_n (i := 1) rfl rfl d_Ta_takeNumber_20 rfl ?_
    obtain ⟨k3, e16, hf⟩ := mm_jpE hf
    have K2 : ∀ j1, k3 j1 = some r → MM V l Y_Ta_takeNumber 6 0 0 Z0 32 [(0, .ref 33)] [] h := by
      intro j1 hf
      rw [e16] at hf
      refine MM.aload_n (i := 0) rfl rfl d_Ta_takeNumber_32 rfl ?_
      refine MM.iconst ic_4 d_Ta_takeNumber_33 rfl ?_
      obtain ⟨v5, e4, hf⟩ := mm_bind hf
      refine MM.callV1 (T_Ta_wrong V l 4 h _ e4) (fun _ _ q => q) cal_Ta_wrong rfl tg_33 ct_6 ww_671 ww_670 ww_706 (by decide) (by simp [Value.category]) d_Ta_takeNumber_34 rfl ⟨rfl, rfl⟩ rfl ?_
      refine MM.pop rfl d_Ta_takeNumber_37 rfl ?_
      refine MM.iconst ic_m1 d_Ta_takeNumber_38 rfl ?_
      obtain rfl := Option.some.inj hf
      subst hZ
      exact MM.iret rfl d_Ta_takeNumber_39 ⟨rfl, rfl⟩
    clear e16
    obtain ⟨m14, m15⟩ := mm_ifE hf
    refine MM.icmp_lt (tgt := 32) d_Ta_takeNumber_21 rfl rfl (fun c13 => ?_) (fun c13 => ?_)
    · replace hf := m14 c13
      exact MM.sub [0] (by rfl) (K2 _ hf)
    · replace hf := m15 c13
      refine MM.aload_n (i := 0) rfl rfl d_Ta_takeNumber_24 rfl ?_
      refine MM.getI 6 tg_33 lays_6 gq_6_5 ww_160 d_Ta_takeNumber_25 rfl ?_
      refine MM.iload_n (i := 2) rfl rfl d_Ta_takeNumber_28 rfl ?_
      obtain ⟨m11, m12⟩ := mm_ifE hf
      refine MM.icmp_le (tgt := 40) d_Ta_takeNumber_29 rfl rfl (fun c10 => ?_) (fun c10 => ?_)
      · replace hf := m11 c10
        refine MM.aload_n (i := 0) rfl rfl d_Ta_takeNumber_40 rfl ?_
        refine MM.getI 6 tg_33 lays_6 gq_6_5 ww_160 d_Ta_takeNumber_41 rfl ?_
        obtain ⟨y6, e7, hf⟩ := mm_letE hf
        refine MM.istore_n (i := 3) (lv' := [(3, .int y6), (0, .ref 33), (1, .int x1), (2, .int x2)]) e7 rfl (Nat.le_of_ble_eq_true rfl) rfl d_Ta_takeNumber_44 rfl ?_
        refine MM.aload_n (i := 0) rfl rfl d_Ta_takeNumber_45 rfl ?_
        obtain ⟨v9, e8, hf⟩ := mm_bind hf
        refine MM.callV0 (T_Ta_next V l  h _ e8) (fun _ _ q => q) cal_Ta_next rfl tg_33 ct_6 ww_561 ww_560 ww_559 (by decide) (by simp [Value.category]) d_Ta_takeNumber_46 rfl ⟨rfl, rfl⟩ rfl ?_
        refine MM.iload_n (i := 3) rfl rfl d_Ta_takeNumber_49 rfl ?_
        obtain rfl := Option.some.inj hf
        subst hZ
        exact MM.iret rfl d_Ta_takeNumber_50 ⟨rfl, rfl⟩
      · replace hf := m12 c10
        exact MM.sub [0] (by rfl) (K2 _ hf)
  · replace hf := m21 c19
    refine MM.aload_n (i := 0) rfl rfl d_Ta_takeNumber_8 rfl ?_
    refine MM.iconst ic_1 d_Ta_takeNumber_9 rfl ?_
    obtain ⟨v18, e17, hf⟩ := mm_bind hf
    refine MM.callV1 (T_Ta_wrong V l 1 h _ e17) (fun _ _ q => q) cal_Ta_wrong rfl tg_33 ct_6 ww_671 ww_670 ww_706 (by decide) (by simp [Value.category]) d_Ta_takeNumber_10 rfl ⟨rfl, rfl⟩ rfl ?_
    refine MM.pop rfl d_Ta_takeNumber_13 rfl ?_
    refine MM.iconst ic_m1 d_Ta_takeNumber_14 rfl ?_
    obtain rfl := Option.some.inj hf
    subst hZ
    exact MM.iret rfl d_Ta_takeNumber_15 ⟨rfl, rfl⟩
theorem d_Ta_isSign_0 : decode cX7_isSign 0 = .ok (.aload_n 0, 1) := by decide +kernel
theorem d_Ta_isSign_1 : decode cX7_isSign 1 = .ok (.getfield 25, 3) := by decide +kernel
theorem d_Ta_isSign_4 : decode cX7_isSign 4 = .ok (.iconst 4, 1) := by decide +kernel
theorem d_Ta_isSign_5 : decode cX7_isSign 5 = .ok (.if_icmp .ne 15, 3) := by decide +kernel
theorem d_Ta_isSign_8 : decode cX7_isSign 8 = .ok (.aload_n 0, 1) := by decide +kernel
theorem d_Ta_isSign_9 : decode cX7_isSign 9 = .ok (.getfield 39, 3) := by decide +kernel
theorem d_Ta_isSign_12 : decode cX7_isSign 12 = .ok (.iload_n 1, 1) := by decide +kernel
theorem d_Ta_isSign_13 : decode cX7_isSign 13 = .ok (.if_icmp .ne 7, 3) := by decide +kernel
theorem d_Ta_isSign_16 : decode cX7_isSign 16 = .ok (.iconst 1, 1) := by decide +kernel
theorem d_Ta_isSign_17 : decode cX7_isSign 17 = .ok (.goto 4, 3) := by decide +kernel
theorem d_Ta_isSign_20 : decode cX7_isSign 20 = .ok (.iconst 0, 1) := by decide +kernel
theorem d_Ta_isSign_21 : decode cX7_isSign 21 = .ok (.ireturn, 1) := by decide +kernel
noncomputable def f_Ta_isSign (x1 : Int32) (h : mm_H) : Option Int32 := if (h.1 33 4) = 4 then (if (h.1 33 8) = x1 then (some 1) else (some 0)) else (some 0)
theorem T_Ta_isSign (V : mm_V) (l : Launch) (x1 : Int32) (h : mm_H) (r : Int32) (hf : f_Ta_isSign x1 h = some r) : MT V l Y_Ta_isSign 1 [.ref 33, .int x1] (fun r1 h1 => r1 = some (.int r) ∧ h1 = h) h := by
  unfold f_Ta_isSign at hf
  refine MT.intro (pn_Ta rfl) [(0, .ref 33), (1, .int x1)] rfl (Nat.le_of_ble_eq_true rfl) ?_
  generalize hZ : mm_Z V _ = Z0
  refine MM.aload_n (i := 0) rfl rfl d_Ta_isSign_0 rfl ?_
  refine MM.getI 6 tg_33 lays_6 gq_6_4 ww_156 d_Ta_isSign_1 rfl ?_
  refine MM.iconst ic_4 d_Ta_isSign_4 rfl ?_
  obtain ⟨m5, m6⟩ := mm_ifE hf
  refine MM.icmp_ne (tgt := 20) d_Ta_isSign_5 rfl rfl (fun c4 => ?_) (fun c4 => ?_)
  · replace hf := m6 c4
    refine MM.iconst ic_0 d_Ta_isSign_20 rfl ?_
    obtain rfl := Option.some.inj hf
    subst hZ
    exact MM.zret (Or.inl rfl) rfl d_Ta_isSign_21 ⟨rfl, rfl⟩
  · replace hf := m5 c4
    refine MM.aload_n (i := 0) rfl rfl d_Ta_isSign_8 rfl ?_
    refine MM.getI 6 tg_33 lays_6 gq_6_8 ww_169 d_Ta_isSign_9 rfl ?_
    refine MM.iload_n (i := 1) rfl rfl d_Ta_isSign_12 rfl ?_
    obtain ⟨m2, m3⟩ := mm_ifE hf
    refine MM.icmp_ne (tgt := 20) d_Ta_isSign_13 rfl rfl (fun c1 => ?_) (fun c1 => ?_)
    · replace hf := m3 c1
      refine MM.iconst ic_0 d_Ta_isSign_20 rfl ?_
      obtain rfl := Option.some.inj hf
      subst hZ
      exact MM.zret (Or.inl rfl) rfl d_Ta_isSign_21 ⟨rfl, rfl⟩
    · replace hf := m2 c1
      refine MM.iconst ic_1 d_Ta_isSign_16 rfl ?_
      refine MM.goto (tgt := 21) d_Ta_isSign_17 rfl ?_
      obtain rfl := Option.some.inj hf
      subst hZ
      exact MM.zret (Or.inr rfl) rfl d_Ta_isSign_21 ⟨rfl, rfl⟩
theorem d_Ta_takeSign_0 : decode cX7_takeSign 0 = .ok (.aload_n 0, 1) := by decide +kernel
theorem d_Ta_takeSign_1 : decode cX7_takeSign 1 = .ok (.iload_n 1, 1) := by decide +kernel
theorem d_Ta_takeSign_2 : decode cX7_takeSign 2 = .ok (.invokevirtual 79, 3) := by decide +kernel
theorem d_Ta_takeSign_5 : decode cX7_takeSign 5 = .ok (.ifCond .ne 9, 3) := by decide +kernel
theorem d_Ta_takeSign_8 : decode cX7_takeSign 8 = .ok (.aload_n 0, 1) := by decide +kernel
theorem d_Ta_takeSign_9 : decode cX7_takeSign 9 = .ok (.iconst 1, 1) := by decide +kernel
theorem d_Ta_takeSign_10 : decode cX7_takeSign 10 = .ok (.invokevirtual 75, 3) := by decide +kernel
theorem d_Ta_takeSign_13 : decode cX7_takeSign 13 = .ok (.ireturn, 1) := by decide +kernel
theorem d_Ta_takeSign_14 : decode cX7_takeSign 14 = .ok (.aload_n 0, 1) := by decide +kernel
theorem d_Ta_takeSign_15 : decode cX7_takeSign 15 = .ok (.invokevirtual 46, 3) := by decide +kernel
theorem d_Ta_takeSign_18 : decode cX7_takeSign 18 = .ok (.iconst 1, 1) := by decide +kernel
theorem d_Ta_takeSign_19 : decode cX7_takeSign 19 = .ok (.ireturn, 1) := by decide +kernel
noncomputable def f_Ta_takeSign (x1 : Int32) (h : mm_H) : Option (Int32 × mm_H) := (f_Ta_isSign x1 h).bind fun v2 => if v2 = 0 then ((f_Ta_wrong 1 h).bind fun v6 => (mm_bo v6.1).bind fun b7 => some (b7, v6.2)) else ((f_Ta_next h).bind fun v4 => some (1, v4))
theorem T_Ta_takeSign (V : mm_V) (l : Launch) (x1 : Int32) (h : mm_H) (r : (Int32 × mm_H)) (hf : f_Ta_takeSign x1 h = some r) : MT V l Y_Ta_takeSign 6 [.ref 33, .int x1] (fun r1 h1 => r1 = some (.int r.1) ∧ h1 = r.2) h := by
  unfold f_Ta_takeSign at hf
  refine MT.intro (pn_Ta rfl) [(0, .ref 33), (1, .int x1)] rfl (Nat.le_of_ble_eq_true rfl) ?_
  generalize hZ : mm_Z V _ = Z0
  refine MM.aload_n (i := 0) rfl rfl d_Ta_takeSign_0 rfl ?_
  refine MM.iload_n (i := 1) rfl rfl d_Ta_takeSign_1 rfl ?_
  obtain ⟨v2, e1, hf⟩ := mm_bind hf
  refine MM.callV1 (T_Ta_isSign V l x1 h _ e1) (fun _ _ q => q) cal_Ta_isSign rfl tg_33 ct_6 ww_719 ww_718 ww_717 (by decide) (by simp [Value.category]) d_Ta_takeSign_2 rfl ⟨rfl, rfl⟩ rfl ?_
  obtain ⟨m10, m11⟩ := mm_ifE hf
  refine MM.if_ne (tgt := 14) d_Ta_takeSign_5 rfl rfl (fun c9 => ?_) (fun c9 => ?_)
  · replace hf := m11 c9
    refine MM.aload_n (i := 0) rfl rfl d_Ta_takeSign_14 rfl ?_
    obtain ⟨v4, e3, hf⟩ := mm_bind hf
    refine MM.callV0 (T_Ta_next V l  h _ e3) (fun _ _ q => q) cal_Ta_next rfl tg_33 ct_6 ww_561 ww_560 ww_559 (by decide) (by simp [Value.category]) d_Ta_takeSign_15 rfl ⟨rfl, rfl⟩ rfl ?_
    refine MM.iconst ic_1 d_Ta_takeSign_18 rfl ?_
    obtain rfl := Option.some.inj hf
    subst hZ
    exact MM.zret (Or.inr rfl) rfl d_Ta_takeSign_19 ⟨rfl, rfl⟩
  · replace hf := m10 c9
    refine MM.aload_n (i := 0) rfl rfl d_Ta_takeSign_8 rfl ?_
    refine MM.iconst ic_1 d_Ta_takeSign_9 rfl ?_
    obtain ⟨v6, e5, hf⟩ := mm_bind hf
    refine MM.callV1 (T_Ta_wrong V l 1 h _ e5) (fun _ _ q => q) cal_Ta_wrong rfl tg_33 ct_6 ww_671 ww_670 ww_706 (by decide) (by simp [Value.category]) d_Ta_takeSign_10 rfl ⟨rfl, rfl⟩ rfl ?_
    obtain ⟨b7, e8, hf⟩ := mm_bind hf
    obtain ⟨ob7, e8⟩ := mm_boE e8
    subst e8
    obtain rfl := Option.some.inj hf
    subst hZ
    exact MM.zret ob7 rfl d_Ta_takeSign_13 ⟨rfl, rfl⟩
theorem d_Tr_readPerson_0 : decode cX9_readPerson 0 = .ok (.aload_n 1, 1) := by decide +kernel
theorem d_Tr_readPerson_1 : decode cX9_readPerson 1 = .ok (.getfield 102, 3) := by decide +kernel
theorem d_Tr_readPerson_4 : decode cX9_readPerson 4 = .ok (.istore_n 2, 1) := by decide +kernel
theorem d_Tr_readPerson_5 : decode cX9_readPerson 5 = .ok (.iload_n 2, 1) := by decide +kernel
theorem d_Tr_readPerson_6 : decode cX9_readPerson 6 = .ok (.bipush 6, 2) := by decide +kernel
theorem d_Tr_readPerson_8 : decode cX9_readPerson 8 = .ok (.if_icmp .lt 9, 3) := by decide +kernel
theorem d_Tr_readPerson_11 : decode cX9_readPerson 11 = .ok (.aload_n 0, 1) := by decide +kernel
theorem d_Tr_readPerson_12 : decode cX9_readPerson 12 = .ok (.iconst 5, 1) := by decide +kernel
theorem d_Tr_readPerson_13 : decode cX9_readPerson 13 = .ok (.invokevirtual 68, 3) := by decide +kernel
theorem d_Tr_readPerson_16 : decode cX9_readPerson 16 = .ok (.ireturn, 1) := by decide +kernel
theorem d_Tr_readPerson_17 : decode cX9_readPerson 17 = .ok (.aload_n 0, 1) := by decide +kernel
theorem d_Tr_readPerson_18 : decode cX9_readPerson 18 = .ok (.invokevirtual 87, 3) := by decide +kernel
theorem d_Tr_readPerson_21 : decode cX9_readPerson 21 = .ok (.aload_n 1, 1) := by decide +kernel
theorem d_Tr_readPerson_22 : decode cX9_readPerson 22 = .ok (.getfield 105, 3) := by decide +kernel
theorem d_Tr_readPerson_25 : decode cX9_readPerson 25 = .ok (.iload_n 2, 1) := by decide +kernel
theorem d_Tr_readPerson_26 : decode cX9_readPerson 26 = .ok (.aload_n 0, 1) := by decide +kernel
theorem d_Tr_readPerson_27 : decode cX9_readPerson 27 = .ok (.getfield 76, 3) := by decide +kernel
theorem d_Tr_readPerson_30 : decode cX9_readPerson 30 = .ok (.lastore, 1) := by decide +kernel
theorem d_Tr_readPerson_31 : decode cX9_readPerson 31 = .ok (.aload_n 0, 1) := by decide +kernel
theorem d_Tr_readPerson_32 : decode cX9_readPerson 32 = .ok (.aload_n 1, 1) := by decide +kernel
theorem d_Tr_readPerson_33 : decode cX9_readPerson 33 = .ok (.invokestatic 109, 3) := by decide +kernel
theorem d_Tr_readPerson_36 : decode cX9_readPerson 36 = .ok (.ifCond .ne 5, 3) := by decide +kernel
theorem d_Tr_readPerson_39 : decode cX9_readPerson 39 = .ok (.iconst 0, 1) := by decide +kernel
theorem d_Tr_readPerson_40 : decode cX9_readPerson 40 = .ok (.ireturn, 1) := by decide +kernel
theorem d_Tr_readPerson_41 : decode cX9_readPerson 41 = .ok (.aload_n 1, 1) := by decide +kernel
theorem d_Tr_readPerson_42 : decode cX9_readPerson 42 = .ok (.getfield 112, 3) := by decide +kernel
theorem d_Tr_readPerson_45 : decode cX9_readPerson 45 = .ok (.iload_n 2, 1) := by decide +kernel
theorem d_Tr_readPerson_46 : decode cX9_readPerson 46 = .ok (.aload_n 0, 1) := by decide +kernel
theorem d_Tr_readPerson_47 : decode cX9_readPerson 47 = .ok (.getfield 32, 3) := by decide +kernel
theorem d_Tr_readPerson_50 : decode cX9_readPerson 50 = .ok (.invokestatic 115, 3) := by decide +kernel
theorem d_Tr_readPerson_53 : decode cX9_readPerson 53 = .ok (.iastore, 1) := by decide +kernel
theorem d_Tr_readPerson_54 : decode cX9_readPerson 54 = .ok (.aload_n 1, 1) := by decide +kernel
theorem d_Tr_readPerson_55 : decode cX9_readPerson 55 = .ok (.getfield 112, 3) := by decide +kernel
theorem d_Tr_readPerson_58 : decode cX9_readPerson 58 = .ok (.iload_n 2, 1) := by decide +kernel
theorem d_Tr_readPerson_59 : decode cX9_readPerson 59 = .ok (.iaload, 1) := by decide +kernel
theorem d_Tr_readPerson_60 : decode cX9_readPerson 60 = .ok (.iconst (-1), 1) := by decide +kernel
theorem d_Tr_readPerson_61 : decode cX9_readPerson 61 = .ok (.if_icmp .ne 9, 3) := by decide +kernel
theorem d_Tr_readPerson_64 : decode cX9_readPerson 64 = .ok (.aload_n 0, 1) := by decide +kernel
theorem d_Tr_readPerson_65 : decode cX9_readPerson 65 = .ok (.iconst 1, 1) := by decide +kernel
theorem d_Tr_readPerson_66 : decode cX9_readPerson 66 = .ok (.invokevirtual 68, 3) := by decide +kernel
theorem d_Tr_readPerson_69 : decode cX9_readPerson 69 = .ok (.ireturn, 1) := by decide +kernel
theorem d_Tr_readPerson_70 : decode cX9_readPerson 70 = .ok (.aload_n 0, 1) := by decide +kernel
theorem d_Tr_readPerson_71 : decode cX9_readPerson 71 = .ok (.invokevirtual 87, 3) := by decide +kernel
theorem d_Tr_readPerson_74 : decode cX9_readPerson 74 = .ok (.aload_n 1, 1) := by decide +kernel
theorem d_Tr_readPerson_75 : decode cX9_readPerson 75 = .ok (.getfield 119, 3) := by decide +kernel
theorem d_Tr_readPerson_78 : decode cX9_readPerson 78 = .ok (.iload_n 2, 1) := by decide +kernel
theorem d_Tr_readPerson_79 : decode cX9_readPerson 79 = .ok (.aload_n 0, 1) := by decide +kernel
theorem d_Tr_readPerson_80 : decode cX9_readPerson 80 = .ok (.getstatic 122, 3) := by decide +kernel
theorem d_Tr_readPerson_83 : decode cX9_readPerson 83 = .ok (.invokevirtual 125, 3) := by decide +kernel
theorem d_Tr_readPerson_86 : decode cX9_readPerson 86 = .ok (.ifCond .eq 13, 3) := by decide +kernel
theorem d_Tr_readPerson_89 : decode cX9_readPerson 89 = .ok (.aload_n 0, 1) := by decide +kernel
theorem d_Tr_readPerson_90 : decode cX9_readPerson 90 = .ok (.iconst 0, 1) := by decide +kernel
theorem d_Tr_readPerson_91 : decode cX9_readPerson 91 = .ok (.bipush 9, 2) := by decide +kernel
theorem d_Tr_readPerson_93 : decode cX9_readPerson 93 = .ok (.invokevirtual 129, 3) := by decide +kernel
theorem d_Tr_readPerson_96 : decode cX9_readPerson 96 = .ok (.goto 4, 3) := by decide +kernel
theorem d_Tr_readPerson_99 : decode cX9_readPerson 99 = .ok (.iconst (-1), 1) := by decide +kernel
theorem d_Tr_readPerson_100 : decode cX9_readPerson 100 = .ok (.iastore, 1) := by decide +kernel
theorem d_Tr_readPerson_101 : decode cX9_readPerson 101 = .ok (.aload_n 1, 1) := by decide +kernel
theorem d_Tr_readPerson_102 : decode cX9_readPerson 102 = .ok (.getfield 119, 3) := by decide +kernel
theorem d_Tr_readPerson_105 : decode cX9_readPerson 105 = .ok (.iload_n 2, 1) := by decide +kernel
theorem d_Tr_readPerson_106 : decode cX9_readPerson 106 = .ok (.iaload, 1) := by decide +kernel
theorem d_Tr_readPerson_107 : decode cX9_readPerson 107 = .ok (.iconst (-1), 1) := by decide +kernel
theorem d_Tr_readPerson_108 : decode cX9_readPerson 108 = .ok (.if_icmp .ne 5, 3) := by decide +kernel
theorem d_Tr_readPerson_111 : decode cX9_readPerson 111 = .ok (.iconst 0, 1) := by decide +kernel
theorem d_Tr_readPerson_112 : decode cX9_readPerson 112 = .ok (.ireturn, 1) := by decide +kernel
theorem d_Tr_readPerson_113 : decode cX9_readPerson 113 = .ok (.aload_n 1, 1) := by decide +kernel
theorem d_Tr_readPerson_114 : decode cX9_readPerson 114 = .ok (.getfield 133, 3) := by decide +kernel
theorem d_Tr_readPerson_117 : decode cX9_readPerson 117 = .ok (.iload_n 2, 1) := by decide +kernel
theorem d_Tr_readPerson_118 : decode cX9_readPerson 118 = .ok (.aload_n 0, 1) := by decide +kernel
theorem d_Tr_readPerson_119 : decode cX9_readPerson 119 = .ok (.getstatic 136, 3) := by decide +kernel
theorem d_Tr_readPerson_122 : decode cX9_readPerson 122 = .ok (.invokevirtual 125, 3) := by decide +kernel
theorem d_Tr_readPerson_125 : decode cX9_readPerson 125 = .ok (.ifCond .eq 14, 3) := by decide +kernel
theorem d_Tr_readPerson_128 : decode cX9_readPerson 128 = .ok (.aload_n 0, 1) := by decide +kernel
theorem d_Tr_readPerson_129 : decode cX9_readPerson 129 = .ok (.iconst 0, 1) := by decide +kernel
theorem d_Tr_readPerson_130 : decode cX9_readPerson 130 = .ok (.sipush 999, 3) := by decide +kernel
theorem d_Tr_readPerson_133 : decode cX9_readPerson 133 = .ok (.invokevirtual 129, 3) := by decide +kernel
theorem d_Tr_readPerson_136 : decode cX9_readPerson 136 = .ok (.goto 4, 3) := by decide +kernel
theorem d_Tr_readPerson_139 : decode cX9_readPerson 139 = .ok (.iconst (-1), 1) := by decide +kernel
theorem d_Tr_readPerson_140 : decode cX9_readPerson 140 = .ok (.iastore, 1) := by decide +kernel
theorem d_Tr_readPerson_141 : decode cX9_readPerson 141 = .ok (.aload_n 1, 1) := by decide +kernel
theorem d_Tr_readPerson_142 : decode cX9_readPerson 142 = .ok (.getfield 133, 3) := by decide +kernel
theorem d_Tr_readPerson_145 : decode cX9_readPerson 145 = .ok (.iload_n 2, 1) := by decide +kernel
theorem d_Tr_readPerson_146 : decode cX9_readPerson 146 = .ok (.iaload, 1) := by decide +kernel
theorem d_Tr_readPerson_147 : decode cX9_readPerson 147 = .ok (.iconst (-1), 1) := by decide +kernel
theorem d_Tr_readPerson_148 : decode cX9_readPerson 148 = .ok (.if_icmp .eq 12, 3) := by decide +kernel
theorem d_Tr_readPerson_151 : decode cX9_readPerson 151 = .ok (.aload_n 0, 1) := by decide +kernel
theorem d_Tr_readPerson_152 : decode cX9_readPerson 152 = .ok (.bipush 59, 2) := by decide +kernel
theorem d_Tr_readPerson_154 : decode cX9_readPerson 154 = .ok (.invokevirtual 139, 3) := by decide +kernel
theorem d_Tr_readPerson_157 : decode cX9_readPerson 157 = .ok (.ifCond .ne 5, 3) := by decide +kernel
theorem d_Tr_readPerson_160 : decode cX9_readPerson 160 = .ok (.iconst 0, 1) := by decide +kernel
theorem d_Tr_readPerson_161 : decode cX9_readPerson 161 = .ok (.ireturn, 1) := by decide +kernel
theorem d_Tr_readPerson_162 : decode cX9_readPerson 162 = .ok (.aload_n 1, 1) := by decide +kernel
theorem d_Tr_readPerson_163 : decode cX9_readPerson 163 = .ok (.dup, 1) := by decide +kernel
theorem d_Tr_readPerson_164 : decode cX9_readPerson 164 = .ok (.getfield 143, 3) := by decide +kernel
theorem d_Tr_readPerson_167 : decode cX9_readPerson 167 = .ok (.aload_n 1, 1) := by decide +kernel
theorem d_Tr_readPerson_168 : decode cX9_readPerson 168 = .ok (.getfield 112, 3) := by decide +kernel
theorem d_Tr_readPerson_171 : decode cX9_readPerson 171 = .ok (.iload_n 2, 1) := by decide +kernel
theorem d_Tr_readPerson_172 : decode cX9_readPerson 172 = .ok (.iaload, 1) := by decide +kernel
theorem d_Tr_readPerson_173 : decode cX9_readPerson 173 = .ok (.iconst 3, 1) := by decide +kernel
theorem d_Tr_readPerson_174 : decode cX9_readPerson 174 = .ok (.if_icmp .ne 9, 3) := by decide +kernel
theorem d_Tr_readPerson_177 : decode cX9_readPerson 177 = .ok (.iconst 1, 1) := by decide +kernel
theorem d_Tr_readPerson_178 : decode cX9_readPerson 178 = .ok (.iload_n 2, 1) := by decide +kernel
theorem d_Tr_readPerson_179 : decode cX9_readPerson 179 = .ok (.ishl, 1) := by decide +kernel
theorem d_Tr_readPerson_180 : decode cX9_readPerson 180 = .ok (.goto 4, 3) := by decide +kernel
theorem d_Tr_readPerson_183 : decode cX9_readPerson 183 = .ok (.iconst 0, 1) := by decide +kernel
theorem d_Tr_readPerson_184 : decode cX9_readPerson 184 = .ok (.ior, 1) := by decide +kernel
theorem d_Tr_readPerson_185 : decode cX9_readPerson 185 = .ok (.putfield 143, 3) := by decide +kernel
theorem d_Tr_readPerson_188 : decode cX9_readPerson 188 = .ok (.aload_n 1, 1) := by decide +kernel
theorem d_Tr_readPerson_189 : decode cX9_readPerson 189 = .ok (.dup, 1) := by decide +kernel
theorem d_Tr_readPerson_190 : decode cX9_readPerson 190 = .ok (.getfield 102, 3) := by decide +kernel
theorem d_Tr_readPerson_193 : decode cX9_readPerson 193 = .ok (.iconst 1, 1) := by decide +kernel
theorem d_Tr_readPerson_194 : decode cX9_readPerson 194 = .ok (.iadd, 1) := by decide +kernel
theorem d_Tr_readPerson_195 : decode cX9_readPerson 195 = .ok (.putfield 102, 3) := by decide +kernel
theorem d_Tr_readPerson_198 : decode cX9_readPerson 198 = .ok (.iconst 1, 1) := by decide +kernel
theorem d_Tr_readPerson_199 : decode cX9_readPerson 199 = .ok (.ireturn, 1) := by decide +kernel
noncomputable def f_Tr_readPerson (a1 : Nat) (h : mm_H) : Option (Int32 × mm_H) := if mm_tg a1 = 7 then (mm_let (h.1 a1 0) fun y1 => if y1 < 6 then ((f_Ta_next h).bind fun v4 => (mm_ix y1 6).bind fun k5 => mm_let (mm_pL v4 (a1 + 1) k5 (v4.2.1 33 6)) fun h7 => (f_Tr_takeNewName a1 h7).bind fun v10 => if v10.1 = 0 then (some (0, v10.2)) else ((mm_gW v10.2).bind fun wd11 => (f_Tr_kindOf wd11).bind fun v14 => (mm_ix y1 6).bind fun k15 => mm_let (mm_pI v10.2 (a1 + 2) k15 v14) fun h17 => (mm_ix y1 6).bind fun k19 => if (h17.1 (a1 + 2) k19) = (-1) then ((f_Ta_wrong 1 h17).bind fun v79 => (mm_bo v79.1).bind fun b80 => some (b80, v79.2)) else ((f_Ta_next h17).bind fun v22 => (f_Ta_takeWord (some 1) v22).bind fun v24 => (if v24.1 = 0 then (some ((-1), v24.2)) else ((f_Ta_takeNumber 0 9 v24.2).bind fun v28 => some (v28.1, v28.2)) : Option (Int32 × mm_H)).bind fun j25 => (mm_ix y1 6).bind fun k32 => mm_let (mm_pI j25.2 (a1 + 3) k32 j25.1) fun h34 => (mm_ix y1 6).bind fun k36 => if (h34.1 (a1 + 3) k36) = (-1) then (some (0, h34)) else ((f_Ta_takeWord (some 2) h34).bind fun v39 => (if v39.1 = 0 then (some ((-1), v39.2)) else ((f_Ta_takeNumber 0 999 v39.2).bind fun v43 => some (v43.1, v43.2)) : Option (Int32 × mm_H)).bind fun j40 => (mm_ix y1 6).bind fun k47 => mm_let (mm_pI j40.2 (a1 + 4) k47 j40.1) fun h49 => (mm_ix y1 6).bind fun k51 => if (h49.1 (a1 + 4) k51) = (-1) then (some (0, h49)) else ((f_Ta_takeSign 59 h49).bind fun v54 => if v54.1 = 0 then (some (0, v54.2)) else ((mm_ix y1 6).bind fun k55 => (if (v54.2.1 (a1 + 2) k55) = 3 then (some ((1 : Int32) <<< (y1 &&& 31))) else (some 0) : Option Int32).bind fun j57 => mm_let (mm_pI v54.2 a1 5 ((v54.2.1 a1 5) ||| j57)) fun h62 => mm_let (mm_pI h62 a1 0 ((h62.1 a1 0) + 1)) fun h64 => some (1, h64))))))) else ((f_Ta_wrong 5 h).bind fun v89 => (mm_bo v89.1).bind fun b90 => some (b90, v89.2))) else none
theorem T_Tr_readPerson (V : mm_V) (l : Launch) (a1 : Nat) (h : mm_H) (r : (Int32 × mm_H)) (hf : f_Tr_readPerson a1 h = some r) : MT V l Y_Tr_readPerson 7 [.ref 33, .ref a1] (fun r1 h1 => r1 = some (.int r.1) ∧ h1 = r.2) h := by
  unfold f_Tr_readPerson at hf
  obtain ⟨t_a1, hf⟩ := mm_chkE hf
  refine MT.intro (pn_Tr rfl) [(0, .ref 33), (1, .ref a1)] rfl (Nat.le_of_ble_eq_true rfl) ?_
  generalize hZ : mm_Z V _ = Z0
  refine MM.aload_n (i := 1) rfl rfl d_Tr_readPerson_0 rfl ?_
  refine MM.getI 7 t_a1 lays_7 gq_7_0 ww_367 d_Tr_readPerson_1 rfl ?_
  obtain ⟨y1, e2, hf⟩ := mm_letE hf
  refine MM.istore_n (i := 2) (lv' := [(2, .int y1), (0, .ref 33), (1, .ref a1)]) e2 rfl (Nat.le_of_ble_eq_true rfl) rfl d_Tr_readPerson_4 rfl ?_
  refine MM.iload_n (i := 2) rfl rfl d_Tr_readPerson_5 rfl ?_
  refine MM.bipush bp_6 d_Tr_readPerson_6 rfl ?_
  obtain ⟨m93, m94⟩ := mm_ifE hf
  refine MM.icmp_lt (tgt := 17) d_Tr_readPerson_8 rfl rfl (fun c92 => ?_) (fun c92 => ?_)
  · replace hf := m93 c92
    refine MM.aload_n (i := 0) rfl rfl d_Tr_readPerson_17 rfl ?_
    obtain ⟨v4, e3, hf⟩ := mm_bind hf
    refine MM.callV0 (T_Ta_next V l  h _ e3) (fun _ _ q => q) cal_Ta_next rfl tg_33 ct_6 ww_561 ww_560 ww_673 (by decide) (by simp [Value.category]) d_Tr_readPerson_18 rfl ⟨rfl, rfl⟩ rfl ?_
    refine MM.aload_n (i := 1) rfl rfl d_Tr_readPerson_21 rfl ?_
    refine MM.gR 7 1 t_a1 rq_7_1 rfl lays_7 ww_371 d_Tr_readPerson_22 rfl ?_
    refine MM.iload_n (i := 2) rfl rfl d_Tr_readPerson_25 rfl ?_
    refine MM.aload_n (i := 0) rfl rfl d_Tr_readPerson_26 rfl ?_
    refine MM.getL 6 tg_33 lays_6 gq_6_6 ww_163 d_Tr_readPerson_27 rfl ?_
    obtain ⟨k5, e6, hf⟩ := mm_bind hf
    obtain ⟨h7, e8, hf⟩ := mm_letE hf
    refine MM.sL e6 e8 (al_7_1f t_a1) d_Tr_readPerson_30 rfl ?_
    refine MM.aload_n (i := 0) rfl rfl d_Tr_readPerson_31 rfl ?_
    refine MM.aload_n (i := 1) rfl rfl d_Tr_readPerson_32 rfl ?_
    obtain ⟨v10, e9, hf⟩ := mm_bind hf
    refine MM.callS1 (T_Tr_takeNewName V l a1 h7 _ e9) (fun _ _ q => q) cal_Tr_takeNewName rfl ww_675 ww_674 (by decide) (by simp [Value.category]) d_Tr_readPerson_33 rfl ⟨rfl, rfl⟩ rfl ?_
    obtain ⟨m86, m87⟩ := mm_ifE hf
    refine MM.if_ne (tgt := 41) d_Tr_readPerson_36 rfl rfl (fun c85 => ?_) (fun c85 => ?_)
    · replace hf := m87 c85
      refine MM.aload_n (i := 1) rfl rfl d_Tr_readPerson_41 rfl ?_
      refine MM.gR 7 2 t_a1 rq_7_2 rfl lays_7 ww_374 d_Tr_readPerson_42 rfl ?_
      refine MM.iload_n (i := 2) rfl rfl d_Tr_readPerson_45 rfl ?_
      refine MM.aload_n (i := 0) rfl rfl d_Tr_readPerson_46 rfl ?_
      obtain ⟨wd11, e12, hf⟩ := mm_bind hf
      obtain ⟨e12, b_wd11⟩ := mm_gWE e12
      refine MM.gW e12 tg_33 wq_7 lays_6 ww_166 d_Tr_readPerson_47 rfl ?_
      obtain ⟨v14, e13, hf⟩ := mm_bind hf
      refine MM.callS1 (T_Tr_kindOf V l wd11 v10.2 _ e13) (fun _ _ q => q) cal_Tr_kindOf rfl ww_690 ww_689 (by decide) (by simp [Value.category]) d_Tr_readPerson_50 rfl ⟨rfl, rfl⟩ rfl ?_
      obtain ⟨k15, e16, hf⟩ := mm_bind hf
      obtain ⟨h17, e18, hf⟩ := mm_letE hf
      refine MM.sI e16 e18 (al_7_2f t_a1) d_Tr_readPerson_53 rfl ?_
      refine MM.aload_n (i := 1) rfl rfl d_Tr_readPerson_54 rfl ?_
      refine MM.gR 7 2 t_a1 rq_7_2 rfl lays_7 ww_374 d_Tr_readPerson_55 rfl ?_
      refine MM.iload_n (i := 2) rfl rfl d_Tr_readPerson_58 rfl ?_
      obtain ⟨k19, e20, hf⟩ := mm_bind hf
      refine MM.gI e20 (al_7_2f t_a1) d_Tr_readPerson_59 rfl ?_
      refine MM.iconst ic_m1 d_Tr_readPerson_60 rfl ?_
      obtain ⟨m83, m84⟩ := mm_ifE hf
      refine MM.icmp_ne (tgt := 70) d_Tr_readPerson_61 rfl rfl (fun c82 => ?_) (fun c82 => ?_)
      · replace hf := m84 c82
        refine MM.aload_n (i := 0) rfl rfl d_Tr_readPerson_70 rfl ?_
        obtain ⟨v22, e21, hf⟩ := mm_bind hf
        refine MM.callV0 (T_Ta_next V l  h17 _ e21) (fun _ _ q => q) cal_Ta_next rfl tg_33 ct_6 ww_561 ww_560 ww_673 (by decide) (by simp [Value.category]) d_Tr_readPerson_71 rfl ⟨rfl, rfl⟩ rfl ?_
        refine MM.aload_n (i := 1) rfl rfl d_Tr_readPerson_74 rfl ?_
        refine MM.gR 7 3 t_a1 rq_7_3 rfl lays_7 ww_377 d_Tr_readPerson_75 rfl ?_
        refine MM.iload_n (i := 2) rfl rfl d_Tr_readPerson_78 rfl ?_
        refine MM.aload_n (i := 0) rfl rfl d_Tr_readPerson_79 rfl ?_
        refine MM.word (j := 1) (by decide) rfl ww_700 d_Tr_readPerson_80 rfl ?_
        obtain ⟨v24, e23, hf⟩ := mm_bind hf
        refine MM.callV1 (T_Ta_takeWord V l (some 1) v22 _ e23) (fun _ _ q => q) cal_Ta_takeWord rfl tg_33 ct_6 ww_704 ww_703 ww_702 (by decide) (by simp [Value.category]) d_Tr_readPerson_83 rfl ⟨rfl, rfl⟩ rfl ?_
        obtain ⟨j25, e77, hf⟩ := mm_bind hf
        have K26 : MM V l Y_Tr_readPerson 7 0 0 Z0 100 [(0, .ref 33), (1, .ref a1), (2, .int y1)] [.int j25.1, .int y1, .ref (a1 + 3)] j25.2 := by
          obtain ⟨k32, e33, hf⟩ := mm_bind hf
          obtain ⟨h34, e35, hf⟩ := mm_letE hf
          refine MM.sI e33 e35 (al_7_3f t_a1) d_Tr_readPerson_100 rfl ?_
          refine MM.aload_n (i := 1) rfl rfl d_Tr_readPerson_101 rfl ?_
          refine MM.gR 7 3 t_a1 rq_7_3 rfl lays_7 ww_377 d_Tr_readPerson_102 rfl ?_
          refine MM.iload_n (i := 2) rfl rfl d_Tr_readPerson_105 rfl ?_
          obtain ⟨k36, e37, hf⟩ := mm_bind hf
          refine MM.gI e37 (al_7_3f t_a1) d_Tr_readPerson_106 rfl ?_
          refine MM.iconst ic_m1 d_Tr_readPerson_107 rfl ?_
          obtain ⟨m75, m76⟩ := mm_ifE hf
          refine MM.icmp_ne (tgt := 113) d_Tr_readPerson_108 rfl rfl (fun c74 => ?_) (fun c74 => ?_)
          · replace hf := m76 c74
            refine MM.aload_n (i := 1) rfl rfl d_Tr_readPerson_113 rfl ?_
            refine MM.gR 7 4 t_a1 rq_7_4 rfl lays_7 ww_381 d_Tr_readPerson_114 rfl ?_
            refine MM.iload_n (i := 2) rfl rfl d_Tr_readPerson_117 rfl ?_
            refine MM.aload_n (i := 0) rfl rfl d_Tr_readPerson_118 rfl ?_
            refine MM.word (j := 2) (by decide) rfl ww_711 d_Tr_readPerson_119 rfl ?_
            obtain ⟨v39, e38, hf⟩ := mm_bind hf
            refine MM.callV1 (T_Ta_takeWord V l (some 2) h34 _ e38) (fun _ _ q => q) cal_Ta_takeWord rfl tg_33 ct_6 ww_704 ww_703 ww_702 (by decide) (by simp [Value.category]) d_Tr_readPerson_122 rfl ⟨rfl, rfl⟩ rfl ?_
            obtain ⟨j40, e73, hf⟩ := mm_bind hf
            have K41 : MM V l Y_Tr_readPerson 7 0 0 Z0 140 [(0, .ref 33), (1, .ref a1), (2, .int y1)] [.int j40.1, .int y1, .ref (a1 + 4)] j40.2 := by
              obtain ⟨k47, e48, hf⟩ := mm_bind hf
              obtain ⟨h49, e50, hf⟩ := mm_letE hf
              refine MM.sI e48 e50 (al_7_4f t_a1) d_Tr_readPerson_140 rfl ?_
              refine MM.aload_n (i := 1) rfl rfl d_Tr_readPerson_141 rfl ?_
              refine MM.gR 7 4 t_a1 rq_7_4 rfl lays_7 ww_381 d_Tr_readPerson_142 rfl ?_
              refine MM.iload_n (i := 2) rfl rfl d_Tr_readPerson_145 rfl ?_
              obtain ⟨k51, e52, hf⟩ := mm_bind hf
              refine MM.gI e52 (al_7_4f t_a1) d_Tr_readPerson_146 rfl ?_
              refine MM.iconst ic_m1 d_Tr_readPerson_147 rfl ?_
              obtain ⟨m71, m72⟩ := mm_ifE hf
              refine MM.icmp_eq (tgt := 160) d_Tr_readPerson_148 rfl rfl (fun c70 => ?_) (fun c70 => ?_)
              · replace hf := m71 c70
                refine MM.iconst ic_0 d_Tr_readPerson_160 rfl ?_
                obtain rfl := Option.some.inj hf
                subst hZ
                exact MM.zret (Or.inl rfl) rfl d_Tr_readPerson_161 ⟨rfl, rfl⟩
              · replace hf := m72 c70
                refine MM.aload_n (i := 0) rfl rfl d_Tr_readPerson_151 rfl ?_
                refine MM.bipush bp_59 d_Tr_readPerson_152 rfl ?_
                obtain ⟨v54, e53, hf⟩ := mm_bind hf
                refine MM.callV1 (T_Ta_takeSign V l 59 h49 _ e53) (fun _ _ q => q) cal_Ta_takeSign rfl tg_33 ct_6 ww_715 ww_714 ww_713 (by decide) (by simp [Value.category]) d_Tr_readPerson_154 rfl ⟨rfl, rfl⟩ rfl ?_
                obtain ⟨m68, m69⟩ := mm_ifE hf
                refine MM.if_ne (tgt := 162) d_Tr_readPerson_157 rfl rfl (fun c67 => ?_) (fun c67 => ?_)
                · replace hf := m69 c67
                  refine MM.aload_n (i := 1) rfl rfl d_Tr_readPerson_162 rfl ?_
                  refine MM.dup rfl d_Tr_readPerson_163 rfl ?_
                  refine MM.getI 7 t_a1 lays_7 gq_7_5 ww_384 d_Tr_readPerson_164 rfl ?_
                  refine MM.aload_n (i := 1) rfl rfl d_Tr_readPerson_167 rfl ?_
                  refine MM.gR 7 2 t_a1 rq_7_2 rfl lays_7 ww_374 d_Tr_readPerson_168 rfl ?_
                  refine MM.iload_n (i := 2) rfl rfl d_Tr_readPerson_171 rfl ?_
                  obtain ⟨k55, e56, hf⟩ := mm_bind hf
                  refine MM.gI e56 (al_7_2f t_a1) d_Tr_readPerson_172 rfl ?_
                  refine MM.iconst ic_3 d_Tr_readPerson_173 rfl ?_
                  obtain ⟨j57, e66, hf⟩ := mm_bind hf
                  have K58 : MM V l Y_Tr_readPerson 7 0 0 Z0 184 [(1, .ref a1)] [.int j57, .int (v54.2.1 a1 5), .ref a1] v54.2 := by
                    refine MM.ior d_Tr_readPerson_184 rfl ?_
                    obtain ⟨h62, e63, hf⟩ := mm_letE hf
                    refine MM.putI e63 7 t_a1 lays_7 toks_7 pq_7_5 ww_384 d_Tr_readPerson_185 rfl ?_
                    refine MM.aload_n (i := 1) rfl rfl d_Tr_readPerson_188 rfl ?_
                    refine MM.dup rfl d_Tr_readPerson_189 rfl ?_
                    refine MM.getI 7 t_a1 lays_7 gq_7_0 ww_367 d_Tr_readPerson_190 rfl ?_
                    refine MM.iconst ic_1 d_Tr_readPerson_193 rfl ?_
                    refine MM.iadd d_Tr_readPerson_194 rfl ?_
                    obtain ⟨h64, e65, hf⟩ := mm_letE hf
                    refine MM.putI e65 7 t_a1 lays_7 toks_7 pq_7_0 ww_367 d_Tr_readPerson_195 rfl ?_
                    refine MM.iconst ic_1 d_Tr_readPerson_198 rfl ?_
                    obtain rfl := Option.some.inj hf
                    subst hZ
                    exact MM.zret (Or.inr rfl) rfl d_Tr_readPerson_199 ⟨rfl, rfl⟩
                  clear hf
                  have hf := e66
                  clear e66
                  obtain ⟨m60, m61⟩ := mm_ifE hf
                  refine MM.icmp_ne (tgt := 183) d_Tr_readPerson_174 rfl rfl (fun c59 => ?_) (fun c59 => ?_)
                  · replace hf := m61 c59
                    refine MM.iconst ic_0 d_Tr_readPerson_183 rfl ?_
                    obtain rfl := Option.some.inj hf
                    exact MM.sub [1] (by rfl) K58
                  · replace hf := m60 c59
                    refine MM.iconst ic_1 d_Tr_readPerson_177 rfl ?_
                    refine MM.iload_n (i := 2) rfl rfl d_Tr_readPerson_178 rfl ?_
                    refine MM.ishl d_Tr_readPerson_179 rfl ?_
                    refine MM.goto (tgt := 184) d_Tr_readPerson_180 rfl ?_
                    obtain rfl := Option.some.inj hf
                    exact MM.sub [1] (by rfl) K58
                · replace hf := m68 c67
                  refine MM.iconst ic_0 d_Tr_readPerson_160 rfl ?_
                  obtain rfl := Option.some.inj hf
                  subst hZ
                  exact MM.zret (Or.inl rfl) rfl d_Tr_readPerson_161 ⟨rfl, rfl⟩
            clear hf
            have hf := e73
            clear e73
            obtain ⟨m45, m46⟩ := mm_ifE hf
            refine MM.if_eq (tgt := 139) d_Tr_readPerson_125 rfl rfl (fun c44 => ?_) (fun c44 => ?_)
            · replace hf := m45 c44
              refine MM.iconst ic_m1 d_Tr_readPerson_139 rfl ?_
              obtain rfl := Option.some.inj hf
              exact MM.sub [0, 1, 2] (by rfl) K41
            · replace hf := m46 c44
              refine MM.aload_n (i := 0) rfl rfl d_Tr_readPerson_128 rfl ?_
              refine MM.iconst ic_0 d_Tr_readPerson_129 rfl ?_
              refine MM.sipush sp_999 d_Tr_readPerson_130 rfl ?_
              obtain ⟨v43, e42, hf⟩ := mm_bind hf
              refine MM.callV1 (T_Ta_takeNumber V l 0 999 v39.2 _ e42) (fun _ _ q => q) cal_Ta_takeNumber rfl tg_33 ct_6 ww_709 ww_708 ww_707 (by decide) (by simp [Value.category]) d_Tr_readPerson_133 rfl ⟨rfl, rfl⟩ rfl ?_
              refine MM.goto (tgt := 140) d_Tr_readPerson_136 rfl ?_
              obtain rfl := Option.some.inj hf
              exact MM.sub [0, 1, 2] (by rfl) K41
          · replace hf := m75 c74
            refine MM.iconst ic_0 d_Tr_readPerson_111 rfl ?_
            obtain rfl := Option.some.inj hf
            subst hZ
            exact MM.zret (Or.inl rfl) rfl d_Tr_readPerson_112 ⟨rfl, rfl⟩
        clear hf
        have hf := e77
        clear e77
        obtain ⟨m30, m31⟩ := mm_ifE hf
        refine MM.if_eq (tgt := 99) d_Tr_readPerson_86 rfl rfl (fun c29 => ?_) (fun c29 => ?_)
        · replace hf := m30 c29
          refine MM.iconst ic_m1 d_Tr_readPerson_99 rfl ?_
          obtain rfl := Option.some.inj hf
          exact MM.sub [1, 2, 0] (by rfl) K26
        · replace hf := m31 c29
          refine MM.aload_n (i := 0) rfl rfl d_Tr_readPerson_89 rfl ?_
          refine MM.iconst ic_0 d_Tr_readPerson_90 rfl ?_
          refine MM.bipush bp_9 d_Tr_readPerson_91 rfl ?_
          obtain ⟨v28, e27, hf⟩ := mm_bind hf
          refine MM.callV1 (T_Ta_takeNumber V l 0 9 v24.2 _ e27) (fun _ _ q => q) cal_Ta_takeNumber rfl tg_33 ct_6 ww_709 ww_708 ww_707 (by decide) (by simp [Value.category]) d_Tr_readPerson_93 rfl ⟨rfl, rfl⟩ rfl ?_
          refine MM.goto (tgt := 100) d_Tr_readPerson_96 rfl ?_
          obtain rfl := Option.some.inj hf
          exact MM.sub [1, 2, 0] (by rfl) K26
      · replace hf := m83 c82
        refine MM.aload_n (i := 0) rfl rfl d_Tr_readPerson_64 rfl ?_
        refine MM.iconst ic_1 d_Tr_readPerson_65 rfl ?_
        obtain ⟨v79, e78, hf⟩ := mm_bind hf
        refine MM.callV1 (T_Ta_wrong V l 1 h17 _ e78) (fun _ _ q => q) cal_Ta_wrong rfl tg_33 ct_6 ww_671 ww_670 ww_669 (by decide) (by simp [Value.category]) d_Tr_readPerson_66 rfl ⟨rfl, rfl⟩ rfl ?_
        obtain ⟨b80, e81, hf⟩ := mm_bind hf
        obtain ⟨ob80, e81⟩ := mm_boE e81
        subst e81
        obtain rfl := Option.some.inj hf
        subst hZ
        exact MM.zret ob80 rfl d_Tr_readPerson_69 ⟨rfl, rfl⟩
    · replace hf := m86 c85
      refine MM.iconst ic_0 d_Tr_readPerson_39 rfl ?_
      obtain rfl := Option.some.inj hf
      subst hZ
      exact MM.zret (Or.inl rfl) rfl d_Tr_readPerson_40 ⟨rfl, rfl⟩
  · replace hf := m94 c92
    refine MM.aload_n (i := 0) rfl rfl d_Tr_readPerson_11 rfl ?_
    refine MM.iconst ic_5 d_Tr_readPerson_12 rfl ?_
    obtain ⟨v89, e88, hf⟩ := mm_bind hf
    refine MM.callV1 (T_Ta_wrong V l 5 h _ e88) (fun _ _ q => q) cal_Ta_wrong rfl tg_33 ct_6 ww_671 ww_670 ww_669 (by decide) (by simp [Value.category]) d_Tr_readPerson_13 rfl ⟨rfl, rfl⟩ rfl ?_
    obtain ⟨b90, e91, hf⟩ := mm_bind hf
    obtain ⟨ob90, e91⟩ := mm_boE e91
    subst e91
    obtain rfl := Option.some.inj hf
    subst hZ
    exact MM.zret ob90 rfl d_Tr_readPerson_16 ⟨rfl, rfl⟩
theorem d_To_findTold_0 : decode cX8_findTold 0 = .ok (.aload_n 1, 1) := by decide +kernel
theorem d_To_findTold_1 : decode cX8_findTold 1 = .ok (.invokevirtual 106, 3) := by decide +kernel
theorem d_To_findTold_4 : decode cX8_findTold 4 = .ok (.ifCond .ne 11, 3) := by decide +kernel
theorem d_To_findTold_7 : decode cX8_findTold 7 = .ok (.aload_n 1, 1) := by decide +kernel
theorem d_To_findTold_8 : decode cX8_findTold 8 = .ok (.iconst 1, 1) := by decide +kernel
theorem d_To_findTold_9 : decode cX8_findTold 9 = .ok (.invokevirtual 112, 3) := by decide +kernel
theorem d_To_findTold_12 : decode cX8_findTold 12 = .ok (.pop, 1) := by decide +kernel
theorem d_To_findTold_13 : decode cX8_findTold 13 = .ok (.iconst (-1), 1) := by decide +kernel
theorem d_To_findTold_14 : decode cX8_findTold 14 = .ok (.ireturn, 1) := by decide +kernel
theorem d_To_findTold_15 : decode cX8_findTold 15 = .ok (.iload_n 2, 1) := by decide +kernel
theorem d_To_findTold_16 : decode cX8_findTold 16 = .ok (.ifCond .eq 14, 3) := by decide +kernel
theorem d_To_findTold_19 : decode cX8_findTold 19 = .ok (.aload_n 0, 1) := by decide +kernel
theorem d_To_findTold_20 : decode cX8_findTold 20 = .ok (.aload_n 1, 1) := by decide +kernel
theorem d_To_findTold_21 : decode cX8_findTold 21 = .ok (.getfield 115, 3) := by decide +kernel
theorem d_To_findTold_24 : decode cX8_findTold 24 = .ok (.invokevirtual 119, 3) := by decide +kernel
theorem d_To_findTold_27 : decode cX8_findTold 27 = .ok (.goto 11, 3) := by decide +kernel
theorem d_To_findTold_30 : decode cX8_findTold 30 = .ok (.aload_n 0, 1) := by decide +kernel
theorem d_To_findTold_31 : decode cX8_findTold 31 = .ok (.aload_n 1, 1) := by decide +kernel
theorem d_To_findTold_32 : decode cX8_findTold 32 = .ok (.getfield 115, 3) := by decide +kernel
theorem d_To_findTold_35 : decode cX8_findTold 35 = .ok (.invokevirtual 123, 3) := by decide +kernel
theorem d_To_findTold_38 : decode cX8_findTold 38 = .ok (.istore_n 3, 1) := by decide +kernel
theorem d_To_findTold_39 : decode cX8_findTold 39 = .ok (.iload_n 3, 1) := by decide +kernel
theorem d_To_findTold_40 : decode cX8_findTold 40 = .ok (.iconst (-1), 1) := by decide +kernel
theorem d_To_findTold_41 : decode cX8_findTold 41 = .ok (.if_icmp .ne 9, 3) := by decide +kernel
theorem d_To_findTold_44 : decode cX8_findTold 44 = .ok (.aload_n 1, 1) := by decide +kernel
theorem d_To_findTold_45 : decode cX8_findTold 45 = .ok (.iconst 2, 1) := by decide +kernel
theorem d_To_findTold_46 : decode cX8_findTold 46 = .ok (.invokevirtual 112, 3) := by decide +kernel
theorem d_To_findTold_49 : decode cX8_findTold 49 = .ok (.pop, 1) := by decide +kernel
theorem d_To_findTold_50 : decode cX8_findTold 50 = .ok (.iload_n 3, 1) := by decide +kernel
theorem d_To_findTold_51 : decode cX8_findTold 51 = .ok (.ireturn, 1) := by decide +kernel
noncomputable def f_To_findTold (a0 : Nat) (x2 : Int32) (h : mm_H) : Option (Int32 × mm_H) := if mm_tg a0 = 7 then ((f_Ta_isName h).bind fun v2 => if v2 = 0 then ((f_Ta_wrong 1 h).bind fun v19 => some ((-1), v19.2)) else ((if x2 = 0 then ((f_To_findSecret a0 (h.2.1 33 6) h).bind fun v6 => some v6) else ((f_To_findPerson a0 (h.2.1 33 6) h).bind fun v8 => some v8) : Option Int32).bind fun j3 => if j3 = (-1) then ((f_Ta_wrong 2 h).bind fun v13 => some (j3, v13.2)) else (some (j3, h)))) else none
theorem T_To_findTold (V : mm_V) (l : Launch) (a0 : Nat) (x2 : Int32) (h : mm_H) (r : (Int32 × mm_H)) (hf : f_To_findTold a0 x2 h = some r) : MT V l Y_To_findTold 2 [.ref a0, .ref 33, .int x2] (fun r1 h1 => r1 = some (.int r.1) ∧ h1 = r.2) h := by
  unfold f_To_findTold at hf
  obtain ⟨t_a0, hf⟩ := mm_chkE hf
  refine MT.intro (pn_To rfl) [(0, .ref a0), (1, .ref 33), (2, .int x2)] rfl (Nat.le_of_ble_eq_true rfl) ?_
  generalize hZ : mm_Z V _ = Z0
  refine MM.aload_n (i := 1) rfl rfl d_To_findTold_0 rfl ?_
  obtain ⟨v2, e1, hf⟩ := mm_bind hf
  refine MM.callV1 (T_Ta_isName V l  h _ e1) (fun _ _ q => q) cal_Ta_isName rfl tg_33 ct_6 ww_679 ww_678 ww_743 (by decide) (by simp [Value.category]) d_To_findTold_1 rfl ⟨rfl, rfl⟩ rfl ?_
  obtain ⟨m21, m22⟩ := mm_ifE hf
  refine MM.if_ne (tgt := 15) d_To_findTold_4 rfl rfl (fun c20 => ?_) (fun c20 => ?_)
  · replace hf := m22 c20
    refine MM.iload_n (i := 2) rfl rfl d_To_findTold_15 rfl ?_
    obtain ⟨j3, e17, hf⟩ := mm_bind hf
    have K4 : MM V l Y_To_findTold 2 0 0 Z0 38 [(1, .ref 33)] [.int j3] h := by
      refine MM.istore_n (i := 3) (lv' := [(3, .int j3), (1, .ref 33)]) rfl rfl (Nat.le_of_ble_eq_true rfl) rfl d_To_findTold_38 rfl ?_
      refine MM.iload_n (i := 3) rfl rfl d_To_findTold_39 rfl ?_
      refine MM.iconst ic_m1 d_To_findTold_40 rfl ?_
      obtain ⟨m15, m16⟩ := mm_ifE hf
      refine MM.icmp_ne (tgt := 50) d_To_findTold_41 rfl rfl (fun c14 => ?_) (fun c14 => ?_)
      · replace hf := m16 c14
        refine MM.iload_n (i := 3) rfl rfl d_To_findTold_50 rfl ?_
        obtain rfl := Option.some.inj hf
        subst hZ
        exact MM.iret rfl d_To_findTold_51 ⟨rfl, rfl⟩
      · replace hf := m15 c14
        refine MM.aload_n (i := 1) rfl rfl d_To_findTold_44 rfl ?_
        refine MM.iconst ic_2 d_To_findTold_45 rfl ?_
        obtain ⟨v13, e12, hf⟩ := mm_bind hf
        refine MM.callV1 (T_Ta_wrong V l 2 h _ e12) (fun _ _ q => q) cal_Ta_wrong rfl tg_33 ct_6 ww_671 ww_670 ww_744 (by decide) (by simp [Value.category]) d_To_findTold_46 rfl ⟨rfl, rfl⟩ rfl ?_
        refine MM.pop rfl d_To_findTold_49 rfl ?_
        refine MM.iload_n (i := 3) rfl rfl d_To_findTold_50 rfl ?_
        obtain rfl := Option.some.inj hf
        subst hZ
        exact MM.iret rfl d_To_findTold_51 ⟨rfl, rfl⟩
    clear hf
    have hf := e17
    clear e17
    obtain ⟨m10, m11⟩ := mm_ifE hf
    refine MM.if_eq (tgt := 30) d_To_findTold_16 rfl rfl (fun c9 => ?_) (fun c9 => ?_)
    · replace hf := m10 c9
      refine MM.aload_n (i := 0) rfl rfl d_To_findTold_30 rfl ?_
      refine MM.aload_n (i := 1) rfl rfl d_To_findTold_31 rfl ?_
      refine MM.getL 6 tg_33 lays_6 gq_6_6 ww_164 d_To_findTold_32 rfl ?_
      obtain ⟨v6, e5, hf⟩ := mm_bind hf
      refine MM.callV1 (T_To_findSecret V l a0 (h.2.1 33 6) h _ e5) (fun _ _ q => q) cal_To_findSecret rfl t_a0 ct_7 ww_687 ww_686 ww_746 (by decide) (by simp [Value.category]) d_To_findTold_35 rfl ⟨rfl, rfl⟩ rfl ?_
      obtain rfl := Option.some.inj hf
      exact MM.sub [1] (by rfl) K4
    · replace hf := m11 c9
      refine MM.aload_n (i := 0) rfl rfl d_To_findTold_19 rfl ?_
      refine MM.aload_n (i := 1) rfl rfl d_To_findTold_20 rfl ?_
      refine MM.getL 6 tg_33 lays_6 gq_6_6 ww_164 d_To_findTold_21 rfl ?_
      obtain ⟨v8, e7, hf⟩ := mm_bind hf
      refine MM.callV1 (T_To_findPerson V l a0 (h.2.1 33 6) h _ e7) (fun _ _ q => q) cal_To_findPerson rfl t_a0 ct_7 ww_683 ww_682 ww_745 (by decide) (by simp [Value.category]) d_To_findTold_24 rfl ⟨rfl, rfl⟩ rfl ?_
      refine MM.goto (tgt := 38) d_To_findTold_27 rfl ?_
      obtain rfl := Option.some.inj hf
      exact MM.sub [1] (by rfl) K4
  · replace hf := m21 c20
    refine MM.aload_n (i := 1) rfl rfl d_To_findTold_7 rfl ?_
    refine MM.iconst ic_1 d_To_findTold_8 rfl ?_
    obtain ⟨v19, e18, hf⟩ := mm_bind hf
    refine MM.callV1 (T_Ta_wrong V l 1 h _ e18) (fun _ _ q => q) cal_Ta_wrong rfl tg_33 ct_6 ww_671 ww_670 ww_744 (by decide) (by simp [Value.category]) d_To_findTold_9 rfl ⟨rfl, rfl⟩ rfl ?_
    refine MM.pop rfl d_To_findTold_12 rfl ?_
    refine MM.iconst ic_m1 d_To_findTold_13 rfl ?_
    obtain rfl := Option.some.inj hf
    subst hZ
    exact MM.iret rfl d_To_findTold_14 ⟨rfl, rfl⟩
theorem d_To_takeTold_0 : decode cX8_takeTold 0 = .ok (.aload_n 0, 1) := by decide +kernel
theorem d_To_takeTold_1 : decode cX8_takeTold 1 = .ok (.aload_n 1, 1) := by decide +kernel
theorem d_To_takeTold_2 : decode cX8_takeTold 2 = .ok (.iload_n 2, 1) := by decide +kernel
theorem d_To_takeTold_3 : decode cX8_takeTold 3 = .ok (.invokevirtual 126, 3) := by decide +kernel
theorem d_To_takeTold_6 : decode cX8_takeTold 6 = .ok (.istore_n 3, 1) := by decide +kernel
theorem d_To_takeTold_7 : decode cX8_takeTold 7 = .ok (.iload_n 3, 1) := by decide +kernel
theorem d_To_takeTold_8 : decode cX8_takeTold 8 = .ok (.iconst (-1), 1) := by decide +kernel
theorem d_To_takeTold_9 : decode cX8_takeTold 9 = .ok (.if_icmp .eq 7, 3) := by decide +kernel
theorem d_To_takeTold_12 : decode cX8_takeTold 12 = .ok (.aload_n 1, 1) := by decide +kernel
theorem d_To_takeTold_13 : decode cX8_takeTold 13 = .ok (.invokevirtual 130, 3) := by decide +kernel
theorem d_To_takeTold_16 : decode cX8_takeTold 16 = .ok (.iload_n 3, 1) := by decide +kernel
theorem d_To_takeTold_17 : decode cX8_takeTold 17 = .ok (.ireturn, 1) := by decide +kernel
noncomputable def f_To_takeTold (a0 : Nat) (x2 : Int32) (h : mm_H) : Option (Int32 × mm_H) := if mm_tg a0 = 7 then ((f_To_findTold a0 x2 h).bind fun v2 => if v2.1 = (-1) then (some (v2.1, v2.2)) else ((f_Ta_next v2.2).bind fun v4 => some (v2.1, v4))) else none
theorem T_To_takeTold (V : mm_V) (l : Launch) (a0 : Nat) (x2 : Int32) (h : mm_H) (r : (Int32 × mm_H)) (hf : f_To_takeTold a0 x2 h = some r) : MT V l Y_To_takeTold 6 [.ref a0, .ref 33, .int x2] (fun r1 h1 => r1 = some (.int r.1) ∧ h1 = r.2) h := by
  unfold f_To_takeTold at hf
  obtain ⟨t_a0, hf⟩ := mm_chkE hf
  refine MT.intro (pn_To rfl) [(0, .ref a0), (1, .ref 33), (2, .int x2)] rfl (Nat.le_of_ble_eq_true rfl) ?_
  generalize hZ : mm_Z V _ = Z0
  refine MM.aload_n (i := 0) rfl rfl d_To_takeTold_0 rfl ?_
  refine MM.aload_n (i := 1) rfl rfl d_To_takeTold_1 rfl ?_
  refine MM.iload_n (i := 2) rfl rfl d_To_takeTold_2 rfl ?_
  obtain ⟨v2, e1, hf⟩ := mm_bind hf
  refine MM.callV1 (T_To_findTold V l a0 x2 h _ e1) (fun _ _ q => q) cal_To_findTold rfl t_a0 ct_7 ww_741 ww_740 ww_739 (by decide) (by simp [Value.category]) d_To_takeTold_3 rfl ⟨rfl, rfl⟩ rfl ?_
  refine MM.istore_n (i := 3) (lv' := [(3, .int v2.1), (0, .ref a0), (1, .ref 33), (2, .int x2)]) rfl rfl (Nat.le_of_ble_eq_true rfl) rfl d_To_takeTold_6 rfl ?_
  refine MM.iload_n (i := 3) rfl rfl d_To_takeTold_7 rfl ?_
  refine MM.iconst ic_m1 d_To_takeTold_8 rfl ?_
  obtain ⟨m6, m7⟩ := mm_ifE hf
  refine MM.icmp_eq (tgt := 16) d_To_takeTold_9 rfl rfl (fun c5 => ?_) (fun c5 => ?_)
  · replace hf := m6 c5
    refine MM.iload_n (i := 3) rfl rfl d_To_takeTold_16 rfl ?_
    obtain rfl := Option.some.inj hf
    subst hZ
    exact MM.iret rfl d_To_takeTold_17 ⟨rfl, rfl⟩
  · replace hf := m7 c5
    refine MM.aload_n (i := 1) rfl rfl d_To_takeTold_12 rfl ?_
    obtain ⟨v4, e3, hf⟩ := mm_bind hf
    refine MM.callV0 (T_Ta_next V l  v2.2 _ e3) (fun _ _ q => q) cal_Ta_next rfl tg_33 ct_6 ww_561 ww_560 ww_747 (by decide) (by simp [Value.category]) d_To_takeTold_13 rfl ⟨rfl, rfl⟩ rfl ?_
    refine MM.iload_n (i := 3) rfl rfl d_To_takeTold_16 rfl ?_
    obtain rfl := Option.some.inj hf
    subst hZ
    exact MM.iret rfl d_To_takeTold_17 ⟨rfl, rfl⟩
theorem d_Tr_readOf_0 : decode cX9_readOf 0 = .ok (.aload_n 0, 1) := by decide +kernel
theorem d_Tr_readOf_1 : decode cX9_readOf 1 = .ok (.getstatic 178, 3) := by decide +kernel
theorem d_Tr_readOf_4 : decode cX9_readOf 4 = .ok (.invokevirtual 125, 3) := by decide +kernel
theorem d_Tr_readOf_7 : decode cX9_readOf 7 = .ok (.ifCond .ne 5, 3) := by decide +kernel
theorem d_Tr_readOf_10 : decode cX9_readOf 10 = .ok (.iconst 0, 1) := by decide +kernel
theorem d_Tr_readOf_11 : decode cX9_readOf 11 = .ok (.ireturn, 1) := by decide +kernel
theorem d_Tr_readOf_12 : decode cX9_readOf 12 = .ok (.aload_n 1, 1) := by decide +kernel
theorem d_Tr_readOf_13 : decode cX9_readOf 13 = .ok (.getfield 181, 3) := by decide +kernel
theorem d_Tr_readOf_16 : decode cX9_readOf 16 = .ok (.iload_n 2, 1) := by decide +kernel
theorem d_Tr_readOf_17 : decode cX9_readOf 17 = .ok (.aload_n 1, 1) := by decide +kernel
theorem d_Tr_readOf_18 : decode cX9_readOf 18 = .ok (.aload_n 0, 1) := by decide +kernel
theorem d_Tr_readOf_19 : decode cX9_readOf 19 = .ok (.iconst 1, 1) := by decide +kernel
theorem d_Tr_readOf_20 : decode cX9_readOf 20 = .ok (.invokevirtual 184, 3) := by decide +kernel
theorem d_Tr_readOf_23 : decode cX9_readOf 23 = .ok (.iastore, 1) := by decide +kernel
theorem d_Tr_readOf_24 : decode cX9_readOf 24 = .ok (.aload_n 1, 1) := by decide +kernel
theorem d_Tr_readOf_25 : decode cX9_readOf 25 = .ok (.getfield 181, 3) := by decide +kernel
theorem d_Tr_readOf_28 : decode cX9_readOf 28 = .ok (.iload_n 2, 1) := by decide +kernel
theorem d_Tr_readOf_29 : decode cX9_readOf 29 = .ok (.iaload, 1) := by decide +kernel
theorem d_Tr_readOf_30 : decode cX9_readOf 30 = .ok (.iconst (-1), 1) := by decide +kernel
theorem d_Tr_readOf_31 : decode cX9_readOf 31 = .ok (.if_icmp .ne 5, 3) := by decide +kernel
theorem d_Tr_readOf_34 : decode cX9_readOf 34 = .ok (.iconst 0, 1) := by decide +kernel
theorem d_Tr_readOf_35 : decode cX9_readOf 35 = .ok (.ireturn, 1) := by decide +kernel
theorem d_Tr_readOf_36 : decode cX9_readOf 36 = .ok (.aload_n 1, 1) := by decide +kernel
theorem d_Tr_readOf_37 : decode cX9_readOf 37 = .ok (.getfield 187, 3) := by decide +kernel
theorem d_Tr_readOf_40 : decode cX9_readOf 40 = .ok (.iload_n 2, 1) := by decide +kernel
theorem d_Tr_readOf_41 : decode cX9_readOf 41 = .ok (.aload_n 0, 1) := by decide +kernel
theorem d_Tr_readOf_42 : decode cX9_readOf 42 = .ok (.getstatic 190, 3) := by decide +kernel
theorem d_Tr_readOf_45 : decode cX9_readOf 45 = .ok (.invokevirtual 125, 3) := by decide +kernel
theorem d_Tr_readOf_48 : decode cX9_readOf 48 = .ok (.ifCond .eq 13, 3) := by decide +kernel
theorem d_Tr_readOf_51 : decode cX9_readOf 51 = .ok (.aload_n 0, 1) := by decide +kernel
theorem d_Tr_readOf_52 : decode cX9_readOf 52 = .ok (.iconst 1, 1) := by decide +kernel
theorem d_Tr_readOf_53 : decode cX9_readOf 53 = .ok (.bipush 99, 2) := by decide +kernel
theorem d_Tr_readOf_55 : decode cX9_readOf 55 = .ok (.invokevirtual 129, 3) := by decide +kernel
theorem d_Tr_readOf_58 : decode cX9_readOf 58 = .ok (.goto 4, 3) := by decide +kernel
theorem d_Tr_readOf_61 : decode cX9_readOf 61 = .ok (.iconst (-1), 1) := by decide +kernel
theorem d_Tr_readOf_62 : decode cX9_readOf 62 = .ok (.iastore, 1) := by decide +kernel
theorem d_Tr_readOf_63 : decode cX9_readOf 63 = .ok (.aload_n 1, 1) := by decide +kernel
theorem d_Tr_readOf_64 : decode cX9_readOf 64 = .ok (.getfield 187, 3) := by decide +kernel
theorem d_Tr_readOf_67 : decode cX9_readOf 67 = .ok (.iload_n 2, 1) := by decide +kernel
theorem d_Tr_readOf_68 : decode cX9_readOf 68 = .ok (.iaload, 1) := by decide +kernel
theorem d_Tr_readOf_69 : decode cX9_readOf 69 = .ok (.iconst (-1), 1) := by decide +kernel
theorem d_Tr_readOf_70 : decode cX9_readOf 70 = .ok (.if_icmp .eq 7, 3) := by decide +kernel
theorem d_Tr_readOf_73 : decode cX9_readOf 73 = .ok (.iconst 1, 1) := by decide +kernel
theorem d_Tr_readOf_74 : decode cX9_readOf 74 = .ok (.goto 4, 3) := by decide +kernel
theorem d_Tr_readOf_77 : decode cX9_readOf 77 = .ok (.iconst 0, 1) := by decide +kernel
theorem d_Tr_readOf_78 : decode cX9_readOf 78 = .ok (.ireturn, 1) := by decide +kernel
noncomputable def f_Tr_readOf (a1 : Nat) (x2 : Int32) (h : mm_H) : Option (Int32 × mm_H) := if mm_tg a1 = 7 then ((f_Ta_takeWord (some 4) h).bind fun v2 => if v2.1 = 0 then (some (0, v2.2)) else ((f_To_takeTold a1 1 v2.2).bind fun v4 => (mm_ix x2 10).bind fun k5 => mm_let (mm_pI v4.2 (a1 + 6) k5 v4.1) fun h7 => (mm_ix x2 10).bind fun k9 => if (h7.1 (a1 + 6) k9) = (-1) then (some (0, h7)) else ((f_Ta_takeWord (some 5) h7).bind fun v12 => (if v12.1 = 0 then (some ((-1), v12.2)) else ((f_Ta_takeNumber 1 99 v12.2).bind fun v16 => some (v16.1, v16.2)) : Option (Int32 × mm_H)).bind fun j13 => (mm_ix x2 10).bind fun k20 => mm_let (mm_pI j13.2 (a1 + 7) k20 j13.1) fun h22 => (mm_ix x2 10).bind fun k24 => if (h22.1 (a1 + 7) k24) = (-1) then (some (0, h22)) else (some (1, h22))))) else none
theorem T_Tr_readOf (V : mm_V) (l : Launch) (a1 : Nat) (x2 : Int32) (h : mm_H) (r : (Int32 × mm_H)) (hf : f_Tr_readOf a1 x2 h = some r) : MT V l Y_Tr_readOf 7 [.ref 33, .ref a1, .int x2] (fun r1 h1 => r1 = some (.int r.1) ∧ h1 = r.2) h := by
  unfold f_Tr_readOf at hf
  obtain ⟨t_a1, hf⟩ := mm_chkE hf
  refine MT.intro (pn_Tr rfl) [(0, .ref 33), (1, .ref a1), (2, .int x2)] rfl (Nat.le_of_ble_eq_true rfl) ?_
  generalize hZ : mm_Z V _ = Z0
  refine MM.aload_n (i := 0) rfl rfl d_Tr_readOf_0 rfl ?_
  refine MM.word (j := 4) (by decide) rfl ww_733 d_Tr_readOf_1 rfl ?_
  obtain ⟨v2, e1, hf⟩ := mm_bind hf
  refine MM.callV1 (T_Ta_takeWord V l (some 4) h _ e1) (fun _ _ q => q) cal_Ta_takeWord rfl tg_33 ct_6 ww_704 ww_703 ww_702 (by decide) (by simp [Value.category]) d_Tr_readOf_4 rfl ⟨rfl, rfl⟩ rfl ?_
  obtain ⟨m34, m35⟩ := mm_ifE hf
  refine MM.if_ne (tgt := 12) d_Tr_readOf_7 rfl rfl (fun c33 => ?_) (fun c33 => ?_)
  · replace hf := m35 c33
    refine MM.aload_n (i := 1) rfl rfl d_Tr_readOf_12 rfl ?_
    refine MM.gR 7 6 t_a1 rq_7_9 rfl lays_7 ww_399 d_Tr_readOf_13 rfl ?_
    refine MM.iload_n (i := 2) rfl rfl d_Tr_readOf_16 rfl ?_
    refine MM.aload_n (i := 1) rfl rfl d_Tr_readOf_17 rfl ?_
    refine MM.aload_n (i := 0) rfl rfl d_Tr_readOf_18 rfl ?_
    refine MM.iconst ic_1 d_Tr_readOf_19 rfl ?_
    obtain ⟨v4, e3, hf⟩ := mm_bind hf
    refine MM.callV1 (T_To_takeTold V l a1 1 v2.2 _ e3) (fun _ _ q => q) cal_To_takeTold rfl t_a1 ct_7 ww_737 ww_736 ww_735 (by decide) (by simp [Value.category]) d_Tr_readOf_20 rfl ⟨rfl, rfl⟩ rfl ?_
    obtain ⟨k5, e6, hf⟩ := mm_bind hf
    obtain ⟨h7, e8, hf⟩ := mm_letE hf
    refine MM.sI e6 e8 (al_7_9f t_a1) d_Tr_readOf_23 rfl ?_
    refine MM.aload_n (i := 1) rfl rfl d_Tr_readOf_24 rfl ?_
    refine MM.gR 7 6 t_a1 rq_7_9 rfl lays_7 ww_399 d_Tr_readOf_25 rfl ?_
    refine MM.iload_n (i := 2) rfl rfl d_Tr_readOf_28 rfl ?_
    obtain ⟨k9, e10, hf⟩ := mm_bind hf
    refine MM.gI e10 (al_7_9f t_a1) d_Tr_readOf_29 rfl ?_
    refine MM.iconst ic_m1 d_Tr_readOf_30 rfl ?_
    obtain ⟨m31, m32⟩ := mm_ifE hf
    refine MM.icmp_ne (tgt := 36) d_Tr_readOf_31 rfl rfl (fun c30 => ?_) (fun c30 => ?_)
    · replace hf := m32 c30
      refine MM.aload_n (i := 1) rfl rfl d_Tr_readOf_36 rfl ?_
      refine MM.gR 7 7 t_a1 rq_7_10 rfl lays_7 ww_403 d_Tr_readOf_37 rfl ?_
      refine MM.iload_n (i := 2) rfl rfl d_Tr_readOf_40 rfl ?_
      refine MM.aload_n (i := 0) rfl rfl d_Tr_readOf_41 rfl ?_
      refine MM.word (j := 5) (by decide) rfl ww_748 d_Tr_readOf_42 rfl ?_
      obtain ⟨v12, e11, hf⟩ := mm_bind hf
      refine MM.callV1 (T_Ta_takeWord V l (some 5) h7 _ e11) (fun _ _ q => q) cal_Ta_takeWord rfl tg_33 ct_6 ww_704 ww_703 ww_702 (by decide) (by simp [Value.category]) d_Tr_readOf_45 rfl ⟨rfl, rfl⟩ rfl ?_
      obtain ⟨j13, e29, hf⟩ := mm_bind hf
      have K14 : MM V l Y_Tr_readOf 7 0 0 Z0 62 [(1, .ref a1), (2, .int x2)] [.int j13.1, .int x2, .ref (a1 + 7)] j13.2 := by
        obtain ⟨k20, e21, hf⟩ := mm_bind hf
        obtain ⟨h22, e23, hf⟩ := mm_letE hf
        refine MM.sI e21 e23 (al_7_10f t_a1) d_Tr_readOf_62 rfl ?_
        refine MM.aload_n (i := 1) rfl rfl d_Tr_readOf_63 rfl ?_
        refine MM.gR 7 7 t_a1 rq_7_10 rfl lays_7 ww_403 d_Tr_readOf_64 rfl ?_
        refine MM.iload_n (i := 2) rfl rfl d_Tr_readOf_67 rfl ?_
        obtain ⟨k24, e25, hf⟩ := mm_bind hf
        refine MM.gI e25 (al_7_10f t_a1) d_Tr_readOf_68 rfl ?_
        refine MM.iconst ic_m1 d_Tr_readOf_69 rfl ?_
        obtain ⟨m27, m28⟩ := mm_ifE hf
        refine MM.icmp_eq (tgt := 77) d_Tr_readOf_70 rfl rfl (fun c26 => ?_) (fun c26 => ?_)
        · replace hf := m27 c26
          refine MM.iconst ic_0 d_Tr_readOf_77 rfl ?_
          obtain rfl := Option.some.inj hf
          subst hZ
          exact MM.zret (Or.inl rfl) rfl d_Tr_readOf_78 ⟨rfl, rfl⟩
        · replace hf := m28 c26
          refine MM.iconst ic_1 d_Tr_readOf_73 rfl ?_
          refine MM.goto (tgt := 78) d_Tr_readOf_74 rfl ?_
          obtain rfl := Option.some.inj hf
          subst hZ
          exact MM.zret (Or.inr rfl) rfl d_Tr_readOf_78 ⟨rfl, rfl⟩
      clear hf
      have hf := e29
      clear e29
      obtain ⟨m18, m19⟩ := mm_ifE hf
      refine MM.if_eq (tgt := 61) d_Tr_readOf_48 rfl rfl (fun c17 => ?_) (fun c17 => ?_)
      · replace hf := m18 c17
        refine MM.iconst ic_m1 d_Tr_readOf_61 rfl ?_
        obtain rfl := Option.some.inj hf
        exact MM.sub [1, 2] (by rfl) K14
      · replace hf := m19 c17
        refine MM.aload_n (i := 0) rfl rfl d_Tr_readOf_51 rfl ?_
        refine MM.iconst ic_1 d_Tr_readOf_52 rfl ?_
        refine MM.bipush bp_99 d_Tr_readOf_53 rfl ?_
        obtain ⟨v16, e15, hf⟩ := mm_bind hf
        refine MM.callV1 (T_Ta_takeNumber V l 1 99 v12.2 _ e15) (fun _ _ q => q) cal_Ta_takeNumber rfl tg_33 ct_6 ww_709 ww_708 ww_707 (by decide) (by simp [Value.category]) d_Tr_readOf_55 rfl ⟨rfl, rfl⟩ rfl ?_
        refine MM.goto (tgt := 62) d_Tr_readOf_58 rfl ?_
        obtain rfl := Option.some.inj hf
        exact MM.sub [1, 2] (by rfl) K14
    · replace hf := m31 c30
      refine MM.iconst ic_0 d_Tr_readOf_34 rfl ?_
      obtain rfl := Option.some.inj hf
      subst hZ
      exact MM.zret (Or.inl rfl) rfl d_Tr_readOf_35 ⟨rfl, rfl⟩
  · replace hf := m34 c33
    refine MM.iconst ic_0 d_Tr_readOf_10 rfl ?_
    obtain rfl := Option.some.inj hf
    subst hZ
    exact MM.zret (Or.inl rfl) rfl d_Tr_readOf_11 ⟨rfl, rfl⟩
theorem d_Tr_readOn_0 : decode cX9_readOn 0 = .ok (.aload_n 1, 1) := by decide +kernel
theorem d_Tr_readOn_1 : decode cX9_readOn 1 = .ok (.getfield 193, 3) := by decide +kernel
theorem d_Tr_readOn_4 : decode cX9_readOn 4 = .ok (.iload_n 2, 1) := by decide +kernel
theorem d_Tr_readOn_5 : decode cX9_readOn 5 = .ok (.iconst (-1), 1) := by decide +kernel
theorem d_Tr_readOn_6 : decode cX9_readOn 6 = .ok (.iastore, 1) := by decide +kernel
theorem d_Tr_readOn_7 : decode cX9_readOn 7 = .ok (.aload_n 0, 1) := by decide +kernel
theorem d_Tr_readOn_8 : decode cX9_readOn 8 = .ok (.getfield 32, 3) := by decide +kernel
theorem d_Tr_readOn_11 : decode cX9_readOn 11 = .ok (.getstatic 196, 3) := by decide +kernel
theorem d_Tr_readOn_14 : decode cX9_readOn 14 = .ok (.if_acmp .eq 5, 3) := by decide +kernel
theorem d_Tr_readOn_17 : decode cX9_readOn 17 = .ok (.iconst 1, 1) := by decide +kernel
theorem d_Tr_readOn_18 : decode cX9_readOn 18 = .ok (.ireturn, 1) := by decide +kernel
theorem d_Tr_readOn_19 : decode cX9_readOn 19 = .ok (.aload_n 0, 1) := by decide +kernel
theorem d_Tr_readOn_20 : decode cX9_readOn 20 = .ok (.invokevirtual 87, 3) := by decide +kernel
theorem d_Tr_readOn_23 : decode cX9_readOn 23 = .ok (.aload_n 1, 1) := by decide +kernel
theorem d_Tr_readOn_24 : decode cX9_readOn 24 = .ok (.getfield 193, 3) := by decide +kernel
theorem d_Tr_readOn_27 : decode cX9_readOn 27 = .ok (.iload_n 2, 1) := by decide +kernel
theorem d_Tr_readOn_28 : decode cX9_readOn 28 = .ok (.aload_n 1, 1) := by decide +kernel
theorem d_Tr_readOn_29 : decode cX9_readOn 29 = .ok (.aload_n 0, 1) := by decide +kernel
theorem d_Tr_readOn_30 : decode cX9_readOn 30 = .ok (.iconst 0, 1) := by decide +kernel
theorem d_Tr_readOn_31 : decode cX9_readOn 31 = .ok (.invokevirtual 184, 3) := by decide +kernel
theorem d_Tr_readOn_34 : decode cX9_readOn 34 = .ok (.iastore, 1) := by decide +kernel
theorem d_Tr_readOn_35 : decode cX9_readOn 35 = .ok (.aload_n 1, 1) := by decide +kernel
theorem d_Tr_readOn_36 : decode cX9_readOn 36 = .ok (.getfield 193, 3) := by decide +kernel
theorem d_Tr_readOn_39 : decode cX9_readOn 39 = .ok (.iload_n 2, 1) := by decide +kernel
theorem d_Tr_readOn_40 : decode cX9_readOn 40 = .ok (.iaload, 1) := by decide +kernel
theorem d_Tr_readOn_41 : decode cX9_readOn 41 = .ok (.iconst (-1), 1) := by decide +kernel
theorem d_Tr_readOn_42 : decode cX9_readOn 42 = .ok (.if_icmp .eq 7, 3) := by decide +kernel
theorem d_Tr_readOn_45 : decode cX9_readOn 45 = .ok (.iconst 1, 1) := by decide +kernel
theorem d_Tr_readOn_46 : decode cX9_readOn 46 = .ok (.goto 4, 3) := by decide +kernel
theorem d_Tr_readOn_49 : decode cX9_readOn 49 = .ok (.iconst 0, 1) := by decide +kernel
theorem d_Tr_readOn_50 : decode cX9_readOn 50 = .ok (.ireturn, 1) := by decide +kernel
noncomputable def f_Tr_readOn (a1 : Nat) (x2 : Int32) (h : mm_H) : Option (Int32 × mm_H) := if mm_tg a1 = 7 then ((mm_ix x2 10).bind fun k1 => mm_let (mm_pI h (a1 + 8) k1 (-1)) fun h3 => (mm_gW h3).bind fun wd5 => if wd5 = (some 6) then ((f_Ta_next h3).bind fun v8 => (f_To_takeTold a1 0 v8).bind fun v10 => (mm_ix x2 10).bind fun k11 => mm_let (mm_pI v10.2 (a1 + 8) k11 v10.1) fun h13 => (mm_ix x2 10).bind fun k15 => if (h13.1 (a1 + 8) k15) = (-1) then (some (0, h13)) else (some (1, h13))) else (some (1, h3))) else none
theorem T_Tr_readOn (V : mm_V) (l : Launch) (a1 : Nat) (x2 : Int32) (h : mm_H) (r : (Int32 × mm_H)) (hf : f_Tr_readOn a1 x2 h = some r) : MT V l Y_Tr_readOn 7 [.ref 33, .ref a1, .int x2] (fun r1 h1 => r1 = some (.int r.1) ∧ h1 = r.2) h := by
  unfold f_Tr_readOn at hf
  obtain ⟨t_a1, hf⟩ := mm_chkE hf
  refine MT.intro (pn_Tr rfl) [(0, .ref 33), (1, .ref a1), (2, .int x2)] rfl (Nat.le_of_ble_eq_true rfl) ?_
  generalize hZ : mm_Z V _ = Z0
  refine MM.aload_n (i := 1) rfl rfl d_Tr_readOn_0 rfl ?_
  refine MM.gR 7 8 t_a1 rq_7_11 rfl lays_7 ww_407 d_Tr_readOn_1 rfl ?_
  refine MM.iload_n (i := 2) rfl rfl d_Tr_readOn_4 rfl ?_
  refine MM.iconst ic_m1 d_Tr_readOn_5 rfl ?_
  obtain ⟨k1, e2, hf⟩ := mm_bind hf
  obtain ⟨h3, e4, hf⟩ := mm_letE hf
  refine MM.sI e2 e4 (al_7_11f t_a1) d_Tr_readOn_6 rfl ?_
  refine MM.aload_n (i := 0) rfl rfl d_Tr_readOn_7 rfl ?_
  obtain ⟨wd5, e6, hf⟩ := mm_bind hf
  obtain ⟨e6, b_wd5⟩ := mm_gWE e6
  refine MM.gW e6 tg_33 wq_7 lays_6 ww_166 d_Tr_readOn_8 rfl ?_
  refine MM.word (j := 6) (by decide) rfl ww_753 d_Tr_readOn_11 rfl ?_
  obtain ⟨m21, m22⟩ := mm_ifE hf
  refine MM.acmp_eq b_wd5 (fun _ q => by cases q; decide) (tgt := 19) d_Tr_readOn_14 rfl rfl (fun c20 => ?_) (fun c20 => ?_)
  · replace hf := m21 c20
    refine MM.aload_n (i := 0) rfl rfl d_Tr_readOn_19 rfl ?_
    obtain ⟨v8, e7, hf⟩ := mm_bind hf
    refine MM.callV0 (T_Ta_next V l  h3 _ e7) (fun _ _ q => q) cal_Ta_next rfl tg_33 ct_6 ww_561 ww_560 ww_673 (by decide) (by simp [Value.category]) d_Tr_readOn_20 rfl ⟨rfl, rfl⟩ rfl ?_
    refine MM.aload_n (i := 1) rfl rfl d_Tr_readOn_23 rfl ?_
    refine MM.gR 7 8 t_a1 rq_7_11 rfl lays_7 ww_407 d_Tr_readOn_24 rfl ?_
    refine MM.iload_n (i := 2) rfl rfl d_Tr_readOn_27 rfl ?_
    refine MM.aload_n (i := 1) rfl rfl d_Tr_readOn_28 rfl ?_
    refine MM.aload_n (i := 0) rfl rfl d_Tr_readOn_29 rfl ?_
    refine MM.iconst ic_0 d_Tr_readOn_30 rfl ?_
    obtain ⟨v10, e9, hf⟩ := mm_bind hf
    refine MM.callV1 (T_To_takeTold V l a1 0 v8 _ e9) (fun _ _ q => q) cal_To_takeTold rfl t_a1 ct_7 ww_737 ww_736 ww_735 (by decide) (by simp [Value.category]) d_Tr_readOn_31 rfl ⟨rfl, rfl⟩ rfl ?_
    obtain ⟨k11, e12, hf⟩ := mm_bind hf
    obtain ⟨h13, e14, hf⟩ := mm_letE hf
    refine MM.sI e12 e14 (al_7_11f t_a1) d_Tr_readOn_34 rfl ?_
    refine MM.aload_n (i := 1) rfl rfl d_Tr_readOn_35 rfl ?_
    refine MM.gR 7 8 t_a1 rq_7_11 rfl lays_7 ww_407 d_Tr_readOn_36 rfl ?_
    refine MM.iload_n (i := 2) rfl rfl d_Tr_readOn_39 rfl ?_
    obtain ⟨k15, e16, hf⟩ := mm_bind hf
    refine MM.gI e16 (al_7_11f t_a1) d_Tr_readOn_40 rfl ?_
    refine MM.iconst ic_m1 d_Tr_readOn_41 rfl ?_
    obtain ⟨m18, m19⟩ := mm_ifE hf
    refine MM.icmp_eq (tgt := 49) d_Tr_readOn_42 rfl rfl (fun c17 => ?_) (fun c17 => ?_)
    · replace hf := m18 c17
      refine MM.iconst ic_0 d_Tr_readOn_49 rfl ?_
      obtain rfl := Option.some.inj hf
      subst hZ
      exact MM.zret (Or.inl rfl) rfl d_Tr_readOn_50 ⟨rfl, rfl⟩
    · replace hf := m19 c17
      refine MM.iconst ic_1 d_Tr_readOn_45 rfl ?_
      refine MM.goto (tgt := 50) d_Tr_readOn_46 rfl ?_
      obtain rfl := Option.some.inj hf
      subst hZ
      exact MM.zret (Or.inr rfl) rfl d_Tr_readOn_50 ⟨rfl, rfl⟩
  · replace hf := m22 c20
    refine MM.iconst ic_1 d_Tr_readOn_17 rfl ?_
    obtain rfl := Option.some.inj hf
    subst hZ
    exact MM.zret (Or.inr rfl) rfl d_Tr_readOn_18 ⟨rfl, rfl⟩
theorem d_X_bit_0 : decode cX11_bit 0 = .ok (.iload_n 0, 1) := by decide +kernel
theorem d_X_bit_1 : decode cX11_bit 1 = .ok (.iload_n 1, 1) := by decide +kernel
theorem d_X_bit_2 : decode cX11_bit 2 = .ok (.ishr, 1) := by decide +kernel
theorem d_X_bit_3 : decode cX11_bit 3 = .ok (.iconst 1, 1) := by decide +kernel
theorem d_X_bit_4 : decode cX11_bit 4 = .ok (.iand, 1) := by decide +kernel
theorem d_X_bit_5 : decode cX11_bit 5 = .ok (.ireturn, 1) := by decide +kernel
noncomputable def f_X_bit (x0 : Int32) (x1 : Int32) : Option Int32 := some ((x0 >>> (x1 &&& 31)) &&& 1)
theorem T_X_bit (V : mm_V) (l : Launch) (x0 : Int32) (x1 : Int32) (h : mm_H) (r : Int32) (hf : f_X_bit x0 x1 = some r) : MT V l Y_X_bit 1 [.int x0, .int x1] (fun r1 h1 => r1 = some (.int r) ∧ h1 = h) h := by
  unfold f_X_bit at hf
  refine MT.intro (pn_X rfl) [(0, .int x0), (1, .int x1)] rfl (Nat.le_of_ble_eq_true rfl) ?_
  generalize hZ : mm_Z V _ = Z0
  refine MM.iload_n (i := 0) rfl rfl d_X_bit_0 rfl ?_
  refine MM.iload_n (i := 1) rfl rfl d_X_bit_1 rfl ?_
  refine MM.ishr d_X_bit_2 rfl ?_
  refine MM.iconst ic_1 d_X_bit_3 rfl ?_
  refine MM.iand d_X_bit_4 rfl ?_
  obtain rfl := Option.some.inj hf
  subst hZ
  exact MM.iret rfl d_X_bit_5 ⟨rfl, rfl⟩
theorem d_To_takeSet_0 : decode cX8_takeSet 0 = .ok (.iconst 0, 1) := by decide +kernel
theorem d_To_takeSet_1 : decode cX8_takeSet 1 = .ok (.istore_n 3, 1) := by decide +kernel
theorem d_To_takeSet_2 : decode cX8_takeSet 2 = .ok (.iconst 0, 1) := by decide +kernel
theorem d_To_takeSet_3 : decode cX8_takeSet 3 = .ok (.istore 4, 2) := by decide +kernel
theorem d_To_takeSet_5 : decode cX8_takeSet 5 = .ok (.iload 4, 2) := by decide +kernel
theorem d_To_takeSet_7 : decode cX8_takeSet 7 = .ok (.bipush 10, 2) := by decide +kernel
theorem d_To_takeSet_9 : decode cX8_takeSet 9 = .ok (.if_icmp .gt 67, 3) := by decide +kernel
theorem d_To_takeSet_12 : decode cX8_takeSet 12 = .ok (.iload_n 3, 1) := by decide +kernel
theorem d_To_takeSet_13 : decode cX8_takeSet 13 = .ok (.ifCond .eq 12, 3) := by decide +kernel
theorem d_To_takeSet_16 : decode cX8_takeSet 16 = .ok (.aload_n 1, 1) := by decide +kernel
theorem d_To_takeSet_17 : decode cX8_takeSet 17 = .ok (.bipush 59, 2) := by decide +kernel
theorem d_To_takeSet_19 : decode cX8_takeSet 19 = .ok (.invokevirtual 133, 3) := by decide +kernel
theorem d_To_takeSet_22 : decode cX8_takeSet 22 = .ok (.ifCond .ne 54, 3) := by decide +kernel
theorem d_To_takeSet_25 : decode cX8_takeSet 25 = .ok (.aload_n 0, 1) := by decide +kernel
theorem d_To_takeSet_26 : decode cX8_takeSet 26 = .ok (.aload_n 1, 1) := by decide +kernel
theorem d_To_takeSet_27 : decode cX8_takeSet 27 = .ok (.iload_n 2, 1) := by decide +kernel
theorem d_To_takeSet_28 : decode cX8_takeSet 28 = .ok (.invokevirtual 126, 3) := by decide +kernel
theorem d_To_takeSet_31 : decode cX8_takeSet 31 = .ok (.istore 5, 2) := by decide +kernel
theorem d_To_takeSet_33 : decode cX8_takeSet 33 = .ok (.iload 5, 2) := by decide +kernel
theorem d_To_takeSet_35 : decode cX8_takeSet 35 = .ok (.iconst (-1), 1) := by decide +kernel
theorem d_To_takeSet_36 : decode cX8_takeSet 36 = .ok (.if_icmp .ne 5, 3) := by decide +kernel
theorem d_To_takeSet_39 : decode cX8_takeSet 39 = .ok (.iconst (-1), 1) := by decide +kernel
theorem d_To_takeSet_40 : decode cX8_takeSet 40 = .ok (.ireturn, 1) := by decide +kernel
theorem d_To_takeSet_41 : decode cX8_takeSet 41 = .ok (.iload_n 3, 1) := by decide +kernel
theorem d_To_takeSet_42 : decode cX8_takeSet 42 = .ok (.iload 5, 2) := by decide +kernel
theorem d_To_takeSet_44 : decode cX8_takeSet 44 = .ok (.invokestatic 103, 3) := by decide +kernel
theorem d_To_takeSet_47 : decode cX8_takeSet 47 = .ok (.iconst 1, 1) := by decide +kernel
theorem d_To_takeSet_48 : decode cX8_takeSet 48 = .ok (.if_icmp .ne 11, 3) := by decide +kernel
theorem d_To_takeSet_51 : decode cX8_takeSet 51 = .ok (.aload_n 1, 1) := by decide +kernel
theorem d_To_takeSet_52 : decode cX8_takeSet 52 = .ok (.iconst 3, 1) := by decide +kernel
theorem d_To_takeSet_53 : decode cX8_takeSet 53 = .ok (.invokevirtual 112, 3) := by decide +kernel
theorem d_To_takeSet_56 : decode cX8_takeSet 56 = .ok (.pop, 1) := by decide +kernel
theorem d_To_takeSet_57 : decode cX8_takeSet 57 = .ok (.iconst (-1), 1) := by decide +kernel
theorem d_To_takeSet_58 : decode cX8_takeSet 58 = .ok (.ireturn, 1) := by decide +kernel
theorem d_To_takeSet_59 : decode cX8_takeSet 59 = .ok (.iload_n 3, 1) := by decide +kernel
theorem d_To_takeSet_60 : decode cX8_takeSet 60 = .ok (.iconst 1, 1) := by decide +kernel
theorem d_To_takeSet_61 : decode cX8_takeSet 61 = .ok (.iload 5, 2) := by decide +kernel
theorem d_To_takeSet_63 : decode cX8_takeSet 63 = .ok (.ishl, 1) := by decide +kernel
theorem d_To_takeSet_64 : decode cX8_takeSet 64 = .ok (.ior, 1) := by decide +kernel
theorem d_To_takeSet_65 : decode cX8_takeSet 65 = .ok (.istore_n 3, 1) := by decide +kernel
theorem d_To_takeSet_66 : decode cX8_takeSet 66 = .ok (.aload_n 1, 1) := by decide +kernel
theorem d_To_takeSet_67 : decode cX8_takeSet 67 = .ok (.invokevirtual 130, 3) := by decide +kernel
theorem d_To_takeSet_70 : decode cX8_takeSet 70 = .ok (.iinc 4 1, 3) := by decide +kernel
theorem d_To_takeSet_73 : decode cX8_takeSet 73 = .ok (.goto (-68), 3) := by decide +kernel
theorem d_To_takeSet_76 : decode cX8_takeSet 76 = .ok (.aload_n 1, 1) := by decide +kernel
theorem d_To_takeSet_77 : decode cX8_takeSet 77 = .ok (.bipush 59, 2) := by decide +kernel
theorem d_To_takeSet_79 : decode cX8_takeSet 79 = .ok (.invokevirtual 137, 3) := by decide +kernel
theorem d_To_takeSet_82 : decode cX8_takeSet 82 = .ok (.ifCond .eq 7, 3) := by decide +kernel
theorem d_To_takeSet_85 : decode cX8_takeSet 85 = .ok (.iload_n 3, 1) := by decide +kernel
theorem d_To_takeSet_86 : decode cX8_takeSet 86 = .ok (.goto 4, 3) := by decide +kernel
theorem d_To_takeSet_89 : decode cX8_takeSet 89 = .ok (.iconst (-1), 1) := by decide +kernel
theorem d_To_takeSet_90 : decode cX8_takeSet 90 = .ok (.ireturn, 1) := by decide +kernel
noncomputable def f_To_takeSet (a0 : Nat) (x2 : Int32) (h : mm_H) : Option (Int32 × mm_H) := if mm_tg a0 = 7 then (mm_while (σ := (Int32 × Int32 × mm_H)) (ρ := (Int32 × mm_H)) (fun s1 => mm_jp (fun (j4 : Unit) => ((f_Ta_takeSign 59 s1.2.2).bind fun v8 => if v8.1 = 0 then (some (Sum.inr ((-1), v8.2))) else (some (Sum.inr (s1.1, v8.2))))) fun k6 => if 10 < s1.2.1 then (k6 ()) else (mm_jp (fun (j12 : Unit) => ((f_To_findTold a0 x2 s1.2.2).bind fun v16 => if v16.1 = (-1) then (some (Sum.inr ((-1), v16.2))) else ((f_X_bit s1.1 v16.1).bind fun v18 => if v18 = 1 then ((f_Ta_wrong 3 v16.2).bind fun v26 => some (Sum.inr ((-1), v26.2))) else (mm_let (s1.1 ||| ((1 : Int32) <<< (v16.1 &&& 31))) fun y19 => (f_Ta_next v16.2).bind fun v22 => mm_let (s1.2.1 + 1) fun y23 => some (Sum.inl (y19, y23, v22)))))) fun k14 => if s1.1 = 0 then (k14 ()) else ((f_Ta_isSign 59 s1.2.2).bind fun v34 => if v34 = 0 then (k14 ()) else (k6 ())))) (0, 0, h)) else none
theorem T_To_takeSet (V : mm_V) (l : Launch) (a0 : Nat) (x2 : Int32) (h : mm_H) (r : (Int32 × mm_H)) (hf : f_To_takeSet a0 x2 h = some r) : MT V l Y_To_takeSet 7 [.ref a0, .ref 33, .int x2] (fun r1 h1 => r1 = some (.int r.1) ∧ h1 = r.2) h := by
  unfold f_To_takeSet at hf
  obtain ⟨t_a0, hf⟩ := mm_chkE hf
  refine MT.intro (pn_To rfl) [(0, .ref a0), (1, .ref 33), (2, .int x2)] rfl (Nat.le_of_ble_eq_true rfl) ?_
  generalize hZ : mm_Z V _ = Z0
  refine MM.iconst ic_0 d_To_takeSet_0 rfl ?_
  refine MM.istore_n (i := 3) (lv' := [(3, .int 0), (0, .ref a0), (1, .ref 33), (2, .int x2)]) rfl rfl (Nat.le_of_ble_eq_true rfl) rfl d_To_takeSet_1 rfl ?_
  refine MM.iconst ic_0 d_To_takeSet_2 rfl ?_
  refine MM.istore (lv' := [(4, .int 0), (3, .int 0), (0, .ref a0), (1, .ref 33), (2, .int x2)]) rfl (Nat.le_of_ble_eq_true rfl) rfl d_To_takeSet_3 rfl ?_
  refine MM.sub [2, 3, 4, 1, 0] (by rfl) (mm_while_ind (fun s1 => MM V l Y_To_takeSet 7 0 0 Z0 5 [(0, .ref a0), (1, .ref 33), (2, .int x2), (3, .int s1.1), (4, .int s1.2.1)] [] s1.2.2) hf (fun s1 q2 hf hx3 => ?_))
  refine MM.iload rfl d_To_takeSet_5 rfl ?_
  refine MM.bipush bp_10 d_To_takeSet_7 rfl ?_
  obtain ⟨k6, e45, hf⟩ := mm_jpE hf
  have K5 : ∀ j4, k6 j4 = some q2 → MM V l Y_To_takeSet 7 0 0 Z0 76 [(1, .ref 33), (3, .int s1.1)] [] s1.2.2 := by
    intro j4 hf
    rw [e45] at hf
    refine MM.aload_n (i := 1) rfl rfl d_To_takeSet_76 rfl ?_
    refine MM.bipush bp_59 d_To_takeSet_77 rfl ?_
    obtain ⟨v8, e7, hf⟩ := mm_bind hf
    refine MM.callV1 (T_Ta_takeSign V l 59 s1.2.2 _ e7) (fun _ _ q => q) cal_Ta_takeSign rfl tg_33 ct_6 ww_715 ww_714 ww_765 (by decide) (by simp [Value.category]) d_To_takeSet_79 rfl ⟨rfl, rfl⟩ rfl ?_
    obtain ⟨m10, m11⟩ := mm_ifE hf
    refine MM.if_eq (tgt := 89) d_To_takeSet_82 rfl rfl (fun c9 => ?_) (fun c9 => ?_)
    · replace hf := m10 c9
      refine MM.iconst ic_m1 d_To_takeSet_89 rfl ?_
      obtain rfl := Option.some.inj hf
      replace hf := mm_wxR hx3
      obtain rfl := Option.some.inj hf
      subst hZ
      exact MM.iret rfl d_To_takeSet_90 ⟨rfl, rfl⟩
    · replace hf := m11 c9
      refine MM.iload_n (i := 3) rfl rfl d_To_takeSet_85 rfl ?_
      refine MM.goto (tgt := 90) d_To_takeSet_86 rfl ?_
      obtain rfl := Option.some.inj hf
      replace hf := mm_wxR hx3
      obtain rfl := Option.some.inj hf
      subst hZ
      exact MM.iret rfl d_To_takeSet_90 ⟨rfl, rfl⟩
  clear e45
  obtain ⟨m43, m44⟩ := mm_ifE hf
  refine MM.icmp_gt (tgt := 76) d_To_takeSet_9 rfl rfl (fun c42 => ?_) (fun c42 => ?_)
  · replace hf := m43 c42
    exact MM.sub [1, 3] (by rfl) (K5 _ hf)
  · replace hf := m44 c42
    refine MM.iload_n (i := 3) rfl rfl d_To_takeSet_12 rfl ?_
    obtain ⟨k14, e41, hf⟩ := mm_jpE hf
    have K13 : ∀ j12, k14 j12 = some q2 → MM V l Y_To_takeSet 7 0 0 Z0 25 [(0, .ref a0), (1, .ref 33), (2, .int x2), (3, .int s1.1), (4, .int s1.2.1)] [] s1.2.2 := by
      intro j12 hf
      rw [e41] at hf
      refine MM.aload_n (i := 0) rfl rfl d_To_takeSet_25 rfl ?_
      refine MM.aload_n (i := 1) rfl rfl d_To_takeSet_26 rfl ?_
      refine MM.iload_n (i := 2) rfl rfl d_To_takeSet_27 rfl ?_
      obtain ⟨v16, e15, hf⟩ := mm_bind hf
      refine MM.callV1 (T_To_findTold V l a0 x2 s1.2.2 _ e15) (fun _ _ q => q) cal_To_findTold rfl t_a0 ct_7 ww_741 ww_740 ww_739 (by decide) (by simp [Value.category]) d_To_takeSet_28 rfl ⟨rfl, rfl⟩ rfl ?_
      refine MM.istore (lv' := [(5, .int v16.1), (0, .ref a0), (1, .ref 33), (2, .int x2), (3, .int s1.1), (4, .int s1.2.1)]) rfl (Nat.le_of_ble_eq_true rfl) rfl d_To_takeSet_31 rfl ?_
      refine MM.iload rfl d_To_takeSet_33 rfl ?_
      refine MM.iconst ic_m1 d_To_takeSet_35 rfl ?_
      obtain ⟨m31, m32⟩ := mm_ifE hf
      refine MM.icmp_ne (tgt := 41) d_To_takeSet_36 rfl rfl (fun c30 => ?_) (fun c30 => ?_)
      · replace hf := m32 c30
        refine MM.iload_n (i := 3) rfl rfl d_To_takeSet_41 rfl ?_
        refine MM.iload rfl d_To_takeSet_42 rfl ?_
        obtain ⟨v18, e17, hf⟩ := mm_bind hf
        refine MM.callSN1 (T_X_bit V l s1.1 v16.1 v16.2 _ e17) (fun _ _ q => q) cal_X_bit rfl ww_763 ww_762n (by decide) (by simp [Value.category]) d_To_takeSet_44 rfl ⟨rfl, rfl⟩ rfl ?_
        refine MM.iconst ic_1 d_To_takeSet_47 rfl ?_
        obtain ⟨m28, m29⟩ := mm_ifE hf
        refine MM.icmp_ne (tgt := 59) d_To_takeSet_48 rfl rfl (fun c27 => ?_) (fun c27 => ?_)
        · replace hf := m29 c27
          refine MM.iload_n (i := 3) rfl rfl d_To_takeSet_59 rfl ?_
          refine MM.iconst ic_1 d_To_takeSet_60 rfl ?_
          refine MM.iload rfl d_To_takeSet_61 rfl ?_
          refine MM.ishl d_To_takeSet_63 rfl ?_
          refine MM.ior d_To_takeSet_64 rfl ?_
          obtain ⟨y19, e20, hf⟩ := mm_letE hf
          refine MM.istore_n (i := 3) (lv' := [(3, .int y19), (5, .int v16.1), (0, .ref a0), (1, .ref 33), (2, .int x2), (4, .int s1.2.1)]) e20 rfl (Nat.le_of_ble_eq_true rfl) rfl d_To_takeSet_65 rfl ?_
          refine MM.aload_n (i := 1) rfl rfl d_To_takeSet_66 rfl ?_
          obtain ⟨v22, e21, hf⟩ := mm_bind hf
          refine MM.callV0 (T_Ta_next V l  v16.2 _ e21) (fun _ _ q => q) cal_Ta_next rfl tg_33 ct_6 ww_561 ww_560 ww_747 (by decide) (by simp [Value.category]) d_To_takeSet_67 rfl ⟨rfl, rfl⟩ rfl ?_
          obtain ⟨y23, e24, hf⟩ := mm_letE hf
          refine MM.iinc (k0 := 5) (lv' := [(4, .int y23), (3, .int y19), (5, .int v16.1), (0, .ref a0), (1, .ref 33), (2, .int x2)]) (by rw [ic_1]; exact e24) rfl (Nat.le_of_ble_eq_true rfl) rfl d_To_takeSet_70 rfl ?_
          refine MM.goto (tgt := 5) d_To_takeSet_73 rfl ?_
          obtain rfl := Option.some.inj hf
          have h9 := mm_wxL hx3
          exact MM.sub [3, 4, 5, 1, 0] (by rfl) h9
        · replace hf := m28 c27
          refine MM.aload_n (i := 1) rfl rfl d_To_takeSet_51 rfl ?_
          refine MM.iconst ic_3 d_To_takeSet_52 rfl ?_
          obtain ⟨v26, e25, hf⟩ := mm_bind hf
          refine MM.callV1 (T_Ta_wrong V l 3 v16.2 _ e25) (fun _ _ q => q) cal_Ta_wrong rfl tg_33 ct_6 ww_671 ww_670 ww_744 (by decide) (by simp [Value.category]) d_To_takeSet_53 rfl ⟨rfl, rfl⟩ rfl ?_
          refine MM.pop rfl d_To_takeSet_56 rfl ?_
          refine MM.iconst ic_m1 d_To_takeSet_57 rfl ?_
          obtain rfl := Option.some.inj hf
          replace hf := mm_wxR hx3
          obtain rfl := Option.some.inj hf
          subst hZ
          exact MM.iret rfl d_To_takeSet_58 ⟨rfl, rfl⟩
      · replace hf := m31 c30
        refine MM.iconst ic_m1 d_To_takeSet_39 rfl ?_
        obtain rfl := Option.some.inj hf
        replace hf := mm_wxR hx3
        obtain rfl := Option.some.inj hf
        subst hZ
        exact MM.iret rfl d_To_takeSet_40 ⟨rfl, rfl⟩
    clear e41
    obtain ⟨m39, m40⟩ := mm_ifE hf
    refine MM.if_eq (tgt := 25) d_To_takeSet_13 rfl rfl (fun c38 => ?_) (fun c38 => ?_)
    · replace hf := m39 c38
      exact MM.sub [0, 1, 2, 3, 4] (by rfl) (K13 _ hf)
    · replace hf := m40 c38
      refine MM.aload_n (i := 1) rfl rfl d_To_takeSet_16 rfl ?_
      refine MM.bipush bp_59 d_To_takeSet_17 rfl ?_
      obtain ⟨v34, e33, hf⟩ := mm_bind hf
      refine MM.callV1 (T_Ta_isSign V l 59 s1.2.2 _ e33) (fun _ _ q => q) cal_Ta_isSign rfl tg_33 ct_6 ww_719 ww_718 ww_761 (by decide) (by simp [Value.category]) d_To_takeSet_19 rfl ⟨rfl, rfl⟩ rfl ?_
      obtain ⟨m36, m37⟩ := mm_ifE hf
      refine MM.if_ne (tgt := 76) d_To_takeSet_22 rfl rfl (fun c35 => ?_) (fun c35 => ?_)
      · replace hf := m37 c35
        exact MM.sub [1, 3] (by rfl) (K5 _ hf)
      · replace hf := m36 c35
        exact MM.sub [0, 1, 2, 3, 4] (by rfl) (K13 _ hf)
theorem d_Tr_readSecret_0 : decode cX9_readSecret 0 = .ok (.aload_n 1, 1) := by decide +kernel
theorem d_Tr_readSecret_1 : decode cX9_readSecret 1 = .ok (.getfield 146, 3) := by decide +kernel
theorem d_Tr_readSecret_4 : decode cX9_readSecret 4 = .ok (.istore_n 2, 1) := by decide +kernel
theorem d_Tr_readSecret_5 : decode cX9_readSecret 5 = .ok (.iload_n 2, 1) := by decide +kernel
theorem d_Tr_readSecret_6 : decode cX9_readSecret 6 = .ok (.bipush 10, 2) := by decide +kernel
theorem d_Tr_readSecret_8 : decode cX9_readSecret 8 = .ok (.if_icmp .lt 9, 3) := by decide +kernel
theorem d_Tr_readSecret_11 : decode cX9_readSecret 11 = .ok (.aload_n 0, 1) := by decide +kernel
theorem d_Tr_readSecret_12 : decode cX9_readSecret 12 = .ok (.iconst 5, 1) := by decide +kernel
theorem d_Tr_readSecret_13 : decode cX9_readSecret 13 = .ok (.invokevirtual 68, 3) := by decide +kernel
theorem d_Tr_readSecret_16 : decode cX9_readSecret 16 = .ok (.ireturn, 1) := by decide +kernel
theorem d_Tr_readSecret_17 : decode cX9_readSecret 17 = .ok (.aload_n 0, 1) := by decide +kernel
theorem d_Tr_readSecret_18 : decode cX9_readSecret 18 = .ok (.invokevirtual 87, 3) := by decide +kernel
theorem d_Tr_readSecret_21 : decode cX9_readSecret 21 = .ok (.aload_n 1, 1) := by decide +kernel
theorem d_Tr_readSecret_22 : decode cX9_readSecret 22 = .ok (.getfield 149, 3) := by decide +kernel
theorem d_Tr_readSecret_25 : decode cX9_readSecret 25 = .ok (.iload_n 2, 1) := by decide +kernel
theorem d_Tr_readSecret_26 : decode cX9_readSecret 26 = .ok (.aload_n 0, 1) := by decide +kernel
theorem d_Tr_readSecret_27 : decode cX9_readSecret 27 = .ok (.getfield 76, 3) := by decide +kernel
theorem d_Tr_readSecret_30 : decode cX9_readSecret 30 = .ok (.lastore, 1) := by decide +kernel
theorem d_Tr_readSecret_31 : decode cX9_readSecret 31 = .ok (.aload_n 0, 1) := by decide +kernel
theorem d_Tr_readSecret_32 : decode cX9_readSecret 32 = .ok (.aload_n 1, 1) := by decide +kernel
theorem d_Tr_readSecret_33 : decode cX9_readSecret 33 = .ok (.invokestatic 109, 3) := by decide +kernel
theorem d_Tr_readSecret_36 : decode cX9_readSecret 36 = .ok (.ifCond .ne 5, 3) := by decide +kernel
theorem d_Tr_readSecret_39 : decode cX9_readSecret 39 = .ok (.iconst 0, 1) := by decide +kernel
theorem d_Tr_readSecret_40 : decode cX9_readSecret 40 = .ok (.ireturn, 1) := by decide +kernel
theorem d_Tr_readSecret_41 : decode cX9_readSecret 41 = .ok (.aload_n 0, 1) := by decide +kernel
theorem d_Tr_readSecret_42 : decode cX9_readSecret 42 = .ok (.getfield 32, 3) := by decide +kernel
theorem d_Tr_readSecret_45 : decode cX9_readSecret 45 = .ok (.getstatic 152, 3) := by decide +kernel
theorem d_Tr_readSecret_48 : decode cX9_readSecret 48 = .ok (.if_acmp .eq 19, 3) := by decide +kernel
theorem d_Tr_readSecret_51 : decode cX9_readSecret 51 = .ok (.aload_n 0, 1) := by decide +kernel
theorem d_Tr_readSecret_52 : decode cX9_readSecret 52 = .ok (.getfield 32, 3) := by decide +kernel
theorem d_Tr_readSecret_55 : decode cX9_readSecret 55 = .ok (.getstatic 155, 3) := by decide +kernel
theorem d_Tr_readSecret_58 : decode cX9_readSecret 58 = .ok (.if_acmp .eq 9, 3) := by decide +kernel
theorem d_Tr_readSecret_61 : decode cX9_readSecret 61 = .ok (.aload_n 0, 1) := by decide +kernel
theorem d_Tr_readSecret_62 : decode cX9_readSecret 62 = .ok (.iconst 1, 1) := by decide +kernel
theorem d_Tr_readSecret_63 : decode cX9_readSecret 63 = .ok (.invokevirtual 68, 3) := by decide +kernel
theorem d_Tr_readSecret_66 : decode cX9_readSecret 66 = .ok (.ireturn, 1) := by decide +kernel
theorem d_Tr_readSecret_67 : decode cX9_readSecret 67 = .ok (.aload_n 1, 1) := by decide +kernel
theorem d_Tr_readSecret_68 : decode cX9_readSecret 68 = .ok (.dup, 1) := by decide +kernel
theorem d_Tr_readSecret_69 : decode cX9_readSecret 69 = .ok (.getfield 158, 3) := by decide +kernel
theorem d_Tr_readSecret_72 : decode cX9_readSecret 72 = .ok (.aload_n 0, 1) := by decide +kernel
theorem d_Tr_readSecret_73 : decode cX9_readSecret 73 = .ok (.getfield 32, 3) := by decide +kernel
theorem d_Tr_readSecret_76 : decode cX9_readSecret 76 = .ok (.getstatic 155, 3) := by decide +kernel
theorem d_Tr_readSecret_79 : decode cX9_readSecret 79 = .ok (.if_acmp .ne 9, 3) := by decide +kernel
theorem d_Tr_readSecret_82 : decode cX9_readSecret 82 = .ok (.iconst 1, 1) := by decide +kernel
theorem d_Tr_readSecret_83 : decode cX9_readSecret 83 = .ok (.iload_n 2, 1) := by decide +kernel
theorem d_Tr_readSecret_84 : decode cX9_readSecret 84 = .ok (.ishl, 1) := by decide +kernel
theorem d_Tr_readSecret_85 : decode cX9_readSecret 85 = .ok (.goto 4, 3) := by decide +kernel
theorem d_Tr_readSecret_88 : decode cX9_readSecret 88 = .ok (.iconst 0, 1) := by decide +kernel
theorem d_Tr_readSecret_89 : decode cX9_readSecret 89 = .ok (.ior, 1) := by decide +kernel
theorem d_Tr_readSecret_90 : decode cX9_readSecret 90 = .ok (.putfield 158, 3) := by decide +kernel
theorem d_Tr_readSecret_93 : decode cX9_readSecret 93 = .ok (.aload_n 0, 1) := by decide +kernel
theorem d_Tr_readSecret_94 : decode cX9_readSecret 94 = .ok (.invokevirtual 87, 3) := by decide +kernel
theorem d_Tr_readSecret_97 : decode cX9_readSecret 97 = .ok (.aload_n 0, 1) := by decide +kernel
theorem d_Tr_readSecret_98 : decode cX9_readSecret 98 = .ok (.aload_n 1, 1) := by decide +kernel
theorem d_Tr_readSecret_99 : decode cX9_readSecret 99 = .ok (.iload_n 2, 1) := by decide +kernel
theorem d_Tr_readSecret_100 : decode cX9_readSecret 100 = .ok (.invokestatic 161, 3) := by decide +kernel
theorem d_Tr_readSecret_103 : decode cX9_readSecret 103 = .ok (.ifCond .eq 22, 3) := by decide +kernel
theorem d_Tr_readSecret_106 : decode cX9_readSecret 106 = .ok (.aload_n 0, 1) := by decide +kernel
theorem d_Tr_readSecret_107 : decode cX9_readSecret 107 = .ok (.aload_n 1, 1) := by decide +kernel
theorem d_Tr_readSecret_108 : decode cX9_readSecret 108 = .ok (.iload_n 2, 1) := by decide +kernel
theorem d_Tr_readSecret_109 : decode cX9_readSecret 109 = .ok (.invokestatic 165, 3) := by decide +kernel
theorem d_Tr_readSecret_112 : decode cX9_readSecret 112 = .ok (.ifCond .eq 13, 3) := by decide +kernel
theorem d_Tr_readSecret_115 : decode cX9_readSecret 115 = .ok (.aload_n 0, 1) := by decide +kernel
theorem d_Tr_readSecret_116 : decode cX9_readSecret 116 = .ok (.getstatic 168, 3) := by decide +kernel
theorem d_Tr_readSecret_119 : decode cX9_readSecret 119 = .ok (.invokevirtual 125, 3) := by decide +kernel
theorem d_Tr_readSecret_122 : decode cX9_readSecret 122 = .ok (.ifCond .ne 5, 3) := by decide +kernel
theorem d_Tr_readSecret_125 : decode cX9_readSecret 125 = .ok (.iconst 0, 1) := by decide +kernel
theorem d_Tr_readSecret_126 : decode cX9_readSecret 126 = .ok (.ireturn, 1) := by decide +kernel
theorem d_Tr_readSecret_127 : decode cX9_readSecret 127 = .ok (.aload_n 1, 1) := by decide +kernel
theorem d_Tr_readSecret_128 : decode cX9_readSecret 128 = .ok (.getfield 171, 3) := by decide +kernel
theorem d_Tr_readSecret_131 : decode cX9_readSecret 131 = .ok (.iload_n 2, 1) := by decide +kernel
theorem d_Tr_readSecret_132 : decode cX9_readSecret 132 = .ok (.aload_n 1, 1) := by decide +kernel
theorem d_Tr_readSecret_133 : decode cX9_readSecret 133 = .ok (.aload_n 0, 1) := by decide +kernel
theorem d_Tr_readSecret_134 : decode cX9_readSecret 134 = .ok (.iconst 1, 1) := by decide +kernel
theorem d_Tr_readSecret_135 : decode cX9_readSecret 135 = .ok (.invokevirtual 174, 3) := by decide +kernel
theorem d_Tr_readSecret_138 : decode cX9_readSecret 138 = .ok (.iastore, 1) := by decide +kernel
theorem d_Tr_readSecret_139 : decode cX9_readSecret 139 = .ok (.aload_n 1, 1) := by decide +kernel
theorem d_Tr_readSecret_140 : decode cX9_readSecret 140 = .ok (.getfield 171, 3) := by decide +kernel
theorem d_Tr_readSecret_143 : decode cX9_readSecret 143 = .ok (.iload_n 2, 1) := by decide +kernel
theorem d_Tr_readSecret_144 : decode cX9_readSecret 144 = .ok (.iaload, 1) := by decide +kernel
theorem d_Tr_readSecret_145 : decode cX9_readSecret 145 = .ok (.iconst (-1), 1) := by decide +kernel
theorem d_Tr_readSecret_146 : decode cX9_readSecret 146 = .ok (.if_icmp .ne 5, 3) := by decide +kernel
theorem d_Tr_readSecret_149 : decode cX9_readSecret 149 = .ok (.iconst 0, 1) := by decide +kernel
theorem d_Tr_readSecret_150 : decode cX9_readSecret 150 = .ok (.ireturn, 1) := by decide +kernel
theorem d_Tr_readSecret_151 : decode cX9_readSecret 151 = .ok (.aload_n 1, 1) := by decide +kernel
theorem d_Tr_readSecret_152 : decode cX9_readSecret 152 = .ok (.dup, 1) := by decide +kernel
theorem d_Tr_readSecret_153 : decode cX9_readSecret 153 = .ok (.getfield 146, 3) := by decide +kernel
theorem d_Tr_readSecret_156 : decode cX9_readSecret 156 = .ok (.iconst 1, 1) := by decide +kernel
theorem d_Tr_readSecret_157 : decode cX9_readSecret 157 = .ok (.iadd, 1) := by decide +kernel
theorem d_Tr_readSecret_158 : decode cX9_readSecret 158 = .ok (.putfield 146, 3) := by decide +kernel
theorem d_Tr_readSecret_161 : decode cX9_readSecret 161 = .ok (.iconst 1, 1) := by decide +kernel
theorem d_Tr_readSecret_162 : decode cX9_readSecret 162 = .ok (.ireturn, 1) := by decide +kernel
noncomputable def f_Tr_readSecret (a1 : Nat) (h : mm_H) : Option (Int32 × mm_H) := if mm_tg a1 = 7 then (mm_let (h.1 a1 6) fun y1 => if y1 < 10 then ((f_Ta_next h).bind fun v4 => (mm_ix y1 10).bind fun k5 => mm_let (mm_pL v4 (a1 + 5) k5 (v4.2.1 33 6)) fun h7 => (f_Tr_takeNewName a1 h7).bind fun v10 => if v10.1 = 0 then (some (0, v10.2)) else ((mm_gW v10.2).bind fun wd11 => mm_jp (fun (j13 : Unit) => ((mm_gW v10.2).bind fun wd16 => (if wd16 = (some 20) then (some ((1 : Int32) <<< (y1 &&& 31))) else (some 0) : Option Int32).bind fun j18 => mm_let (mm_pI v10.2 a1 8 ((v10.2.1 a1 8) ||| j18)) fun h23 => (f_Ta_next h23).bind fun v26 => (f_Tr_readOf a1 y1 v26).bind fun v28 => if v28.1 = 0 then (some (0, v28.2)) else ((f_Tr_readOn a1 y1 v28.2).bind fun v30 => if v30.1 = 0 then (some (0, v30.2)) else ((f_Ta_takeWord (some 7) v30.2).bind fun v32 => if v32.1 = 0 then (some (0, v32.2)) else ((f_To_takeSet a1 1 v32.2).bind fun v34 => (mm_ix y1 10).bind fun k35 => mm_let (mm_pI v34.2 (a1 + 9) k35 v34.1) fun h37 => (mm_ix y1 10).bind fun k39 => if (h37.1 (a1 + 9) k39) = (-1) then (some (0, h37)) else (mm_let (mm_pI h37 a1 6 ((h37.1 a1 6) + 1)) fun h41 => some (1, h41))))))) fun k15 => if wd11 = (some 19) then (k15 ()) else ((mm_gW v10.2).bind fun wd56 => if wd56 = (some 20) then (k15 ()) else ((f_Ta_wrong 1 v10.2).bind fun v59 => (mm_bo v59.1).bind fun b60 => some (b60, v59.2))))) else ((f_Ta_wrong 5 h).bind fun v73 => (mm_bo v73.1).bind fun b74 => some (b74, v73.2))) else none
theorem T_Tr_readSecret (V : mm_V) (l : Launch) (a1 : Nat) (h : mm_H) (r : (Int32 × mm_H)) (hf : f_Tr_readSecret a1 h = some r) : MT V l Y_Tr_readSecret 8 [.ref 33, .ref a1] (fun r1 h1 => r1 = some (.int r.1) ∧ h1 = r.2) h := by
  unfold f_Tr_readSecret at hf
  obtain ⟨t_a1, hf⟩ := mm_chkE hf
  refine MT.intro (pn_Tr rfl) [(0, .ref 33), (1, .ref a1)] rfl (Nat.le_of_ble_eq_true rfl) ?_
  generalize hZ : mm_Z V _ = Z0
  refine MM.aload_n (i := 1) rfl rfl d_Tr_readSecret_0 rfl ?_
  refine MM.getI 7 t_a1 lays_7 gq_7_6 ww_388 d_Tr_readSecret_1 rfl ?_
  obtain ⟨y1, e2, hf⟩ := mm_letE hf
  refine MM.istore_n (i := 2) (lv' := [(2, .int y1), (0, .ref 33), (1, .ref a1)]) e2 rfl (Nat.le_of_ble_eq_true rfl) rfl d_Tr_readSecret_4 rfl ?_
  refine MM.iload_n (i := 2) rfl rfl d_Tr_readSecret_5 rfl ?_
  refine MM.bipush bp_10 d_Tr_readSecret_6 rfl ?_
  obtain ⟨m77, m78⟩ := mm_ifE hf
  refine MM.icmp_lt (tgt := 17) d_Tr_readSecret_8 rfl rfl (fun c76 => ?_) (fun c76 => ?_)
  · replace hf := m77 c76
    refine MM.aload_n (i := 0) rfl rfl d_Tr_readSecret_17 rfl ?_
    obtain ⟨v4, e3, hf⟩ := mm_bind hf
    refine MM.callV0 (T_Ta_next V l  h _ e3) (fun _ _ q => q) cal_Ta_next rfl tg_33 ct_6 ww_561 ww_560 ww_673 (by decide) (by simp [Value.category]) d_Tr_readSecret_18 rfl ⟨rfl, rfl⟩ rfl ?_
    refine MM.aload_n (i := 1) rfl rfl d_Tr_readSecret_21 rfl ?_
    refine MM.gR 7 5 t_a1 rq_7_7 rfl lays_7 ww_391 d_Tr_readSecret_22 rfl ?_
    refine MM.iload_n (i := 2) rfl rfl d_Tr_readSecret_25 rfl ?_
    refine MM.aload_n (i := 0) rfl rfl d_Tr_readSecret_26 rfl ?_
    refine MM.getL 6 tg_33 lays_6 gq_6_6 ww_163 d_Tr_readSecret_27 rfl ?_
    obtain ⟨k5, e6, hf⟩ := mm_bind hf
    obtain ⟨h7, e8, hf⟩ := mm_letE hf
    refine MM.sL e6 e8 (al_7_7f t_a1) d_Tr_readSecret_30 rfl ?_
    refine MM.aload_n (i := 0) rfl rfl d_Tr_readSecret_31 rfl ?_
    refine MM.aload_n (i := 1) rfl rfl d_Tr_readSecret_32 rfl ?_
    obtain ⟨v10, e9, hf⟩ := mm_bind hf
    refine MM.callS1 (T_Tr_takeNewName V l a1 h7 _ e9) (fun _ _ q => q) cal_Tr_takeNewName rfl ww_675 ww_674 (by decide) (by simp [Value.category]) d_Tr_readSecret_33 rfl ⟨rfl, rfl⟩ rfl ?_
    obtain ⟨m70, m71⟩ := mm_ifE hf
    refine MM.if_ne (tgt := 41) d_Tr_readSecret_36 rfl rfl (fun c69 => ?_) (fun c69 => ?_)
    · replace hf := m71 c69
      refine MM.aload_n (i := 0) rfl rfl d_Tr_readSecret_41 rfl ?_
      obtain ⟨wd11, e12, hf⟩ := mm_bind hf
      obtain ⟨e12, b_wd11⟩ := mm_gWE e12
      refine MM.gW e12 tg_33 wq_7 lays_6 ww_166 d_Tr_readSecret_42 rfl ?_
      refine MM.word (j := 19) (by decide) rfl ww_726 d_Tr_readSecret_45 rfl ?_
      obtain ⟨k15, e68, hf⟩ := mm_jpE hf
      have K14 : ∀ j13, k15 j13 = some r → MM V l Y_Tr_readSecret 8 0 0 Z0 67 [(0, .ref 33), (1, .ref a1), (2, .int y1)] [] v10.2 := by
        intro j13 hf
        rw [e68] at hf
        refine MM.aload_n (i := 1) rfl rfl d_Tr_readSecret_67 rfl ?_
        refine MM.dup rfl d_Tr_readSecret_68 rfl ?_
        refine MM.getI 7 t_a1 lays_7 gq_7_8 ww_394 d_Tr_readSecret_69 rfl ?_
        refine MM.aload_n (i := 0) rfl rfl d_Tr_readSecret_72 rfl ?_
        obtain ⟨wd16, e17, hf⟩ := mm_bind hf
        obtain ⟨e17, b_wd16⟩ := mm_gWE e17
        refine MM.gW e17 tg_33 wq_7 lays_6 ww_166 d_Tr_readSecret_73 rfl ?_
        refine MM.word (j := 20) (by decide) rfl ww_728 d_Tr_readSecret_76 rfl ?_
        obtain ⟨j18, e55, hf⟩ := mm_bind hf
        have K19 : MM V l Y_Tr_readSecret 8 0 0 Z0 89 [(0, .ref 33), (1, .ref a1), (2, .int y1)] [.int j18, .int (v10.2.1 a1 8), .ref a1] v10.2 := by
          refine MM.ior d_Tr_readSecret_89 rfl ?_
          obtain ⟨h23, e24, hf⟩ := mm_letE hf
          refine MM.putI e24 7 t_a1 lays_7 toks_7 pq_7_8 ww_394 d_Tr_readSecret_90 rfl ?_
          refine MM.aload_n (i := 0) rfl rfl d_Tr_readSecret_93 rfl ?_
          obtain ⟨v26, e25, hf⟩ := mm_bind hf
          refine MM.callV0 (T_Ta_next V l  h23 _ e25) (fun _ _ q => q) cal_Ta_next rfl tg_33 ct_6 ww_561 ww_560 ww_673 (by decide) (by simp [Value.category]) d_Tr_readSecret_94 rfl ⟨rfl, rfl⟩ rfl ?_
          refine MM.aload_n (i := 0) rfl rfl d_Tr_readSecret_97 rfl ?_
          refine MM.aload_n (i := 1) rfl rfl d_Tr_readSecret_98 rfl ?_
          refine MM.iload_n (i := 2) rfl rfl d_Tr_readSecret_99 rfl ?_
          obtain ⟨v28, e27, hf⟩ := mm_bind hf
          refine MM.callS1 (T_Tr_readOf V l a1 y1 v26 _ e27) (fun _ _ q => q) cal_Tr_readOf rfl ww_731 ww_730 (by decide) (by simp [Value.category]) d_Tr_readSecret_100 rfl ⟨rfl, rfl⟩ rfl ?_
          obtain ⟨m53, m54⟩ := mm_ifE hf
          refine MM.if_eq (tgt := 125) d_Tr_readSecret_103 rfl rfl (fun c52 => ?_) (fun c52 => ?_)
          · replace hf := m53 c52
            refine MM.iconst ic_0 d_Tr_readSecret_125 rfl ?_
            obtain rfl := Option.some.inj hf
            subst hZ
            exact MM.zret (Or.inl rfl) rfl d_Tr_readSecret_126 ⟨rfl, rfl⟩
          · replace hf := m54 c52
            refine MM.aload_n (i := 0) rfl rfl d_Tr_readSecret_106 rfl ?_
            refine MM.aload_n (i := 1) rfl rfl d_Tr_readSecret_107 rfl ?_
            refine MM.iload_n (i := 2) rfl rfl d_Tr_readSecret_108 rfl ?_
            obtain ⟨v30, e29, hf⟩ := mm_bind hf
            refine MM.callS1 (T_Tr_readOn V l a1 y1 v28.2 _ e29) (fun _ _ q => q) cal_Tr_readOn rfl ww_751 ww_750 (by decide) (by simp [Value.category]) d_Tr_readSecret_109 rfl ⟨rfl, rfl⟩ rfl ?_
            obtain ⟨m50, m51⟩ := mm_ifE hf
            refine MM.if_eq (tgt := 125) d_Tr_readSecret_112 rfl rfl (fun c49 => ?_) (fun c49 => ?_)
            · replace hf := m50 c49
              refine MM.iconst ic_0 d_Tr_readSecret_125 rfl ?_
              obtain rfl := Option.some.inj hf
              subst hZ
              exact MM.zret (Or.inl rfl) rfl d_Tr_readSecret_126 ⟨rfl, rfl⟩
            · replace hf := m51 c49
              refine MM.aload_n (i := 0) rfl rfl d_Tr_readSecret_115 rfl ?_
              refine MM.word (j := 7) (by decide) rfl ww_755 d_Tr_readSecret_116 rfl ?_
              obtain ⟨v32, e31, hf⟩ := mm_bind hf
              refine MM.callV1 (T_Ta_takeWord V l (some 7) v30.2 _ e31) (fun _ _ q => q) cal_Ta_takeWord rfl tg_33 ct_6 ww_704 ww_703 ww_702 (by decide) (by simp [Value.category]) d_Tr_readSecret_119 rfl ⟨rfl, rfl⟩ rfl ?_
              obtain ⟨m47, m48⟩ := mm_ifE hf
              refine MM.if_ne (tgt := 127) d_Tr_readSecret_122 rfl rfl (fun c46 => ?_) (fun c46 => ?_)
              · replace hf := m48 c46
                refine MM.aload_n (i := 1) rfl rfl d_Tr_readSecret_127 rfl ?_
                refine MM.gR 7 9 t_a1 rq_7_12 rfl lays_7 ww_410 d_Tr_readSecret_128 rfl ?_
                refine MM.iload_n (i := 2) rfl rfl d_Tr_readSecret_131 rfl ?_
                refine MM.aload_n (i := 1) rfl rfl d_Tr_readSecret_132 rfl ?_
                refine MM.aload_n (i := 0) rfl rfl d_Tr_readSecret_133 rfl ?_
                refine MM.iconst ic_1 d_Tr_readSecret_134 rfl ?_
                obtain ⟨v34, e33, hf⟩ := mm_bind hf
                refine MM.callV1 (T_To_takeSet V l a1 1 v32.2 _ e33) (fun _ _ q => q) cal_To_takeSet rfl t_a1 ct_7 ww_759 ww_758 ww_757 (by decide) (by simp [Value.category]) d_Tr_readSecret_135 rfl ⟨rfl, rfl⟩ rfl ?_
                obtain ⟨k35, e36, hf⟩ := mm_bind hf
                obtain ⟨h37, e38, hf⟩ := mm_letE hf
                refine MM.sI e36 e38 (al_7_12f t_a1) d_Tr_readSecret_138 rfl ?_
                refine MM.aload_n (i := 1) rfl rfl d_Tr_readSecret_139 rfl ?_
                refine MM.gR 7 9 t_a1 rq_7_12 rfl lays_7 ww_410 d_Tr_readSecret_140 rfl ?_
                refine MM.iload_n (i := 2) rfl rfl d_Tr_readSecret_143 rfl ?_
                obtain ⟨k39, e40, hf⟩ := mm_bind hf
                refine MM.gI e40 (al_7_12f t_a1) d_Tr_readSecret_144 rfl ?_
                refine MM.iconst ic_m1 d_Tr_readSecret_145 rfl ?_
                obtain ⟨m44, m45⟩ := mm_ifE hf
                refine MM.icmp_ne (tgt := 151) d_Tr_readSecret_146 rfl rfl (fun c43 => ?_) (fun c43 => ?_)
                · replace hf := m45 c43
                  refine MM.aload_n (i := 1) rfl rfl d_Tr_readSecret_151 rfl ?_
                  refine MM.dup rfl d_Tr_readSecret_152 rfl ?_
                  refine MM.getI 7 t_a1 lays_7 gq_7_6 ww_388 d_Tr_readSecret_153 rfl ?_
                  refine MM.iconst ic_1 d_Tr_readSecret_156 rfl ?_
                  refine MM.iadd d_Tr_readSecret_157 rfl ?_
                  obtain ⟨h41, e42, hf⟩ := mm_letE hf
                  refine MM.putI e42 7 t_a1 lays_7 toks_7 pq_7_6 ww_388 d_Tr_readSecret_158 rfl ?_
                  refine MM.iconst ic_1 d_Tr_readSecret_161 rfl ?_
                  obtain rfl := Option.some.inj hf
                  subst hZ
                  exact MM.zret (Or.inr rfl) rfl d_Tr_readSecret_162 ⟨rfl, rfl⟩
                · replace hf := m44 c43
                  refine MM.iconst ic_0 d_Tr_readSecret_149 rfl ?_
                  obtain rfl := Option.some.inj hf
                  subst hZ
                  exact MM.zret (Or.inl rfl) rfl d_Tr_readSecret_150 ⟨rfl, rfl⟩
              · replace hf := m47 c46
                refine MM.iconst ic_0 d_Tr_readSecret_125 rfl ?_
                obtain rfl := Option.some.inj hf
                subst hZ
                exact MM.zret (Or.inl rfl) rfl d_Tr_readSecret_126 ⟨rfl, rfl⟩
        clear hf
        have hf := e55
        clear e55
        obtain ⟨m21, m22⟩ := mm_ifE hf
        refine MM.acmp_ne b_wd16 (fun _ q => by cases q; decide) (tgt := 88) d_Tr_readSecret_79 rfl rfl (fun c20 => ?_) (fun c20 => ?_)
        · replace hf := m22 c20
          refine MM.iconst ic_0 d_Tr_readSecret_88 rfl ?_
          obtain rfl := Option.some.inj hf
          exact MM.sub [0, 1, 2] (by rfl) K19
        · replace hf := m21 c20
          refine MM.iconst ic_1 d_Tr_readSecret_82 rfl ?_
          refine MM.iload_n (i := 2) rfl rfl d_Tr_readSecret_83 rfl ?_
          refine MM.ishl d_Tr_readSecret_84 rfl ?_
          refine MM.goto (tgt := 89) d_Tr_readSecret_85 rfl ?_
          obtain rfl := Option.some.inj hf
          exact MM.sub [0, 1, 2] (by rfl) K19
      clear e68
      obtain ⟨m66, m67⟩ := mm_ifE hf
      refine MM.acmp_eq b_wd11 (fun _ q => by cases q; decide) (tgt := 67) d_Tr_readSecret_48 rfl rfl (fun c65 => ?_) (fun c65 => ?_)
      · replace hf := m66 c65
        exact MM.sub [1, 2, 0] (by rfl) (K14 _ hf)
      · replace hf := m67 c65
        refine MM.aload_n (i := 0) rfl rfl d_Tr_readSecret_51 rfl ?_
        obtain ⟨wd56, e57, hf⟩ := mm_bind hf
        obtain ⟨e57, b_wd56⟩ := mm_gWE e57
        refine MM.gW e57 tg_33 wq_7 lays_6 ww_166 d_Tr_readSecret_52 rfl ?_
        refine MM.word (j := 20) (by decide) rfl ww_728 d_Tr_readSecret_55 rfl ?_
        obtain ⟨m63, m64⟩ := mm_ifE hf
        refine MM.acmp_eq b_wd56 (fun _ q => by cases q; decide) (tgt := 67) d_Tr_readSecret_58 rfl rfl (fun c62 => ?_) (fun c62 => ?_)
        · replace hf := m63 c62
          exact MM.sub [1, 2, 0] (by rfl) (K14 _ hf)
        · replace hf := m64 c62
          refine MM.aload_n (i := 0) rfl rfl d_Tr_readSecret_61 rfl ?_
          refine MM.iconst ic_1 d_Tr_readSecret_62 rfl ?_
          obtain ⟨v59, e58, hf⟩ := mm_bind hf
          refine MM.callV1 (T_Ta_wrong V l 1 v10.2 _ e58) (fun _ _ q => q) cal_Ta_wrong rfl tg_33 ct_6 ww_671 ww_670 ww_669 (by decide) (by simp [Value.category]) d_Tr_readSecret_63 rfl ⟨rfl, rfl⟩ rfl ?_
          obtain ⟨b60, e61, hf⟩ := mm_bind hf
          obtain ⟨ob60, e61⟩ := mm_boE e61
          subst e61
          obtain rfl := Option.some.inj hf
          subst hZ
          exact MM.zret ob60 rfl d_Tr_readSecret_66 ⟨rfl, rfl⟩
    · replace hf := m70 c69
      refine MM.iconst ic_0 d_Tr_readSecret_39 rfl ?_
      obtain rfl := Option.some.inj hf
      subst hZ
      exact MM.zret (Or.inl rfl) rfl d_Tr_readSecret_40 ⟨rfl, rfl⟩
  · replace hf := m78 c76
    refine MM.aload_n (i := 0) rfl rfl d_Tr_readSecret_11 rfl ?_
    refine MM.iconst ic_5 d_Tr_readSecret_12 rfl ?_
    obtain ⟨v73, e72, hf⟩ := mm_bind hf
    refine MM.callV1 (T_Ta_wrong V l 5 h _ e72) (fun _ _ q => q) cal_Ta_wrong rfl tg_33 ct_6 ww_671 ww_670 ww_669 (by decide) (by simp [Value.category]) d_Tr_readSecret_13 rfl ⟨rfl, rfl⟩ rfl ?_
    obtain ⟨b74, e75, hf⟩ := mm_bind hf
    obtain ⟨ob74, e75⟩ := mm_boE e75
    subst e75
    obtain rfl := Option.some.inj hf
    subst hZ
    exact MM.zret ob74 rfl d_Tr_readSecret_16 ⟨rfl, rfl⟩
theorem d_Tr_readEar_0 : decode cX9_readEar 0 = .ok (.aload_n 0, 1) := by decide +kernel
theorem d_Tr_readEar_1 : decode cX9_readEar 1 = .ok (.invokevirtual 87, 3) := by decide +kernel
theorem d_Tr_readEar_4 : decode cX9_readEar 4 = .ok (.aload_n 1, 1) := by decide +kernel
theorem d_Tr_readEar_5 : decode cX9_readEar 5 = .ok (.aload_n 0, 1) := by decide +kernel
theorem d_Tr_readEar_6 : decode cX9_readEar 6 = .ok (.iconst 1, 1) := by decide +kernel
theorem d_Tr_readEar_7 : decode cX9_readEar 7 = .ok (.invokevirtual 184, 3) := by decide +kernel
theorem d_Tr_readEar_10 : decode cX9_readEar 10 = .ok (.istore_n 2, 1) := by decide +kernel
theorem d_Tr_readEar_11 : decode cX9_readEar 11 = .ok (.iload_n 2, 1) := by decide +kernel
theorem d_Tr_readEar_12 : decode cX9_readEar 12 = .ok (.iconst (-1), 1) := by decide +kernel
theorem d_Tr_readEar_13 : decode cX9_readEar 13 = .ok (.if_icmp .ne 5, 3) := by decide +kernel
theorem d_Tr_readEar_16 : decode cX9_readEar 16 = .ok (.iconst 0, 1) := by decide +kernel
theorem d_Tr_readEar_17 : decode cX9_readEar 17 = .ok (.ireturn, 1) := by decide +kernel
theorem d_Tr_readEar_18 : decode cX9_readEar 18 = .ok (.aload_n 1, 1) := by decide +kernel
theorem d_Tr_readEar_19 : decode cX9_readEar 19 = .ok (.aload_n 0, 1) := by decide +kernel
theorem d_Tr_readEar_20 : decode cX9_readEar 20 = .ok (.iconst 1, 1) := by decide +kernel
theorem d_Tr_readEar_21 : decode cX9_readEar 21 = .ok (.invokevirtual 199, 3) := by decide +kernel
theorem d_Tr_readEar_24 : decode cX9_readEar 24 = .ok (.istore_n 3, 1) := by decide +kernel
theorem d_Tr_readEar_25 : decode cX9_readEar 25 = .ok (.iload_n 3, 1) := by decide +kernel
theorem d_Tr_readEar_26 : decode cX9_readEar 26 = .ok (.iconst (-1), 1) := by decide +kernel
theorem d_Tr_readEar_27 : decode cX9_readEar 27 = .ok (.if_icmp .ne 5, 3) := by decide +kernel
theorem d_Tr_readEar_30 : decode cX9_readEar 30 = .ok (.iconst 0, 1) := by decide +kernel
theorem d_Tr_readEar_31 : decode cX9_readEar 31 = .ok (.ireturn, 1) := by decide +kernel
theorem d_Tr_readEar_32 : decode cX9_readEar 32 = .ok (.iload_n 2, 1) := by decide +kernel
theorem d_Tr_readEar_33 : decode cX9_readEar 33 = .ok (.bipush 6, 2) := by decide +kernel
theorem d_Tr_readEar_35 : decode cX9_readEar 35 = .ok (.imul, 1) := by decide +kernel
theorem d_Tr_readEar_36 : decode cX9_readEar 36 = .ok (.iload_n 3, 1) := by decide +kernel
theorem d_Tr_readEar_37 : decode cX9_readEar 37 = .ok (.iadd, 1) := by decide +kernel
theorem d_Tr_readEar_38 : decode cX9_readEar 38 = .ok (.istore 4, 2) := by decide +kernel
theorem d_Tr_readEar_40 : decode cX9_readEar 40 = .ok (.iload_n 3, 1) := by decide +kernel
theorem d_Tr_readEar_41 : decode cX9_readEar 41 = .ok (.iload_n 2, 1) := by decide +kernel
theorem d_Tr_readEar_42 : decode cX9_readEar 42 = .ok (.if_icmp .eq 23, 3) := by decide +kernel
theorem d_Tr_readEar_45 : decode cX9_readEar 45 = .ok (.aload_n 1, 1) := by decide +kernel
theorem d_Tr_readEar_46 : decode cX9_readEar 46 = .ok (.getfield 202, 3) := by decide +kernel
theorem d_Tr_readEar_49 : decode cX9_readEar 49 = .ok (.iload 4, 2) := by decide +kernel
theorem d_Tr_readEar_51 : decode cX9_readEar 51 = .ok (.iaload, 1) := by decide +kernel
theorem d_Tr_readEar_52 : decode cX9_readEar 52 = .ok (.iconst (-1), 1) := by decide +kernel
theorem d_Tr_readEar_53 : decode cX9_readEar 53 = .ok (.if_icmp .ne 12, 3) := by decide +kernel
theorem d_Tr_readEar_56 : decode cX9_readEar 56 = .ok (.aload_n 1, 1) := by decide +kernel
theorem d_Tr_readEar_57 : decode cX9_readEar 57 = .ok (.getfield 205, 3) := by decide +kernel
theorem d_Tr_readEar_60 : decode cX9_readEar 60 = .ok (.bipush 30, 2) := by decide +kernel
theorem d_Tr_readEar_62 : decode cX9_readEar 62 = .ok (.if_icmp .lt 9, 3) := by decide +kernel
theorem d_Tr_readEar_65 : decode cX9_readEar 65 = .ok (.aload_n 0, 1) := by decide +kernel
theorem d_Tr_readEar_66 : decode cX9_readEar 66 = .ok (.iconst 3, 1) := by decide +kernel
theorem d_Tr_readEar_67 : decode cX9_readEar 67 = .ok (.invokevirtual 68, 3) := by decide +kernel
theorem d_Tr_readEar_70 : decode cX9_readEar 70 = .ok (.ireturn, 1) := by decide +kernel
theorem d_Tr_readEar_71 : decode cX9_readEar 71 = .ok (.aload_n 0, 1) := by decide +kernel
theorem d_Tr_readEar_72 : decode cX9_readEar 72 = .ok (.invokevirtual 87, 3) := by decide +kernel
theorem d_Tr_readEar_75 : decode cX9_readEar 75 = .ok (.aload_n 1, 1) := by decide +kernel
theorem d_Tr_readEar_76 : decode cX9_readEar 76 = .ok (.getfield 202, 3) := by decide +kernel
theorem d_Tr_readEar_79 : decode cX9_readEar 79 = .ok (.iload 4, 2) := by decide +kernel
theorem d_Tr_readEar_81 : decode cX9_readEar 81 = .ok (.aload_n 0, 1) := by decide +kernel
theorem d_Tr_readEar_82 : decode cX9_readEar 82 = .ok (.iconst 0, 1) := by decide +kernel
theorem d_Tr_readEar_83 : decode cX9_readEar 83 = .ok (.bipush 10, 2) := by decide +kernel
theorem d_Tr_readEar_85 : decode cX9_readEar 85 = .ok (.invokevirtual 129, 3) := by decide +kernel
theorem d_Tr_readEar_88 : decode cX9_readEar 88 = .ok (.iastore, 1) := by decide +kernel
theorem d_Tr_readEar_89 : decode cX9_readEar 89 = .ok (.aload_n 1, 1) := by decide +kernel
theorem d_Tr_readEar_90 : decode cX9_readEar 90 = .ok (.getfield 202, 3) := by decide +kernel
theorem d_Tr_readEar_93 : decode cX9_readEar 93 = .ok (.iload 4, 2) := by decide +kernel
theorem d_Tr_readEar_95 : decode cX9_readEar 95 = .ok (.iaload, 1) := by decide +kernel
theorem d_Tr_readEar_96 : decode cX9_readEar 96 = .ok (.iconst (-1), 1) := by decide +kernel
theorem d_Tr_readEar_97 : decode cX9_readEar 97 = .ok (.if_icmp .ne 5, 3) := by decide +kernel
theorem d_Tr_readEar_100 : decode cX9_readEar 100 = .ok (.iconst 0, 1) := by decide +kernel
theorem d_Tr_readEar_101 : decode cX9_readEar 101 = .ok (.ireturn, 1) := by decide +kernel
theorem d_Tr_readEar_102 : decode cX9_readEar 102 = .ok (.aload_n 1, 1) := by decide +kernel
theorem d_Tr_readEar_103 : decode cX9_readEar 103 = .ok (.getfield 208, 3) := by decide +kernel
theorem d_Tr_readEar_106 : decode cX9_readEar 106 = .ok (.aload_n 1, 1) := by decide +kernel
theorem d_Tr_readEar_107 : decode cX9_readEar 107 = .ok (.getfield 205, 3) := by decide +kernel
theorem d_Tr_readEar_110 : decode cX9_readEar 110 = .ok (.iload_n 2, 1) := by decide +kernel
theorem d_Tr_readEar_111 : decode cX9_readEar 111 = .ok (.iastore, 1) := by decide +kernel
theorem d_Tr_readEar_112 : decode cX9_readEar 112 = .ok (.aload_n 1, 1) := by decide +kernel
theorem d_Tr_readEar_113 : decode cX9_readEar 113 = .ok (.getfield 211, 3) := by decide +kernel
theorem d_Tr_readEar_116 : decode cX9_readEar 116 = .ok (.aload_n 1, 1) := by decide +kernel
theorem d_Tr_readEar_117 : decode cX9_readEar 117 = .ok (.getfield 205, 3) := by decide +kernel
theorem d_Tr_readEar_120 : decode cX9_readEar 120 = .ok (.iload_n 3, 1) := by decide +kernel
theorem d_Tr_readEar_121 : decode cX9_readEar 121 = .ok (.iastore, 1) := by decide +kernel
theorem d_Tr_readEar_122 : decode cX9_readEar 122 = .ok (.aload_n 1, 1) := by decide +kernel
theorem d_Tr_readEar_123 : decode cX9_readEar 123 = .ok (.dup, 1) := by decide +kernel
theorem d_Tr_readEar_124 : decode cX9_readEar 124 = .ok (.getfield 205, 3) := by decide +kernel
theorem d_Tr_readEar_127 : decode cX9_readEar 127 = .ok (.iconst 1, 1) := by decide +kernel
theorem d_Tr_readEar_128 : decode cX9_readEar 128 = .ok (.iadd, 1) := by decide +kernel
theorem d_Tr_readEar_129 : decode cX9_readEar 129 = .ok (.putfield 205, 3) := by decide +kernel
theorem d_Tr_readEar_132 : decode cX9_readEar 132 = .ok (.aload_n 0, 1) := by decide +kernel
theorem d_Tr_readEar_133 : decode cX9_readEar 133 = .ok (.bipush 59, 2) := by decide +kernel
theorem d_Tr_readEar_135 : decode cX9_readEar 135 = .ok (.invokevirtual 139, 3) := by decide +kernel
theorem d_Tr_readEar_138 : decode cX9_readEar 138 = .ok (.ireturn, 1) := by decide +kernel
noncomputable def f_Tr_readEar (a1 : Nat) (h : mm_H) : Option (Int32 × mm_H) := if mm_tg a1 = 7 then ((f_Ta_next h).bind fun v2 => (f_To_takeTold a1 1 v2).bind fun v4 => if v4.1 = (-1) then (some (0, v4.2)) else ((f_To_findTold a1 1 v4.2).bind fun v6 => if v6.1 = (-1) then (some (0, v6.2)) else (mm_let ((v4.1 * 6) + v6.1) fun y7 => mm_jp (fun (j9 : Unit) => ((f_Ta_wrong 3 v6.2).bind fun v13 => (mm_bo v13.1).bind fun b14 => some (b14, v13.2))) fun k11 => if v6.1 = v4.1 then (k11 ()) else ((mm_ix y7 36).bind fun k16 => if (v6.2.1 (a1 + 12) k16) = (-1) then (if (v6.2.1 a1 13) < 30 then ((f_Ta_next v6.2).bind fun v19 => (f_Ta_takeNumber 0 10 v19).bind fun v21 => (mm_ix y7 36).bind fun k22 => mm_let (mm_pI v21.2 (a1 + 12) k22 v21.1) fun h24 => (mm_ix y7 36).bind fun k26 => if (h24.1 (a1 + 12) k26) = (-1) then (some (0, h24)) else ((mm_ix (h24.1 a1 13) 30).bind fun k28 => mm_let (mm_pI h24 (a1 + 10) k28 v4.1) fun h30 => (mm_ix (h30.1 a1 13) 30).bind fun k32 => mm_let (mm_pI h30 (a1 + 11) k32 v6.1) fun h34 => mm_let (mm_pI h34 a1 13 ((h34.1 a1 13) + 1)) fun h36 => (f_Ta_takeSign 59 h36).bind fun v39 => (mm_bo v39.1).bind fun b40 => some (b40, v39.2))) else (k11 ())) else (k11 ()))))) else none
theorem T_Tr_readEar (V : mm_V) (l : Launch) (a1 : Nat) (h : mm_H) (r : (Int32 × mm_H)) (hf : f_Tr_readEar a1 h = some r) : MT V l Y_Tr_readEar 7 [.ref 33, .ref a1] (fun r1 h1 => r1 = some (.int r.1) ∧ h1 = r.2) h := by
  unfold f_Tr_readEar at hf
  obtain ⟨t_a1, hf⟩ := mm_chkE hf
  refine MT.intro (pn_Tr rfl) [(0, .ref 33), (1, .ref a1)] rfl (Nat.le_of_ble_eq_true rfl) ?_
  generalize hZ : mm_Z V _ = Z0
  refine MM.aload_n (i := 0) rfl rfl d_Tr_readEar_0 rfl ?_
  obtain ⟨v2, e1, hf⟩ := mm_bind hf
  refine MM.callV0 (T_Ta_next V l  h _ e1) (fun _ _ q => q) cal_Ta_next rfl tg_33 ct_6 ww_561 ww_560 ww_673 (by decide) (by simp [Value.category]) d_Tr_readEar_1 rfl ⟨rfl, rfl⟩ rfl ?_
  refine MM.aload_n (i := 1) rfl rfl d_Tr_readEar_4 rfl ?_
  refine MM.aload_n (i := 0) rfl rfl d_Tr_readEar_5 rfl ?_
  refine MM.iconst ic_1 d_Tr_readEar_6 rfl ?_
  obtain ⟨v4, e3, hf⟩ := mm_bind hf
  refine MM.callV1 (T_To_takeTold V l a1 1 v2 _ e3) (fun _ _ q => q) cal_To_takeTold rfl t_a1 ct_7 ww_737 ww_736 ww_735 (by decide) (by simp [Value.category]) d_Tr_readEar_7 rfl ⟨rfl, rfl⟩ rfl ?_
  refine MM.istore_n (i := 2) (lv' := [(2, .int v4.1), (0, .ref 33), (1, .ref a1)]) rfl rfl (Nat.le_of_ble_eq_true rfl) rfl d_Tr_readEar_10 rfl ?_
  refine MM.iload_n (i := 2) rfl rfl d_Tr_readEar_11 rfl ?_
  refine MM.iconst ic_m1 d_Tr_readEar_12 rfl ?_
  obtain ⟨m59, m60⟩ := mm_ifE hf
  refine MM.icmp_ne (tgt := 18) d_Tr_readEar_13 rfl rfl (fun c58 => ?_) (fun c58 => ?_)
  · replace hf := m60 c58
    refine MM.aload_n (i := 1) rfl rfl d_Tr_readEar_18 rfl ?_
    refine MM.aload_n (i := 0) rfl rfl d_Tr_readEar_19 rfl ?_
    refine MM.iconst ic_1 d_Tr_readEar_20 rfl ?_
    obtain ⟨v6, e5, hf⟩ := mm_bind hf
    refine MM.callV1 (T_To_findTold V l a1 1 v4.2 _ e5) (fun _ _ q => q) cal_To_findTold rfl t_a1 ct_7 ww_741 ww_740 ww_771 (by decide) (by simp [Value.category]) d_Tr_readEar_21 rfl ⟨rfl, rfl⟩ rfl ?_
    refine MM.istore_n (i := 3) (lv' := [(3, .int v6.1), (2, .int v4.1), (0, .ref 33), (1, .ref a1)]) rfl rfl (Nat.le_of_ble_eq_true rfl) rfl d_Tr_readEar_24 rfl ?_
    refine MM.iload_n (i := 3) rfl rfl d_Tr_readEar_25 rfl ?_
    refine MM.iconst ic_m1 d_Tr_readEar_26 rfl ?_
    obtain ⟨m56, m57⟩ := mm_ifE hf
    refine MM.icmp_ne (tgt := 32) d_Tr_readEar_27 rfl rfl (fun c55 => ?_) (fun c55 => ?_)
    · replace hf := m57 c55
      refine MM.iload_n (i := 2) rfl rfl d_Tr_readEar_32 rfl ?_
      refine MM.bipush bp_6 d_Tr_readEar_33 rfl ?_
      refine MM.imul d_Tr_readEar_35 rfl ?_
      refine MM.iload_n (i := 3) rfl rfl d_Tr_readEar_36 rfl ?_
      refine MM.iadd d_Tr_readEar_37 rfl ?_
      obtain ⟨y7, e8, hf⟩ := mm_letE hf
      refine MM.istore (lv' := [(4, .int y7), (3, .int v6.1), (2, .int v4.1), (0, .ref 33), (1, .ref a1)]) e8 (Nat.le_of_ble_eq_true rfl) rfl d_Tr_readEar_38 rfl ?_
      refine MM.iload_n (i := 3) rfl rfl d_Tr_readEar_40 rfl ?_
      refine MM.iload_n (i := 2) rfl rfl d_Tr_readEar_41 rfl ?_
      obtain ⟨k11, e54, hf⟩ := mm_jpE hf
      have K10 : ∀ j9, k11 j9 = some r → MM V l Y_Tr_readEar 7 0 0 Z0 65 [(0, .ref 33)] [] v6.2 := by
        intro j9 hf
        rw [e54] at hf
        refine MM.aload_n (i := 0) rfl rfl d_Tr_readEar_65 rfl ?_
        refine MM.iconst ic_3 d_Tr_readEar_66 rfl ?_
        obtain ⟨v13, e12, hf⟩ := mm_bind hf
        refine MM.callV1 (T_Ta_wrong V l 3 v6.2 _ e12) (fun _ _ q => q) cal_Ta_wrong rfl tg_33 ct_6 ww_671 ww_670 ww_669 (by decide) (by simp [Value.category]) d_Tr_readEar_67 rfl ⟨rfl, rfl⟩ rfl ?_
        obtain ⟨b14, e15, hf⟩ := mm_bind hf
        obtain ⟨ob14, e15⟩ := mm_boE e15
        subst e15
        obtain rfl := Option.some.inj hf
        subst hZ
        exact MM.zret ob14 rfl d_Tr_readEar_70 ⟨rfl, rfl⟩
      clear e54
      obtain ⟨m52, m53⟩ := mm_ifE hf
      refine MM.icmp_eq (tgt := 65) d_Tr_readEar_42 rfl rfl (fun c51 => ?_) (fun c51 => ?_)
      · replace hf := m52 c51
        exact MM.sub [3] (by rfl) (K10 _ hf)
      · replace hf := m53 c51
        refine MM.aload_n (i := 1) rfl rfl d_Tr_readEar_45 rfl ?_
        refine MM.gR 7 12 t_a1 rq_7_16 rfl lays_7 ww_421 d_Tr_readEar_46 rfl ?_
        refine MM.iload rfl d_Tr_readEar_49 rfl ?_
        obtain ⟨k16, e17, hf⟩ := mm_bind hf
        refine MM.gI e17 (al_7_16f t_a1) d_Tr_readEar_51 rfl ?_
        refine MM.iconst ic_m1 d_Tr_readEar_52 rfl ?_
        obtain ⟨m49, m50⟩ := mm_ifE hf
        refine MM.icmp_ne (tgt := 65) d_Tr_readEar_53 rfl rfl (fun c48 => ?_) (fun c48 => ?_)
        · replace hf := m50 c48
          exact MM.sub [3] (by rfl) (K10 _ hf)
        · replace hf := m49 c48
          refine MM.aload_n (i := 1) rfl rfl d_Tr_readEar_56 rfl ?_
          refine MM.getI 7 t_a1 lays_7 gq_7_13 ww_412 d_Tr_readEar_57 rfl ?_
          refine MM.bipush bp_30 d_Tr_readEar_60 rfl ?_
          obtain ⟨m46, m47⟩ := mm_ifE hf
          refine MM.icmp_lt (tgt := 71) d_Tr_readEar_62 rfl rfl (fun c45 => ?_) (fun c45 => ?_)
          · replace hf := m46 c45
            refine MM.aload_n (i := 0) rfl rfl d_Tr_readEar_71 rfl ?_
            obtain ⟨v19, e18, hf⟩ := mm_bind hf
            refine MM.callV0 (T_Ta_next V l  v6.2 _ e18) (fun _ _ q => q) cal_Ta_next rfl tg_33 ct_6 ww_561 ww_560 ww_673 (by decide) (by simp [Value.category]) d_Tr_readEar_72 rfl ⟨rfl, rfl⟩ rfl ?_
            refine MM.aload_n (i := 1) rfl rfl d_Tr_readEar_75 rfl ?_
            refine MM.gR 7 12 t_a1 rq_7_16 rfl lays_7 ww_421 d_Tr_readEar_76 rfl ?_
            refine MM.iload rfl d_Tr_readEar_79 rfl ?_
            refine MM.aload_n (i := 0) rfl rfl d_Tr_readEar_81 rfl ?_
            refine MM.iconst ic_0 d_Tr_readEar_82 rfl ?_
            refine MM.bipush bp_10 d_Tr_readEar_83 rfl ?_
            obtain ⟨v21, e20, hf⟩ := mm_bind hf
            refine MM.callV1 (T_Ta_takeNumber V l 0 10 v19 _ e20) (fun _ _ q => q) cal_Ta_takeNumber rfl tg_33 ct_6 ww_709 ww_708 ww_707 (by decide) (by simp [Value.category]) d_Tr_readEar_85 rfl ⟨rfl, rfl⟩ rfl ?_
            obtain ⟨k22, e23, hf⟩ := mm_bind hf
            obtain ⟨h24, e25, hf⟩ := mm_letE hf
            refine MM.sI e23 e25 (al_7_16f t_a1) d_Tr_readEar_88 rfl ?_
            refine MM.aload_n (i := 1) rfl rfl d_Tr_readEar_89 rfl ?_
            refine MM.gR 7 12 t_a1 rq_7_16 rfl lays_7 ww_421 d_Tr_readEar_90 rfl ?_
            refine MM.iload rfl d_Tr_readEar_93 rfl ?_
            obtain ⟨k26, e27, hf⟩ := mm_bind hf
            refine MM.gI e27 (al_7_16f t_a1) d_Tr_readEar_95 rfl ?_
            refine MM.iconst ic_m1 d_Tr_readEar_96 rfl ?_
            obtain ⟨m43, m44⟩ := mm_ifE hf
            refine MM.icmp_ne (tgt := 102) d_Tr_readEar_97 rfl rfl (fun c42 => ?_) (fun c42 => ?_)
            · replace hf := m44 c42
              refine MM.aload_n (i := 1) rfl rfl d_Tr_readEar_102 rfl ?_
              refine MM.gR 7 10 t_a1 rq_7_14 rfl lays_7 ww_415 d_Tr_readEar_103 rfl ?_
              refine MM.aload_n (i := 1) rfl rfl d_Tr_readEar_106 rfl ?_
              refine MM.getI 7 t_a1 lays_7 gq_7_13 ww_412 d_Tr_readEar_107 rfl ?_
              refine MM.iload_n (i := 2) rfl rfl d_Tr_readEar_110 rfl ?_
              obtain ⟨k28, e29, hf⟩ := mm_bind hf
              obtain ⟨h30, e31, hf⟩ := mm_letE hf
              refine MM.sI e29 e31 (al_7_14f t_a1) d_Tr_readEar_111 rfl ?_
              refine MM.aload_n (i := 1) rfl rfl d_Tr_readEar_112 rfl ?_
              refine MM.gR 7 11 t_a1 rq_7_15 rfl lays_7 ww_418 d_Tr_readEar_113 rfl ?_
              refine MM.aload_n (i := 1) rfl rfl d_Tr_readEar_116 rfl ?_
              refine MM.getI 7 t_a1 lays_7 gq_7_13 ww_412 d_Tr_readEar_117 rfl ?_
              refine MM.iload_n (i := 3) rfl rfl d_Tr_readEar_120 rfl ?_
              obtain ⟨k32, e33, hf⟩ := mm_bind hf
              obtain ⟨h34, e35, hf⟩ := mm_letE hf
              refine MM.sI e33 e35 (al_7_15f t_a1) d_Tr_readEar_121 rfl ?_
              refine MM.aload_n (i := 1) rfl rfl d_Tr_readEar_122 rfl ?_
              refine MM.dup rfl d_Tr_readEar_123 rfl ?_
              refine MM.getI 7 t_a1 lays_7 gq_7_13 ww_412 d_Tr_readEar_124 rfl ?_
              refine MM.iconst ic_1 d_Tr_readEar_127 rfl ?_
              refine MM.iadd d_Tr_readEar_128 rfl ?_
              obtain ⟨h36, e37, hf⟩ := mm_letE hf
              refine MM.putI e37 7 t_a1 lays_7 toks_7 pq_7_13 ww_412 d_Tr_readEar_129 rfl ?_
              refine MM.aload_n (i := 0) rfl rfl d_Tr_readEar_132 rfl ?_
              refine MM.bipush bp_59 d_Tr_readEar_133 rfl ?_
              obtain ⟨v39, e38, hf⟩ := mm_bind hf
              refine MM.callV1 (T_Ta_takeSign V l 59 h36 _ e38) (fun _ _ q => q) cal_Ta_takeSign rfl tg_33 ct_6 ww_715 ww_714 ww_713 (by decide) (by simp [Value.category]) d_Tr_readEar_135 rfl ⟨rfl, rfl⟩ rfl ?_
              obtain ⟨b40, e41, hf⟩ := mm_bind hf
              obtain ⟨ob40, e41⟩ := mm_boE e41
              subst e41
              obtain rfl := Option.some.inj hf
              subst hZ
              exact MM.zret ob40 rfl d_Tr_readEar_138 ⟨rfl, rfl⟩
            · replace hf := m43 c42
              refine MM.iconst ic_0 d_Tr_readEar_100 rfl ?_
              obtain rfl := Option.some.inj hf
              subst hZ
              exact MM.zret (Or.inl rfl) rfl d_Tr_readEar_101 ⟨rfl, rfl⟩
          · replace hf := m47 c45
            exact MM.sub [3] (by rfl) (K10 _ hf)
    · replace hf := m56 c55
      refine MM.iconst ic_0 d_Tr_readEar_30 rfl ?_
      obtain rfl := Option.some.inj hf
      subst hZ
      exact MM.zret (Or.inl rfl) rfl d_Tr_readEar_31 ⟨rfl, rfl⟩
  · replace hf := m59 c58
    refine MM.iconst ic_0 d_Tr_readEar_16 rfl ?_
    obtain rfl := Option.some.inj hf
    subst hZ
    exact MM.zret (Or.inl rfl) rfl d_Tr_readEar_17 ⟨rfl, rfl⟩
theorem d_Tr_readClash_0 : decode cX9_readClash 0 = .ok (.aload_n 0, 1) := by decide +kernel
theorem d_Tr_readClash_1 : decode cX9_readClash 1 = .ok (.invokevirtual 87, 3) := by decide +kernel
theorem d_Tr_readClash_4 : decode cX9_readClash 4 = .ok (.aload_n 1, 1) := by decide +kernel
theorem d_Tr_readClash_5 : decode cX9_readClash 5 = .ok (.aload_n 0, 1) := by decide +kernel
theorem d_Tr_readClash_6 : decode cX9_readClash 6 = .ok (.iconst 0, 1) := by decide +kernel
theorem d_Tr_readClash_7 : decode cX9_readClash 7 = .ok (.invokevirtual 184, 3) := by decide +kernel
theorem d_Tr_readClash_10 : decode cX9_readClash 10 = .ok (.istore_n 2, 1) := by decide +kernel
theorem d_Tr_readClash_11 : decode cX9_readClash 11 = .ok (.iload_n 2, 1) := by decide +kernel
theorem d_Tr_readClash_12 : decode cX9_readClash 12 = .ok (.iconst (-1), 1) := by decide +kernel
theorem d_Tr_readClash_13 : decode cX9_readClash 13 = .ok (.if_icmp .ne 5, 3) := by decide +kernel
theorem d_Tr_readClash_16 : decode cX9_readClash 16 = .ok (.iconst 0, 1) := by decide +kernel
theorem d_Tr_readClash_17 : decode cX9_readClash 17 = .ok (.ireturn, 1) := by decide +kernel
theorem d_Tr_readClash_18 : decode cX9_readClash 18 = .ok (.aload_n 1, 1) := by decide +kernel
theorem d_Tr_readClash_19 : decode cX9_readClash 19 = .ok (.aload_n 0, 1) := by decide +kernel
theorem d_Tr_readClash_20 : decode cX9_readClash 20 = .ok (.iconst 0, 1) := by decide +kernel
theorem d_Tr_readClash_21 : decode cX9_readClash 21 = .ok (.invokevirtual 199, 3) := by decide +kernel
theorem d_Tr_readClash_24 : decode cX9_readClash 24 = .ok (.istore_n 3, 1) := by decide +kernel
theorem d_Tr_readClash_25 : decode cX9_readClash 25 = .ok (.iload_n 3, 1) := by decide +kernel
theorem d_Tr_readClash_26 : decode cX9_readClash 26 = .ok (.iconst (-1), 1) := by decide +kernel
theorem d_Tr_readClash_27 : decode cX9_readClash 27 = .ok (.if_icmp .ne 5, 3) := by decide +kernel
theorem d_Tr_readClash_30 : decode cX9_readClash 30 = .ok (.iconst 0, 1) := by decide +kernel
theorem d_Tr_readClash_31 : decode cX9_readClash 31 = .ok (.ireturn, 1) := by decide +kernel
theorem d_Tr_readClash_32 : decode cX9_readClash 32 = .ok (.iload_n 3, 1) := by decide +kernel
theorem d_Tr_readClash_33 : decode cX9_readClash 33 = .ok (.iload_n 2, 1) := by decide +kernel
theorem d_Tr_readClash_34 : decode cX9_readClash 34 = .ok (.if_icmp .eq 17, 3) := by decide +kernel
theorem d_Tr_readClash_37 : decode cX9_readClash 37 = .ok (.aload_n 1, 1) := by decide +kernel
theorem d_Tr_readClash_38 : decode cX9_readClash 38 = .ok (.getfield 214, 3) := by decide +kernel
theorem d_Tr_readClash_41 : decode cX9_readClash 41 = .ok (.iload_n 2, 1) := by decide +kernel
theorem d_Tr_readClash_42 : decode cX9_readClash 42 = .ok (.iaload, 1) := by decide +kernel
theorem d_Tr_readClash_43 : decode cX9_readClash 43 = .ok (.iload_n 3, 1) := by decide +kernel
theorem d_Tr_readClash_44 : decode cX9_readClash 44 = .ok (.invokestatic 217, 3) := by decide +kernel
theorem d_Tr_readClash_47 : decode cX9_readClash 47 = .ok (.iconst 1, 1) := by decide +kernel
theorem d_Tr_readClash_48 : decode cX9_readClash 48 = .ok (.if_icmp .ne 9, 3) := by decide +kernel
theorem d_Tr_readClash_51 : decode cX9_readClash 51 = .ok (.aload_n 0, 1) := by decide +kernel
theorem d_Tr_readClash_52 : decode cX9_readClash 52 = .ok (.iconst 3, 1) := by decide +kernel
theorem d_Tr_readClash_53 : decode cX9_readClash 53 = .ok (.invokevirtual 68, 3) := by decide +kernel
theorem d_Tr_readClash_56 : decode cX9_readClash 56 = .ok (.ireturn, 1) := by decide +kernel
theorem d_Tr_readClash_57 : decode cX9_readClash 57 = .ok (.aload_n 0, 1) := by decide +kernel
theorem d_Tr_readClash_58 : decode cX9_readClash 58 = .ok (.invokevirtual 87, 3) := by decide +kernel
theorem d_Tr_readClash_61 : decode cX9_readClash 61 = .ok (.aload_n 1, 1) := by decide +kernel
theorem d_Tr_readClash_62 : decode cX9_readClash 62 = .ok (.getfield 214, 3) := by decide +kernel
theorem d_Tr_readClash_65 : decode cX9_readClash 65 = .ok (.iload_n 2, 1) := by decide +kernel
theorem d_Tr_readClash_66 : decode cX9_readClash 66 = .ok (.dup2, 1) := by decide +kernel
theorem d_Tr_readClash_67 : decode cX9_readClash 67 = .ok (.iaload, 1) := by decide +kernel
theorem d_Tr_readClash_68 : decode cX9_readClash 68 = .ok (.iconst 1, 1) := by decide +kernel
theorem d_Tr_readClash_69 : decode cX9_readClash 69 = .ok (.iload_n 3, 1) := by decide +kernel
theorem d_Tr_readClash_70 : decode cX9_readClash 70 = .ok (.ishl, 1) := by decide +kernel
theorem d_Tr_readClash_71 : decode cX9_readClash 71 = .ok (.ior, 1) := by decide +kernel
theorem d_Tr_readClash_72 : decode cX9_readClash 72 = .ok (.iastore, 1) := by decide +kernel
theorem d_Tr_readClash_73 : decode cX9_readClash 73 = .ok (.aload_n 1, 1) := by decide +kernel
theorem d_Tr_readClash_74 : decode cX9_readClash 74 = .ok (.getfield 214, 3) := by decide +kernel
theorem d_Tr_readClash_77 : decode cX9_readClash 77 = .ok (.iload_n 3, 1) := by decide +kernel
theorem d_Tr_readClash_78 : decode cX9_readClash 78 = .ok (.dup2, 1) := by decide +kernel
theorem d_Tr_readClash_79 : decode cX9_readClash 79 = .ok (.iaload, 1) := by decide +kernel
theorem d_Tr_readClash_80 : decode cX9_readClash 80 = .ok (.iconst 1, 1) := by decide +kernel
theorem d_Tr_readClash_81 : decode cX9_readClash 81 = .ok (.iload_n 2, 1) := by decide +kernel
theorem d_Tr_readClash_82 : decode cX9_readClash 82 = .ok (.ishl, 1) := by decide +kernel
theorem d_Tr_readClash_83 : decode cX9_readClash 83 = .ok (.ior, 1) := by decide +kernel
theorem d_Tr_readClash_84 : decode cX9_readClash 84 = .ok (.iastore, 1) := by decide +kernel
theorem d_Tr_readClash_85 : decode cX9_readClash 85 = .ok (.aload_n 1, 1) := by decide +kernel
theorem d_Tr_readClash_86 : decode cX9_readClash 86 = .ok (.dup, 1) := by decide +kernel
theorem d_Tr_readClash_87 : decode cX9_readClash 87 = .ok (.getfield 220, 3) := by decide +kernel
theorem d_Tr_readClash_90 : decode cX9_readClash 90 = .ok (.iconst 1, 1) := by decide +kernel
theorem d_Tr_readClash_91 : decode cX9_readClash 91 = .ok (.iadd, 1) := by decide +kernel
theorem d_Tr_readClash_92 : decode cX9_readClash 92 = .ok (.putfield 220, 3) := by decide +kernel
theorem d_Tr_readClash_95 : decode cX9_readClash 95 = .ok (.aload_n 0, 1) := by decide +kernel
theorem d_Tr_readClash_96 : decode cX9_readClash 96 = .ok (.bipush 59, 2) := by decide +kernel
theorem d_Tr_readClash_98 : decode cX9_readClash 98 = .ok (.invokevirtual 139, 3) := by decide +kernel
theorem d_Tr_readClash_101 : decode cX9_readClash 101 = .ok (.ireturn, 1) := by decide +kernel
noncomputable def f_Tr_readClash (a1 : Nat) (h : mm_H) : Option (Int32 × mm_H) := if mm_tg a1 = 7 then ((f_Ta_next h).bind fun v2 => (f_To_takeTold a1 0 v2).bind fun v4 => if v4.1 = (-1) then (some (0, v4.2)) else ((f_To_findTold a1 0 v4.2).bind fun v6 => if v6.1 = (-1) then (some (0, v6.2)) else (mm_jp (fun (j7 : Unit) => ((f_Ta_wrong 3 v6.2).bind fun v11 => (mm_bo v11.1).bind fun b12 => some (b12, v11.2))) fun k9 => if v6.1 = v4.1 then (k9 ()) else ((mm_ix v4.1 10).bind fun k14 => (f_X_bit (v6.2.1 (a1 + 13) k14) v6.1).bind fun v17 => if v17 = 1 then (k9 ()) else ((f_Ta_next v6.2).bind fun v19 => (mm_ix v4.1 10).bind fun k20 => (mm_ix v4.1 10).bind fun k22 => mm_let (mm_pI v19 (a1 + 13) k22 ((v19.1 (a1 + 13) k20) ||| ((1 : Int32) <<< (v6.1 &&& 31)))) fun h24 => (mm_ix v6.1 10).bind fun k26 => (mm_ix v6.1 10).bind fun k28 => mm_let (mm_pI h24 (a1 + 13) k28 ((h24.1 (a1 + 13) k26) ||| ((1 : Int32) <<< (v4.1 &&& 31)))) fun h30 => mm_let (mm_pI h30 a1 17 ((h30.1 a1 17) + 1)) fun h32 => (f_Ta_takeSign 59 h32).bind fun v35 => (mm_bo v35.1).bind fun b36 => some (b36, v35.2)))))) else none
theorem T_Tr_readClash (V : mm_V) (l : Launch) (a1 : Nat) (h : mm_H) (r : (Int32 × mm_H)) (hf : f_Tr_readClash a1 h = some r) : MT V l Y_Tr_readClash 7 [.ref 33, .ref a1] (fun r1 h1 => r1 = some (.int r.1) ∧ h1 = r.2) h := by
  unfold f_Tr_readClash at hf
  obtain ⟨t_a1, hf⟩ := mm_chkE hf
  refine MT.intro (pn_Tr rfl) [(0, .ref 33), (1, .ref a1)] rfl (Nat.le_of_ble_eq_true rfl) ?_
  generalize hZ : mm_Z V _ = Z0
  refine MM.aload_n (i := 0) rfl rfl d_Tr_readClash_0 rfl ?_
  obtain ⟨v2, e1, hf⟩ := mm_bind hf
  refine MM.callV0 (T_Ta_next V l  h _ e1) (fun _ _ q => q) cal_Ta_next rfl tg_33 ct_6 ww_561 ww_560 ww_673 (by decide) (by simp [Value.category]) d_Tr_readClash_1 rfl ⟨rfl, rfl⟩ rfl ?_
  refine MM.aload_n (i := 1) rfl rfl d_Tr_readClash_4 rfl ?_
  refine MM.aload_n (i := 0) rfl rfl d_Tr_readClash_5 rfl ?_
  refine MM.iconst ic_0 d_Tr_readClash_6 rfl ?_
  obtain ⟨v4, e3, hf⟩ := mm_bind hf
  refine MM.callV1 (T_To_takeTold V l a1 0 v2 _ e3) (fun _ _ q => q) cal_To_takeTold rfl t_a1 ct_7 ww_737 ww_736 ww_735 (by decide) (by simp [Value.category]) d_Tr_readClash_7 rfl ⟨rfl, rfl⟩ rfl ?_
  refine MM.istore_n (i := 2) (lv' := [(2, .int v4.1), (0, .ref 33), (1, .ref a1)]) rfl rfl (Nat.le_of_ble_eq_true rfl) rfl d_Tr_readClash_10 rfl ?_
  refine MM.iload_n (i := 2) rfl rfl d_Tr_readClash_11 rfl ?_
  refine MM.iconst ic_m1 d_Tr_readClash_12 rfl ?_
  obtain ⟨m49, m50⟩ := mm_ifE hf
  refine MM.icmp_ne (tgt := 18) d_Tr_readClash_13 rfl rfl (fun c48 => ?_) (fun c48 => ?_)
  · replace hf := m50 c48
    refine MM.aload_n (i := 1) rfl rfl d_Tr_readClash_18 rfl ?_
    refine MM.aload_n (i := 0) rfl rfl d_Tr_readClash_19 rfl ?_
    refine MM.iconst ic_0 d_Tr_readClash_20 rfl ?_
    obtain ⟨v6, e5, hf⟩ := mm_bind hf
    refine MM.callV1 (T_To_findTold V l a1 0 v4.2 _ e5) (fun _ _ q => q) cal_To_findTold rfl t_a1 ct_7 ww_741 ww_740 ww_771 (by decide) (by simp [Value.category]) d_Tr_readClash_21 rfl ⟨rfl, rfl⟩ rfl ?_
    refine MM.istore_n (i := 3) (lv' := [(3, .int v6.1), (2, .int v4.1), (0, .ref 33), (1, .ref a1)]) rfl rfl (Nat.le_of_ble_eq_true rfl) rfl d_Tr_readClash_24 rfl ?_
    refine MM.iload_n (i := 3) rfl rfl d_Tr_readClash_25 rfl ?_
    refine MM.iconst ic_m1 d_Tr_readClash_26 rfl ?_
    obtain ⟨m46, m47⟩ := mm_ifE hf
    refine MM.icmp_ne (tgt := 32) d_Tr_readClash_27 rfl rfl (fun c45 => ?_) (fun c45 => ?_)
    · replace hf := m47 c45
      refine MM.iload_n (i := 3) rfl rfl d_Tr_readClash_32 rfl ?_
      refine MM.iload_n (i := 2) rfl rfl d_Tr_readClash_33 rfl ?_
      obtain ⟨k9, e44, hf⟩ := mm_jpE hf
      have K8 : ∀ j7, k9 j7 = some r → MM V l Y_Tr_readClash 7 0 0 Z0 51 [(0, .ref 33)] [] v6.2 := by
        intro j7 hf
        rw [e44] at hf
        refine MM.aload_n (i := 0) rfl rfl d_Tr_readClash_51 rfl ?_
        refine MM.iconst ic_3 d_Tr_readClash_52 rfl ?_
        obtain ⟨v11, e10, hf⟩ := mm_bind hf
        refine MM.callV1 (T_Ta_wrong V l 3 v6.2 _ e10) (fun _ _ q => q) cal_Ta_wrong rfl tg_33 ct_6 ww_671 ww_670 ww_669 (by decide) (by simp [Value.category]) d_Tr_readClash_53 rfl ⟨rfl, rfl⟩ rfl ?_
        obtain ⟨b12, e13, hf⟩ := mm_bind hf
        obtain ⟨ob12, e13⟩ := mm_boE e13
        subst e13
        obtain rfl := Option.some.inj hf
        subst hZ
        exact MM.zret ob12 rfl d_Tr_readClash_56 ⟨rfl, rfl⟩
      clear e44
      obtain ⟨m42, m43⟩ := mm_ifE hf
      refine MM.icmp_eq (tgt := 51) d_Tr_readClash_34 rfl rfl (fun c41 => ?_) (fun c41 => ?_)
      · replace hf := m42 c41
        exact MM.sub [2] (by rfl) (K8 _ hf)
      · replace hf := m43 c41
        refine MM.aload_n (i := 1) rfl rfl d_Tr_readClash_37 rfl ?_
        refine MM.gR 7 13 t_a1 rq_7_18 rfl lays_7 ww_427 d_Tr_readClash_38 rfl ?_
        refine MM.iload_n (i := 2) rfl rfl d_Tr_readClash_41 rfl ?_
        obtain ⟨k14, e15, hf⟩ := mm_bind hf
        refine MM.gI e15 (al_7_18f t_a1) d_Tr_readClash_42 rfl ?_
        refine MM.iload_n (i := 3) rfl rfl d_Tr_readClash_43 rfl ?_
        obtain ⟨v17, e16, hf⟩ := mm_bind hf
        refine MM.callSN1 (T_X_bit V l (v6.2.1 (a1 + 13) k14) v6.1 v6.2 _ e16) (fun _ _ q => q) cal_X_bit rfl ww_763 ww_777n (by decide) (by simp [Value.category]) d_Tr_readClash_44 rfl ⟨rfl, rfl⟩ rfl ?_
        refine MM.iconst ic_1 d_Tr_readClash_47 rfl ?_
        obtain ⟨m39, m40⟩ := mm_ifE hf
        refine MM.icmp_ne (tgt := 57) d_Tr_readClash_48 rfl rfl (fun c38 => ?_) (fun c38 => ?_)
        · replace hf := m40 c38
          refine MM.aload_n (i := 0) rfl rfl d_Tr_readClash_57 rfl ?_
          obtain ⟨v19, e18, hf⟩ := mm_bind hf
          refine MM.callV0 (T_Ta_next V l  v6.2 _ e18) (fun _ _ q => q) cal_Ta_next rfl tg_33 ct_6 ww_561 ww_560 ww_673 (by decide) (by simp [Value.category]) d_Tr_readClash_58 rfl ⟨rfl, rfl⟩ rfl ?_
          refine MM.aload_n (i := 1) rfl rfl d_Tr_readClash_61 rfl ?_
          refine MM.gR 7 13 t_a1 rq_7_18 rfl lays_7 ww_427 d_Tr_readClash_62 rfl ?_
          refine MM.iload_n (i := 2) rfl rfl d_Tr_readClash_65 rfl ?_
          refine MM.dup2 rfl rfl d_Tr_readClash_66 rfl ?_
          obtain ⟨k20, e21, hf⟩ := mm_bind hf
          refine MM.gI e21 (al_7_18f t_a1) d_Tr_readClash_67 rfl ?_
          refine MM.iconst ic_1 d_Tr_readClash_68 rfl ?_
          refine MM.iload_n (i := 3) rfl rfl d_Tr_readClash_69 rfl ?_
          refine MM.ishl d_Tr_readClash_70 rfl ?_
          refine MM.ior d_Tr_readClash_71 rfl ?_
          obtain ⟨k22, e23, hf⟩ := mm_bind hf
          obtain ⟨h24, e25, hf⟩ := mm_letE hf
          refine MM.sI e23 e25 (al_7_18f t_a1) d_Tr_readClash_72 rfl ?_
          refine MM.aload_n (i := 1) rfl rfl d_Tr_readClash_73 rfl ?_
          refine MM.gR 7 13 t_a1 rq_7_18 rfl lays_7 ww_427 d_Tr_readClash_74 rfl ?_
          refine MM.iload_n (i := 3) rfl rfl d_Tr_readClash_77 rfl ?_
          refine MM.dup2 rfl rfl d_Tr_readClash_78 rfl ?_
          obtain ⟨k26, e27, hf⟩ := mm_bind hf
          refine MM.gI e27 (al_7_18f t_a1) d_Tr_readClash_79 rfl ?_
          refine MM.iconst ic_1 d_Tr_readClash_80 rfl ?_
          refine MM.iload_n (i := 2) rfl rfl d_Tr_readClash_81 rfl ?_
          refine MM.ishl d_Tr_readClash_82 rfl ?_
          refine MM.ior d_Tr_readClash_83 rfl ?_
          obtain ⟨k28, e29, hf⟩ := mm_bind hf
          obtain ⟨h30, e31, hf⟩ := mm_letE hf
          refine MM.sI e29 e31 (al_7_18f t_a1) d_Tr_readClash_84 rfl ?_
          refine MM.aload_n (i := 1) rfl rfl d_Tr_readClash_85 rfl ?_
          refine MM.dup rfl d_Tr_readClash_86 rfl ?_
          refine MM.getI 7 t_a1 lays_7 gq_7_17 ww_423 d_Tr_readClash_87 rfl ?_
          refine MM.iconst ic_1 d_Tr_readClash_90 rfl ?_
          refine MM.iadd d_Tr_readClash_91 rfl ?_
          obtain ⟨h32, e33, hf⟩ := mm_letE hf
          refine MM.putI e33 7 t_a1 lays_7 toks_7 pq_7_17 ww_423 d_Tr_readClash_92 rfl ?_
          refine MM.aload_n (i := 0) rfl rfl d_Tr_readClash_95 rfl ?_
          refine MM.bipush bp_59 d_Tr_readClash_96 rfl ?_
          obtain ⟨v35, e34, hf⟩ := mm_bind hf
          refine MM.callV1 (T_Ta_takeSign V l 59 h32 _ e34) (fun _ _ q => q) cal_Ta_takeSign rfl tg_33 ct_6 ww_715 ww_714 ww_713 (by decide) (by simp [Value.category]) d_Tr_readClash_98 rfl ⟨rfl, rfl⟩ rfl ?_
          obtain ⟨b36, e37, hf⟩ := mm_bind hf
          obtain ⟨ob36, e37⟩ := mm_boE e37
          subst e37
          obtain rfl := Option.some.inj hf
          subst hZ
          exact MM.zret ob36 rfl d_Tr_readClash_101 ⟨rfl, rfl⟩
        · replace hf := m39 c38
          exact MM.sub [2] (by rfl) (K8 _ hf)
    · replace hf := m46 c45
      refine MM.iconst ic_0 d_Tr_readClash_30 rfl ?_
      obtain rfl := Option.some.inj hf
      subst hZ
      exact MM.zret (Or.inl rfl) rfl d_Tr_readClash_31 ⟨rfl, rfl⟩
  · replace hf := m49 c48
    refine MM.iconst ic_0 d_Tr_readClash_16 rfl ?_
    obtain rfl := Option.some.inj hf
    subst hZ
    exact MM.zret (Or.inl rfl) rfl d_Tr_readClash_17 ⟨rfl, rfl⟩
