/-! methods: La_put, La_readProduct, La_readSum, La_readTest, La_readAll, La_readPart, Tr_readWorth, Tr_readLine, Tr_readTown, Ta_clear, JA_fill_AJJV, St_begin, Tk_clear, X_town, Tk_addLine, Go_readTell, Go_readPay -/
theorem d_La_put_0 : decode cX3_put 0 = .ok (.aload_n 0, 1) := by decide +kernel
theorem d_La_put_1 : decode cX3_put 1 = .ok (.getfield 18, 3) := by decide +kernel
theorem d_La_put_4 : decode cX3_put 4 = .ok (.aload_n 0, 1) := by decide +kernel
theorem d_La_put_5 : decode cX3_put 5 = .ok (.getfield 9, 3) := by decide +kernel
theorem d_La_put_8 : decode cX3_put 8 = .ok (.arraylength, 1) := by decide +kernel
theorem d_La_put_9 : decode cX3_put 9 = .ok (.if_icmp .ge 23, 3) := by decide +kernel
theorem d_La_put_12 : decode cX3_put 12 = .ok (.aload_n 0, 1) := by decide +kernel
theorem d_La_put_13 : decode cX3_put 13 = .ok (.getfield 9, 3) := by decide +kernel
theorem d_La_put_16 : decode cX3_put 16 = .ok (.aload_n 0, 1) := by decide +kernel
theorem d_La_put_17 : decode cX3_put 17 = .ok (.getfield 18, 3) := by decide +kernel
theorem d_La_put_20 : decode cX3_put 20 = .ok (.iload_n 1, 1) := by decide +kernel
theorem d_La_put_21 : decode cX3_put 21 = .ok (.iastore, 1) := by decide +kernel
theorem d_La_put_22 : decode cX3_put 22 = .ok (.aload_n 0, 1) := by decide +kernel
theorem d_La_put_23 : decode cX3_put 23 = .ok (.dup, 1) := by decide +kernel
theorem d_La_put_24 : decode cX3_put 24 = .ok (.getfield 18, 3) := by decide +kernel
theorem d_La_put_27 : decode cX3_put 27 = .ok (.iconst 1, 1) := by decide +kernel
theorem d_La_put_28 : decode cX3_put 28 = .ok (.iadd, 1) := by decide +kernel
theorem d_La_put_29 : decode cX3_put 29 = .ok (.putfield 18, 3) := by decide +kernel
theorem d_La_put_32 : decode cX3_put 32 = .ok (.return_, 1) := by decide +kernel
noncomputable def f_La_put (a0 : Nat) (x1 : Int32) (h : mm_H) : Option mm_H := if mm_tg a0 = 2 then (if 1000 ≤ (h.1 a0 2) then (some h) else ((mm_ix (h.1 a0 2) 1000).bind fun k1 => mm_let (mm_pI h (a0 + 1) k1 x1) fun h3 => mm_let (mm_pI h3 a0 2 ((h3.1 a0 2) + 1)) fun h5 => some h5)) else none
theorem T_La_put (V : mm_V) (l : Launch) (a0 : Nat) (x1 : Int32) (h : mm_H) (r : mm_H) (hf : f_La_put a0 x1 h = some r) : MT V l Y_La_put 1 [.ref a0, .int x1] (fun r1 h1 => r1 = none ∧ h1 = r) h := by
  unfold f_La_put at hf
  obtain ⟨t_a0, hf⟩ := mm_chkE hf
  refine MT.intro (pn_La rfl) [(0, .ref a0), (1, .int x1)] rfl (Nat.le_of_ble_eq_true rfl) ?_
  generalize hZ : mm_Z V _ = Z0
  refine MM.aload_n (i := 0) rfl rfl d_La_put_0 rfl ?_
  refine MM.getI 2 t_a0 lays_2 gq_2_2 ww_352 d_La_put_1 rfl ?_
  refine MM.aload_n (i := 0) rfl rfl d_La_put_4 rfl ?_
  refine MM.gR 2 1 t_a0 rq_2_0 rfl lays_2 ww_350 d_La_put_5 rfl ?_
  refine MM.alenN (al_2_0f t_a0) (by decide) on_1000 d_La_put_8 rfl ?_
  obtain ⟨m8, m9⟩ := mm_ifE hf
  refine MM.icmp_ge (tgt := 32) d_La_put_9 rfl rfl (fun c7 => ?_) (fun c7 => ?_)
  · replace hf := m8 c7
    obtain rfl := Option.some.inj hf
    subst hZ
    exact MM.vret rfl d_La_put_32 ⟨rfl, rfl⟩
  · replace hf := m9 c7
    refine MM.aload_n (i := 0) rfl rfl d_La_put_12 rfl ?_
    refine MM.gR 2 1 t_a0 rq_2_0 rfl lays_2 ww_350 d_La_put_13 rfl ?_
    refine MM.aload_n (i := 0) rfl rfl d_La_put_16 rfl ?_
    refine MM.getI 2 t_a0 lays_2 gq_2_2 ww_352 d_La_put_17 rfl ?_
    refine MM.iload_n (i := 1) rfl rfl d_La_put_20 rfl ?_
    obtain ⟨k1, e2, hf⟩ := mm_bind hf
    obtain ⟨h3, e4, hf⟩ := mm_letE hf
    refine MM.sI e2 e4 (al_2_0f t_a0) d_La_put_21 rfl ?_
    refine MM.aload_n (i := 0) rfl rfl d_La_put_22 rfl ?_
    refine MM.dup rfl d_La_put_23 rfl ?_
    refine MM.getI 2 t_a0 lays_2 gq_2_2 ww_352 d_La_put_24 rfl ?_
    refine MM.iconst ic_1 d_La_put_27 rfl ?_
    refine MM.iadd d_La_put_28 rfl ?_
    obtain ⟨h5, e6, hf⟩ := mm_letE hf
    refine MM.putI e6 2 t_a0 lays_2 toks_2 pq_2_2 ww_352 d_La_put_29 rfl ?_
    obtain rfl := Option.some.inj hf
    subst hZ
    exact MM.vret rfl d_La_put_32 ⟨rfl, rfl⟩
theorem d_La_readProduct_0 : decode cX3_readProduct 0 = .ok (.aload_n 0, 1) := by decide +kernel
theorem d_La_readProduct_1 : decode cX3_readProduct 1 = .ok (.aload_n 1, 1) := by decide +kernel
theorem d_La_readProduct_2 : decode cX3_readProduct 2 = .ok (.iload_n 2, 1) := by decide +kernel
theorem d_La_readProduct_3 : decode cX3_readProduct 3 = .ok (.invokevirtual 55, 3) := by decide +kernel
theorem d_La_readProduct_6 : decode cX3_readProduct 6 = .ok (.ifCond .ne 5, 3) := by decide +kernel
theorem d_La_readProduct_9 : decode cX3_readProduct 9 = .ok (.iconst 0, 1) := by decide +kernel
theorem d_La_readProduct_10 : decode cX3_readProduct 10 = .ok (.ireturn, 1) := by decide +kernel
theorem d_La_readProduct_11 : decode cX3_readProduct 11 = .ok (.iconst 0, 1) := by decide +kernel
theorem d_La_readProduct_12 : decode cX3_readProduct 12 = .ok (.istore_n 3, 1) := by decide +kernel
theorem d_La_readProduct_13 : decode cX3_readProduct 13 = .ok (.iload_n 3, 1) := by decide +kernel
theorem d_La_readProduct_14 : decode cX3_readProduct 14 = .ok (.sipush 1000, 3) := by decide +kernel
theorem d_La_readProduct_17 : decode cX3_readProduct 17 = .ok (.if_icmp .ge 39, 3) := by decide +kernel
theorem d_La_readProduct_20 : decode cX3_readProduct 20 = .ok (.aload_n 1, 1) := by decide +kernel
theorem d_La_readProduct_21 : decode cX3_readProduct 21 = .ok (.bipush 42, 2) := by decide +kernel
theorem d_La_readProduct_23 : decode cX3_readProduct 23 = .ok (.invokevirtual 48, 3) := by decide +kernel
theorem d_La_readProduct_26 : decode cX3_readProduct 26 = .ok (.ifCond .eq 30, 3) := by decide +kernel
theorem d_La_readProduct_29 : decode cX3_readProduct 29 = .ok (.aload_n 1, 1) := by decide +kernel
theorem d_La_readProduct_30 : decode cX3_readProduct 30 = .ok (.invokevirtual 38, 3) := by decide +kernel
theorem d_La_readProduct_33 : decode cX3_readProduct 33 = .ok (.aload_n 0, 1) := by decide +kernel
theorem d_La_readProduct_34 : decode cX3_readProduct 34 = .ok (.aload_n 1, 1) := by decide +kernel
theorem d_La_readProduct_35 : decode cX3_readProduct 35 = .ok (.iload_n 2, 1) := by decide +kernel
theorem d_La_readProduct_36 : decode cX3_readProduct 36 = .ok (.invokevirtual 55, 3) := by decide +kernel
theorem d_La_readProduct_39 : decode cX3_readProduct 39 = .ok (.ifCond .ne 5, 3) := by decide +kernel
theorem d_La_readProduct_42 : decode cX3_readProduct 42 = .ok (.iconst 0, 1) := by decide +kernel
theorem d_La_readProduct_43 : decode cX3_readProduct 43 = .ok (.ireturn, 1) := by decide +kernel
theorem d_La_readProduct_44 : decode cX3_readProduct 44 = .ok (.aload_n 0, 1) := by decide +kernel
theorem d_La_readProduct_45 : decode cX3_readProduct 45 = .ok (.bipush (-6), 2) := by decide +kernel
theorem d_La_readProduct_47 : decode cX3_readProduct 47 = .ok (.invokevirtual 41, 3) := by decide +kernel
theorem d_La_readProduct_50 : decode cX3_readProduct 50 = .ok (.iinc 3 1, 3) := by decide +kernel
theorem d_La_readProduct_53 : decode cX3_readProduct 53 = .ok (.goto (-40), 3) := by decide +kernel
theorem d_La_readProduct_56 : decode cX3_readProduct 56 = .ok (.iconst 1, 1) := by decide +kernel
theorem d_La_readProduct_57 : decode cX3_readProduct 57 = .ok (.ireturn, 1) := by decide +kernel
noncomputable def f_La_readProduct_b (rp : Nat → Int32 → mm_H → Option (Int32 × mm_H)) (a0 : Nat) (x2 : Int32) (h : mm_H) : Option (Int32 × mm_H) := if mm_tg a0 = 2 then ((rp a0 x2 h).bind fun v2 => if v2.1 = 0 then (some (0, v2.2)) else (mm_while (σ := (Int32 × mm_H)) (ρ := (Int32 × mm_H)) (fun s3 => if 1000 ≤ s3.1 then (some (Sum.inr (1, s3.2))) else ((f_Ta_isSign 42 s3.2).bind fun v7 => if v7 = 0 then (some (Sum.inr (1, s3.2))) else ((f_Ta_next s3.2).bind fun v9 => (rp a0 x2 v9).bind fun v11 => if v11.1 = 0 then (some (Sum.inr (0, v11.2))) else ((f_La_put a0 (-6) v11.2).bind fun v13 => mm_let (s3.1 + 1) fun y14 => some (Sum.inl (y14, v13)))))) (0, v2.2))) else none
theorem T_La_readProduct_b (V : mm_V) (l : Launch) (rp : Nat → Int32 → mm_H → Option (Int32 × mm_H)) (D : Nat) (hD : 7 ≤ D) (hrp : ∀ (a0 : Nat) (x2 : Int32) (h : mm_H) (r : (Int32 × mm_H)), rp a0 x2 h = some r → MT V l Y_La_readPart D [.ref a0, .ref 33, .int x2] (fun r1 h1 => r1 = some (.int r.1) ∧ h1 = r.2) h) (a0 : Nat) (x2 : Int32) (h : mm_H) (r : (Int32 × mm_H)) (hf : f_La_readProduct_b rp a0 x2 h = some r) : MT V l Y_La_readProduct (D + 1) [.ref a0, .ref 33, .int x2] (fun r1 h1 => r1 = some (.int r.1) ∧ h1 = r.2) h := by
  unfold f_La_readProduct_b at hf
  obtain ⟨t_a0, hf⟩ := mm_chkE hf
  refine MT.intro (pn_La rfl) [(0, .ref a0), (1, .ref 33), (2, .int x2)] rfl (Nat.le_of_ble_eq_true rfl) ?_
  generalize hZ : mm_Z V _ = Z0
  refine MM.aload_n (i := 0) rfl rfl d_La_readProduct_0 rfl ?_
  refine MM.aload_n (i := 1) rfl rfl d_La_readProduct_1 rfl ?_
  refine MM.iload_n (i := 2) rfl rfl d_La_readProduct_2 rfl ?_
  obtain ⟨v2, e1, hf⟩ := mm_bind hf
  refine MM.callV1 (hrp a0 x2 h _ e1) (fun _ _ q => q) cal_La_readPart rfl t_a0 ct_2 ww_6 ww_801 ww_799 (by omega) (by simp [Value.category]) d_La_readProduct_3 rfl ⟨rfl, rfl⟩ rfl ?_
  obtain ⟨m26, m27⟩ := mm_ifE hf
  refine MM.if_ne (tgt := 11) d_La_readProduct_6 rfl rfl (fun c25 => ?_) (fun c25 => ?_)
  · replace hf := m27 c25
    refine MM.iconst ic_0 d_La_readProduct_11 rfl ?_
    refine MM.istore_n (i := 3) (lv' := [(3, .int 0), (0, .ref a0), (1, .ref 33), (2, .int x2)]) rfl rfl (Nat.le_of_ble_eq_true rfl) rfl d_La_readProduct_12 rfl ?_
    refine MM.sub [1, 2, 3, 0] (by rfl) (mm_while_ind (fun s3 => MM V l Y_La_readProduct (D + 1) 0 0 Z0 13 [(0, .ref a0), (1, .ref 33), (2, .int x2), (3, .int s3.1)] [] s3.2) hf (fun s3 q4 hf hx5 => ?_))
    refine MM.iload_n (i := 3) rfl rfl d_La_readProduct_13 rfl ?_
    refine MM.sipush sp_1000 d_La_readProduct_14 rfl ?_
    obtain ⟨m23, m24⟩ := mm_ifE hf
    refine MM.icmp_ge (tgt := 56) d_La_readProduct_17 rfl rfl (fun c22 => ?_) (fun c22 => ?_)
    · replace hf := m23 c22
      refine MM.iconst ic_1 d_La_readProduct_56 rfl ?_
      obtain rfl := Option.some.inj hf
      replace hf := mm_wxR hx5
      obtain rfl := Option.some.inj hf
      subst hZ
      exact MM.zret (Or.inr rfl) rfl d_La_readProduct_57 ⟨rfl, rfl⟩
    · replace hf := m24 c22
      refine MM.aload_n (i := 1) rfl rfl d_La_readProduct_20 rfl ?_
      refine MM.bipush bp_42 d_La_readProduct_21 rfl ?_
      obtain ⟨v7, e6, hf⟩ := mm_bind hf
      refine MM.callV1 (T_Ta_isSign V l 42 s3.2 _ e6) (fun _ _ q => q) cal_Ta_isSign rfl tg_33 ct_6 ww_719 ww_718 ww_805 (by omega) (by simp [Value.category]) d_La_readProduct_23 rfl ⟨rfl, rfl⟩ rfl ?_
      obtain ⟨m20, m21⟩ := mm_ifE hf
      refine MM.if_eq (tgt := 56) d_La_readProduct_26 rfl rfl (fun c19 => ?_) (fun c19 => ?_)
      · replace hf := m20 c19
        refine MM.iconst ic_1 d_La_readProduct_56 rfl ?_
        obtain rfl := Option.some.inj hf
        replace hf := mm_wxR hx5
        obtain rfl := Option.some.inj hf
        subst hZ
        exact MM.zret (Or.inr rfl) rfl d_La_readProduct_57 ⟨rfl, rfl⟩
      · replace hf := m21 c19
        refine MM.aload_n (i := 1) rfl rfl d_La_readProduct_29 rfl ?_
        obtain ⟨v9, e8, hf⟩ := mm_bind hf
        refine MM.callV0 (T_Ta_next V l  s3.2 _ e8) (fun _ _ q => q) cal_Ta_next rfl tg_33 ct_6 ww_561 ww_560 ww_807 (by omega) (by simp [Value.category]) d_La_readProduct_30 rfl ⟨rfl, rfl⟩ rfl ?_
        refine MM.aload_n (i := 0) rfl rfl d_La_readProduct_33 rfl ?_
        refine MM.aload_n (i := 1) rfl rfl d_La_readProduct_34 rfl ?_
        refine MM.iload_n (i := 2) rfl rfl d_La_readProduct_35 rfl ?_
        obtain ⟨v11, e10, hf⟩ := mm_bind hf
        refine MM.callV1 (hrp a0 x2 v9 _ e10) (fun _ _ q => q) cal_La_readPart rfl t_a0 ct_2 ww_6 ww_801 ww_799 (by omega) (by simp [Value.category]) d_La_readProduct_36 rfl ⟨rfl, rfl⟩ rfl ?_
        obtain ⟨m17, m18⟩ := mm_ifE hf
        refine MM.if_ne (tgt := 44) d_La_readProduct_39 rfl rfl (fun c16 => ?_) (fun c16 => ?_)
        · replace hf := m18 c16
          refine MM.aload_n (i := 0) rfl rfl d_La_readProduct_44 rfl ?_
          refine MM.bipush bp_m6 d_La_readProduct_45 rfl ?_
          obtain ⟨v13, e12, hf⟩ := mm_bind hf
          refine MM.callV0 (T_La_put V l a0 (-6) v11.2 _ e12) (fun _ _ q => q) cal_La_put rfl t_a0 ct_2 ww_7 ww_810 ww_808 (by omega) (by simp [Value.category]) d_La_readProduct_47 rfl ⟨rfl, rfl⟩ rfl ?_
          obtain ⟨y14, e15, hf⟩ := mm_letE hf
          refine MM.iinc (k0 := 3) (lv' := [(3, .int y14), (0, .ref a0), (1, .ref 33), (2, .int x2)]) (by rw [ic_1]; exact e15) rfl (Nat.le_of_ble_eq_true rfl) rfl d_La_readProduct_50 rfl ?_
          refine MM.goto (tgt := 13) d_La_readProduct_53 rfl ?_
          obtain rfl := Option.some.inj hf
          have h9 := mm_wxL hx5
          exact MM.sub [1, 2, 3, 0] (by rfl) h9
        · replace hf := m17 c16
          refine MM.iconst ic_0 d_La_readProduct_42 rfl ?_
          obtain rfl := Option.some.inj hf
          replace hf := mm_wxR hx5
          obtain rfl := Option.some.inj hf
          subst hZ
          exact MM.zret (Or.inl rfl) rfl d_La_readProduct_43 ⟨rfl, rfl⟩
  · replace hf := m26 c25
    refine MM.iconst ic_0 d_La_readProduct_9 rfl ?_
    obtain rfl := Option.some.inj hf
    subst hZ
    exact MM.zret (Or.inl rfl) rfl d_La_readProduct_10 ⟨rfl, rfl⟩
theorem d_La_readSum_0 : decode cX3_readSum 0 = .ok (.aload_n 0, 1) := by decide +kernel
theorem d_La_readSum_1 : decode cX3_readSum 1 = .ok (.aload_n 1, 1) := by decide +kernel
theorem d_La_readSum_2 : decode cX3_readSum 2 = .ok (.iload_n 2, 1) := by decide +kernel
theorem d_La_readSum_3 : decode cX3_readSum 3 = .ok (.invokevirtual 52, 3) := by decide +kernel
theorem d_La_readSum_6 : decode cX3_readSum 6 = .ok (.ifCond .ne 5, 3) := by decide +kernel
theorem d_La_readSum_9 : decode cX3_readSum 9 = .ok (.iconst 0, 1) := by decide +kernel
theorem d_La_readSum_10 : decode cX3_readSum 10 = .ok (.ireturn, 1) := by decide +kernel
theorem d_La_readSum_11 : decode cX3_readSum 11 = .ok (.iconst 0, 1) := by decide +kernel
theorem d_La_readSum_12 : decode cX3_readSum 12 = .ok (.istore_n 3, 1) := by decide +kernel
theorem d_La_readSum_13 : decode cX3_readSum 13 = .ok (.iload_n 3, 1) := by decide +kernel
theorem d_La_readSum_14 : decode cX3_readSum 14 = .ok (.sipush 1000, 3) := by decide +kernel
theorem d_La_readSum_17 : decode cX3_readSum 17 = .ok (.if_icmp .ge 66, 3) := by decide +kernel
theorem d_La_readSum_20 : decode cX3_readSum 20 = .ok (.aload_n 1, 1) := by decide +kernel
theorem d_La_readSum_21 : decode cX3_readSum 21 = .ok (.bipush 43, 2) := by decide +kernel
theorem d_La_readSum_23 : decode cX3_readSum 23 = .ok (.invokevirtual 48, 3) := by decide +kernel
theorem d_La_readSum_26 : decode cX3_readSum 26 = .ok (.ifCond .ne 12, 3) := by decide +kernel
theorem d_La_readSum_29 : decode cX3_readSum 29 = .ok (.aload_n 1, 1) := by decide +kernel
theorem d_La_readSum_30 : decode cX3_readSum 30 = .ok (.bipush 45, 2) := by decide +kernel
theorem d_La_readSum_32 : decode cX3_readSum 32 = .ok (.invokevirtual 48, 3) := by decide +kernel
theorem d_La_readSum_35 : decode cX3_readSum 35 = .ok (.ifCond .eq 48, 3) := by decide +kernel
theorem d_La_readSum_38 : decode cX3_readSum 38 = .ok (.aload_n 1, 1) := by decide +kernel
theorem d_La_readSum_39 : decode cX3_readSum 39 = .ok (.bipush 43, 2) := by decide +kernel
theorem d_La_readSum_41 : decode cX3_readSum 41 = .ok (.invokevirtual 48, 3) := by decide +kernel
theorem d_La_readSum_44 : decode cX3_readSum 44 = .ok (.ifCond .eq 8, 3) := by decide +kernel
theorem d_La_readSum_47 : decode cX3_readSum 47 = .ok (.bipush (-7), 2) := by decide +kernel
theorem d_La_readSum_49 : decode cX3_readSum 49 = .ok (.goto 5, 3) := by decide +kernel
theorem d_La_readSum_52 : decode cX3_readSum 52 = .ok (.bipush (-8), 2) := by decide +kernel
theorem d_La_readSum_54 : decode cX3_readSum 54 = .ok (.istore 4, 2) := by decide +kernel
theorem d_La_readSum_56 : decode cX3_readSum 56 = .ok (.aload_n 1, 1) := by decide +kernel
theorem d_La_readSum_57 : decode cX3_readSum 57 = .ok (.invokevirtual 38, 3) := by decide +kernel
theorem d_La_readSum_60 : decode cX3_readSum 60 = .ok (.aload_n 0, 1) := by decide +kernel
theorem d_La_readSum_61 : decode cX3_readSum 61 = .ok (.aload_n 1, 1) := by decide +kernel
theorem d_La_readSum_62 : decode cX3_readSum 62 = .ok (.iload_n 2, 1) := by decide +kernel
theorem d_La_readSum_63 : decode cX3_readSum 63 = .ok (.invokevirtual 52, 3) := by decide +kernel
theorem d_La_readSum_66 : decode cX3_readSum 66 = .ok (.ifCond .ne 5, 3) := by decide +kernel
theorem d_La_readSum_69 : decode cX3_readSum 69 = .ok (.iconst 0, 1) := by decide +kernel
theorem d_La_readSum_70 : decode cX3_readSum 70 = .ok (.ireturn, 1) := by decide +kernel
theorem d_La_readSum_71 : decode cX3_readSum 71 = .ok (.aload_n 0, 1) := by decide +kernel
theorem d_La_readSum_72 : decode cX3_readSum 72 = .ok (.iload 4, 2) := by decide +kernel
theorem d_La_readSum_74 : decode cX3_readSum 74 = .ok (.invokevirtual 41, 3) := by decide +kernel
theorem d_La_readSum_77 : decode cX3_readSum 77 = .ok (.iinc 3 1, 3) := by decide +kernel
theorem d_La_readSum_80 : decode cX3_readSum 80 = .ok (.goto (-67), 3) := by decide +kernel
theorem d_La_readSum_83 : decode cX3_readSum 83 = .ok (.iconst 1, 1) := by decide +kernel
theorem d_La_readSum_84 : decode cX3_readSum 84 = .ok (.ireturn, 1) := by decide +kernel
noncomputable def f_La_readSum_b (rp : Nat → Int32 → mm_H → Option (Int32 × mm_H)) (a0 : Nat) (x2 : Int32) (h : mm_H) : Option (Int32 × mm_H) := if mm_tg a0 = 2 then ((f_La_readProduct_b rp a0 x2 h).bind fun v2 => if v2.1 = 0 then (some (0, v2.2)) else (mm_while (σ := (Int32 × mm_H)) (ρ := (Int32 × mm_H)) (fun s3 => if 1000 ≤ s3.1 then (some (Sum.inr (1, s3.2))) else ((f_Ta_isSign 43 s3.2).bind fun v7 => mm_jp (fun (j8 : Unit) => ((f_Ta_isSign 43 s3.2).bind fun v12 => (if v12 = 0 then (some (-8)) else (some (-7)) : Option Int32).bind fun j13 => (f_Ta_next s3.2).bind fun v19 => (f_La_readProduct_b rp a0 x2 v19).bind fun v21 => if v21.1 = 0 then (some (Sum.inr (0, v21.2))) else ((f_La_put a0 j13 v21.2).bind fun v23 => mm_let (s3.1 + 1) fun y24 => some (Sum.inl (y24, v23))))) fun k10 => if v7 = 0 then ((f_Ta_isSign 45 s3.2).bind fun v31 => if v31 = 0 then (some (Sum.inr (1, s3.2))) else (k10 ())) else (k10 ()))) (0, v2.2))) else none
theorem T_La_readSum_b (V : mm_V) (l : Launch) (rp : Nat → Int32 → mm_H → Option (Int32 × mm_H)) (D : Nat) (hD : 7 ≤ D) (hrp : ∀ (a0 : Nat) (x2 : Int32) (h : mm_H) (r : (Int32 × mm_H)), rp a0 x2 h = some r → MT V l Y_La_readPart D [.ref a0, .ref 33, .int x2] (fun r1 h1 => r1 = some (.int r.1) ∧ h1 = r.2) h) (a0 : Nat) (x2 : Int32) (h : mm_H) (r : (Int32 × mm_H)) (hf : f_La_readSum_b rp a0 x2 h = some r) : MT V l Y_La_readSum (D + 2) [.ref a0, .ref 33, .int x2] (fun r1 h1 => r1 = some (.int r.1) ∧ h1 = r.2) h := by
  unfold f_La_readSum_b at hf
  obtain ⟨t_a0, hf⟩ := mm_chkE hf
  refine MT.intro (pn_La rfl) [(0, .ref a0), (1, .ref 33), (2, .int x2)] rfl (Nat.le_of_ble_eq_true rfl) ?_
  generalize hZ : mm_Z V _ = Z0
  refine MM.aload_n (i := 0) rfl rfl d_La_readSum_0 rfl ?_
  refine MM.aload_n (i := 1) rfl rfl d_La_readSum_1 rfl ?_
  refine MM.iload_n (i := 2) rfl rfl d_La_readSum_2 rfl ?_
  obtain ⟨v2, e1, hf⟩ := mm_bind hf
  refine MM.callV1 (T_La_readProduct_b V l rp D hD hrp a0 x2 h _ e1) (fun _ _ q => q) cal_La_readProduct rfl t_a0 ct_2 ww_5 ww_797 ww_795 (by omega) (by simp [Value.category]) d_La_readSum_3 rfl ⟨rfl, rfl⟩ rfl ?_
  obtain ⟨m43, m44⟩ := mm_ifE hf
  refine MM.if_ne (tgt := 11) d_La_readSum_6 rfl rfl (fun c42 => ?_) (fun c42 => ?_)
  · replace hf := m44 c42
    refine MM.iconst ic_0 d_La_readSum_11 rfl ?_
    refine MM.istore_n (i := 3) (lv' := [(3, .int 0), (0, .ref a0), (1, .ref 33), (2, .int x2)]) rfl rfl (Nat.le_of_ble_eq_true rfl) rfl d_La_readSum_12 rfl ?_
    refine MM.sub [1, 2, 3, 0] (by rfl) (mm_while_ind (fun s3 => MM V l Y_La_readSum (D + 2) 0 0 Z0 13 [(0, .ref a0), (1, .ref 33), (2, .int x2), (3, .int s3.1)] [] s3.2) hf (fun s3 q4 hf hx5 => ?_))
    refine MM.iload_n (i := 3) rfl rfl d_La_readSum_13 rfl ?_
    refine MM.sipush sp_1000 d_La_readSum_14 rfl ?_
    obtain ⟨m40, m41⟩ := mm_ifE hf
    refine MM.icmp_ge (tgt := 83) d_La_readSum_17 rfl rfl (fun c39 => ?_) (fun c39 => ?_)
    · replace hf := m40 c39
      refine MM.iconst ic_1 d_La_readSum_83 rfl ?_
      obtain rfl := Option.some.inj hf
      replace hf := mm_wxR hx5
      obtain rfl := Option.some.inj hf
      subst hZ
      exact MM.zret (Or.inr rfl) rfl d_La_readSum_84 ⟨rfl, rfl⟩
    · replace hf := m41 c39
      refine MM.aload_n (i := 1) rfl rfl d_La_readSum_20 rfl ?_
      refine MM.bipush bp_43 d_La_readSum_21 rfl ?_
      obtain ⟨v7, e6, hf⟩ := mm_bind hf
      refine MM.callV1 (T_Ta_isSign V l 43 s3.2 _ e6) (fun _ _ q => q) cal_Ta_isSign rfl tg_33 ct_6 ww_719 ww_718 ww_805 (by omega) (by simp [Value.category]) d_La_readSum_23 rfl ⟨rfl, rfl⟩ rfl ?_
      obtain ⟨k10, e38, hf⟩ := mm_jpE hf
      have K9 : ∀ j8, k10 j8 = some q4 → MM V l Y_La_readSum (D + 2) 0 0 Z0 38 [(0, .ref a0), (1, .ref 33), (2, .int x2), (3, .int s3.1)] [] s3.2 := by
        intro j8 hf
        rw [e38] at hf
        refine MM.aload_n (i := 1) rfl rfl d_La_readSum_38 rfl ?_
        refine MM.bipush bp_43 d_La_readSum_39 rfl ?_
        obtain ⟨v12, e11, hf⟩ := mm_bind hf
        refine MM.callV1 (T_Ta_isSign V l 43 s3.2 _ e11) (fun _ _ q => q) cal_Ta_isSign rfl tg_33 ct_6 ww_719 ww_718 ww_805 (by omega) (by simp [Value.category]) d_La_readSum_41 rfl ⟨rfl, rfl⟩ rfl ?_
        obtain ⟨j13, e29, hf⟩ := mm_bind hf
        have K14 : MM V l Y_La_readSum (D + 2) 0 0 Z0 54 [(0, .ref a0), (1, .ref 33), (2, .int x2), (3, .int s3.1)] [.int j13] s3.2 := by
          refine MM.istore (lv' := [(4, .int j13), (0, .ref a0), (1, .ref 33), (2, .int x2), (3, .int s3.1)]) rfl (Nat.le_of_ble_eq_true rfl) rfl d_La_readSum_54 rfl ?_
          refine MM.aload_n (i := 1) rfl rfl d_La_readSum_56 rfl ?_
          obtain ⟨v19, e18, hf⟩ := mm_bind hf
          refine MM.callV0 (T_Ta_next V l  s3.2 _ e18) (fun _ _ q => q) cal_Ta_next rfl tg_33 ct_6 ww_561 ww_560 ww_807 (by omega) (by simp [Value.category]) d_La_readSum_57 rfl ⟨rfl, rfl⟩ rfl ?_
          refine MM.aload_n (i := 0) rfl rfl d_La_readSum_60 rfl ?_
          refine MM.aload_n (i := 1) rfl rfl d_La_readSum_61 rfl ?_
          refine MM.iload_n (i := 2) rfl rfl d_La_readSum_62 rfl ?_
          obtain ⟨v21, e20, hf⟩ := mm_bind hf
          refine MM.callV1 (T_La_readProduct_b V l rp D hD hrp a0 x2 v19 _ e20) (fun _ _ q => q) cal_La_readProduct rfl t_a0 ct_2 ww_5 ww_797 ww_795 (by omega) (by simp [Value.category]) d_La_readSum_63 rfl ⟨rfl, rfl⟩ rfl ?_
          obtain ⟨m27, m28⟩ := mm_ifE hf
          refine MM.if_ne (tgt := 71) d_La_readSum_66 rfl rfl (fun c26 => ?_) (fun c26 => ?_)
          · replace hf := m28 c26
            refine MM.aload_n (i := 0) rfl rfl d_La_readSum_71 rfl ?_
            refine MM.iload rfl d_La_readSum_72 rfl ?_
            obtain ⟨v23, e22, hf⟩ := mm_bind hf
            refine MM.callV0 (T_La_put V l a0 j13 v21.2 _ e22) (fun _ _ q => q) cal_La_put rfl t_a0 ct_2 ww_7 ww_810 ww_808 (by omega) (by simp [Value.category]) d_La_readSum_74 rfl ⟨rfl, rfl⟩ rfl ?_
            obtain ⟨y24, e25, hf⟩ := mm_letE hf
            refine MM.iinc (k0 := 4) (lv' := [(3, .int y24), (4, .int j13), (0, .ref a0), (1, .ref 33), (2, .int x2)]) (by rw [ic_1]; exact e25) rfl (Nat.le_of_ble_eq_true rfl) rfl d_La_readSum_77 rfl ?_
            refine MM.goto (tgt := 13) d_La_readSum_80 rfl ?_
            obtain rfl := Option.some.inj hf
            have h9 := mm_wxL hx5
            exact MM.sub [2, 3, 4, 0] (by rfl) h9
          · replace hf := m27 c26
            refine MM.iconst ic_0 d_La_readSum_69 rfl ?_
            obtain rfl := Option.some.inj hf
            replace hf := mm_wxR hx5
            obtain rfl := Option.some.inj hf
            subst hZ
            exact MM.zret (Or.inl rfl) rfl d_La_readSum_70 ⟨rfl, rfl⟩
        clear hf
        have hf := e29
        clear e29
        obtain ⟨m16, m17⟩ := mm_ifE hf
        refine MM.if_eq (tgt := 52) d_La_readSum_44 rfl rfl (fun c15 => ?_) (fun c15 => ?_)
        · replace hf := m16 c15
          refine MM.bipush bp_m8 d_La_readSum_52 rfl ?_
          obtain rfl := Option.some.inj hf
          exact MM.sub [0, 1, 2, 3] (by rfl) K14
        · replace hf := m17 c15
          refine MM.bipush bp_m7 d_La_readSum_47 rfl ?_
          refine MM.goto (tgt := 54) d_La_readSum_49 rfl ?_
          obtain rfl := Option.some.inj hf
          exact MM.sub [0, 1, 2, 3] (by rfl) K14
      clear e38
      obtain ⟨m36, m37⟩ := mm_ifE hf
      refine MM.if_ne (tgt := 38) d_La_readSum_26 rfl rfl (fun c35 => ?_) (fun c35 => ?_)
      · replace hf := m37 c35
        exact MM.sub [0, 1, 2, 3] (by rfl) (K9 _ hf)
      · replace hf := m36 c35
        refine MM.aload_n (i := 1) rfl rfl d_La_readSum_29 rfl ?_
        refine MM.bipush bp_45 d_La_readSum_30 rfl ?_
        obtain ⟨v31, e30, hf⟩ := mm_bind hf
        refine MM.callV1 (T_Ta_isSign V l 45 s3.2 _ e30) (fun _ _ q => q) cal_Ta_isSign rfl tg_33 ct_6 ww_719 ww_718 ww_805 (by omega) (by simp [Value.category]) d_La_readSum_32 rfl ⟨rfl, rfl⟩ rfl ?_
        obtain ⟨m33, m34⟩ := mm_ifE hf
        refine MM.if_eq (tgt := 83) d_La_readSum_35 rfl rfl (fun c32 => ?_) (fun c32 => ?_)
        · replace hf := m33 c32
          refine MM.iconst ic_1 d_La_readSum_83 rfl ?_
          obtain rfl := Option.some.inj hf
          replace hf := mm_wxR hx5
          obtain rfl := Option.some.inj hf
          subst hZ
          exact MM.zret (Or.inr rfl) rfl d_La_readSum_84 ⟨rfl, rfl⟩
        · replace hf := m34 c32
          exact MM.sub [0, 1, 2, 3] (by rfl) (K9 _ hf)
  · replace hf := m43 c42
    refine MM.iconst ic_0 d_La_readSum_9 rfl ?_
    obtain rfl := Option.some.inj hf
    subst hZ
    exact MM.zret (Or.inl rfl) rfl d_La_readSum_10 ⟨rfl, rfl⟩
theorem d_La_readTest_0 : decode cX3_readTest 0 = .ok (.aload_n 0, 1) := by decide +kernel
theorem d_La_readTest_1 : decode cX3_readTest 1 = .ok (.aload_n 1, 1) := by decide +kernel
theorem d_La_readTest_2 : decode cX3_readTest 2 = .ok (.iload_n 2, 1) := by decide +kernel
theorem d_La_readTest_3 : decode cX3_readTest 3 = .ok (.invokevirtual 45, 3) := by decide +kernel
theorem d_La_readTest_6 : decode cX3_readTest 6 = .ok (.ifCond .ne 5, 3) := by decide +kernel
theorem d_La_readTest_9 : decode cX3_readTest 9 = .ok (.iconst 0, 1) := by decide +kernel
theorem d_La_readTest_10 : decode cX3_readTest 10 = .ok (.ireturn, 1) := by decide +kernel
theorem d_La_readTest_11 : decode cX3_readTest 11 = .ok (.aload_n 1, 1) := by decide +kernel
theorem d_La_readTest_12 : decode cX3_readTest 12 = .ok (.bipush 60, 2) := by decide +kernel
theorem d_La_readTest_14 : decode cX3_readTest 14 = .ok (.invokevirtual 48, 3) := by decide +kernel
theorem d_La_readTest_17 : decode cX3_readTest 17 = .ok (.ifCond .ne 14, 3) := by decide +kernel
theorem d_La_readTest_20 : decode cX3_readTest 20 = .ok (.aload_n 1, 1) := by decide +kernel
theorem d_La_readTest_21 : decode cX3_readTest 21 = .ok (.bipush 61, 2) := by decide +kernel
theorem d_La_readTest_23 : decode cX3_readTest 23 = .ok (.invokevirtual 48, 3) := by decide +kernel
theorem d_La_readTest_26 : decode cX3_readTest 26 = .ok (.ifCond .ne 5, 3) := by decide +kernel
theorem d_La_readTest_29 : decode cX3_readTest 29 = .ok (.iconst 1, 1) := by decide +kernel
theorem d_La_readTest_30 : decode cX3_readTest 30 = .ok (.ireturn, 1) := by decide +kernel
theorem d_La_readTest_31 : decode cX3_readTest 31 = .ok (.aload_n 1, 1) := by decide +kernel
theorem d_La_readTest_32 : decode cX3_readTest 32 = .ok (.bipush 60, 2) := by decide +kernel
theorem d_La_readTest_34 : decode cX3_readTest 34 = .ok (.invokevirtual 48, 3) := by decide +kernel
theorem d_La_readTest_37 : decode cX3_readTest 37 = .ok (.ifCond .eq 8, 3) := by decide +kernel
theorem d_La_readTest_40 : decode cX3_readTest 40 = .ok (.bipush (-9), 2) := by decide +kernel
theorem d_La_readTest_42 : decode cX3_readTest 42 = .ok (.goto 5, 3) := by decide +kernel
theorem d_La_readTest_45 : decode cX3_readTest 45 = .ok (.bipush (-10), 2) := by decide +kernel
theorem d_La_readTest_47 : decode cX3_readTest 47 = .ok (.istore_n 3, 1) := by decide +kernel
theorem d_La_readTest_48 : decode cX3_readTest 48 = .ok (.aload_n 1, 1) := by decide +kernel
theorem d_La_readTest_49 : decode cX3_readTest 49 = .ok (.invokevirtual 38, 3) := by decide +kernel
theorem d_La_readTest_52 : decode cX3_readTest 52 = .ok (.aload_n 0, 1) := by decide +kernel
theorem d_La_readTest_53 : decode cX3_readTest 53 = .ok (.aload_n 1, 1) := by decide +kernel
theorem d_La_readTest_54 : decode cX3_readTest 54 = .ok (.iload_n 2, 1) := by decide +kernel
theorem d_La_readTest_55 : decode cX3_readTest 55 = .ok (.invokevirtual 45, 3) := by decide +kernel
theorem d_La_readTest_58 : decode cX3_readTest 58 = .ok (.ifCond .ne 5, 3) := by decide +kernel
theorem d_La_readTest_61 : decode cX3_readTest 61 = .ok (.iconst 0, 1) := by decide +kernel
theorem d_La_readTest_62 : decode cX3_readTest 62 = .ok (.ireturn, 1) := by decide +kernel
theorem d_La_readTest_63 : decode cX3_readTest 63 = .ok (.aload_n 0, 1) := by decide +kernel
theorem d_La_readTest_64 : decode cX3_readTest 64 = .ok (.iload_n 3, 1) := by decide +kernel
theorem d_La_readTest_65 : decode cX3_readTest 65 = .ok (.invokevirtual 41, 3) := by decide +kernel
theorem d_La_readTest_68 : decode cX3_readTest 68 = .ok (.iconst 1, 1) := by decide +kernel
theorem d_La_readTest_69 : decode cX3_readTest 69 = .ok (.ireturn, 1) := by decide +kernel
noncomputable def f_La_readTest_b (rp : Nat → Int32 → mm_H → Option (Int32 × mm_H)) (a0 : Nat) (x2 : Int32) (h : mm_H) : Option (Int32 × mm_H) := if mm_tg a0 = 2 then ((f_La_readSum_b rp a0 x2 h).bind fun v2 => if v2.1 = 0 then (some (0, v2.2)) else ((f_Ta_isSign 60 v2.2).bind fun v4 => mm_jp (fun (j5 : Unit) => ((f_Ta_isSign 60 v2.2).bind fun v9 => (if v9 = 0 then (some (-10)) else (some (-9)) : Option Int32).bind fun j10 => (f_Ta_next v2.2).bind fun v16 => (f_La_readSum_b rp a0 x2 v16).bind fun v18 => if v18.1 = 0 then (some (0, v18.2)) else ((f_La_put a0 j10 v18.2).bind fun v20 => some (1, v20)))) fun k7 => if v4 = 0 then ((f_Ta_isSign 61 v2.2).bind fun v26 => if v26 = 0 then (some (1, v2.2)) else (k7 ())) else (k7 ()))) else none
theorem T_La_readTest_b (V : mm_V) (l : Launch) (rp : Nat → Int32 → mm_H → Option (Int32 × mm_H)) (D : Nat) (hD : 7 ≤ D) (hrp : ∀ (a0 : Nat) (x2 : Int32) (h : mm_H) (r : (Int32 × mm_H)), rp a0 x2 h = some r → MT V l Y_La_readPart D [.ref a0, .ref 33, .int x2] (fun r1 h1 => r1 = some (.int r.1) ∧ h1 = r.2) h) (a0 : Nat) (x2 : Int32) (h : mm_H) (r : (Int32 × mm_H)) (hf : f_La_readTest_b rp a0 x2 h = some r) : MT V l Y_La_readTest (D + 3) [.ref a0, .ref 33, .int x2] (fun r1 h1 => r1 = some (.int r.1) ∧ h1 = r.2) h := by
  unfold f_La_readTest_b at hf
  obtain ⟨t_a0, hf⟩ := mm_chkE hf
  refine MT.intro (pn_La rfl) [(0, .ref a0), (1, .ref 33), (2, .int x2)] rfl (Nat.le_of_ble_eq_true rfl) ?_
  generalize hZ : mm_Z V _ = Z0
  refine MM.aload_n (i := 0) rfl rfl d_La_readTest_0 rfl ?_
  refine MM.aload_n (i := 1) rfl rfl d_La_readTest_1 rfl ?_
  refine MM.iload_n (i := 2) rfl rfl d_La_readTest_2 rfl ?_
  obtain ⟨v2, e1, hf⟩ := mm_bind hf
  refine MM.callV1 (T_La_readSum_b V l rp D hD hrp a0 x2 h _ e1) (fun _ _ q => q) cal_La_readSum rfl t_a0 ct_2 ww_4 ww_793 ww_791 (by omega) (by simp [Value.category]) d_La_readTest_3 rfl ⟨rfl, rfl⟩ rfl ?_
  obtain ⟨m35, m36⟩ := mm_ifE hf
  refine MM.if_ne (tgt := 11) d_La_readTest_6 rfl rfl (fun c34 => ?_) (fun c34 => ?_)
  · replace hf := m36 c34
    refine MM.aload_n (i := 1) rfl rfl d_La_readTest_11 rfl ?_
    refine MM.bipush bp_60 d_La_readTest_12 rfl ?_
    obtain ⟨v4, e3, hf⟩ := mm_bind hf
    refine MM.callV1 (T_Ta_isSign V l 60 v2.2 _ e3) (fun _ _ q => q) cal_Ta_isSign rfl tg_33 ct_6 ww_719 ww_718 ww_805 (by omega) (by simp [Value.category]) d_La_readTest_14 rfl ⟨rfl, rfl⟩ rfl ?_
    obtain ⟨k7, e33, hf⟩ := mm_jpE hf
    have K6 : ∀ j5, k7 j5 = some r → MM V l Y_La_readTest (D + 3) 0 0 Z0 31 [(0, .ref a0), (1, .ref 33), (2, .int x2)] [] v2.2 := by
      intro j5 hf
      rw [e33] at hf
      refine MM.aload_n (i := 1) rfl rfl d_La_readTest_31 rfl ?_
      refine MM.bipush bp_60 d_La_readTest_32 rfl ?_
      obtain ⟨v9, e8, hf⟩ := mm_bind hf
      refine MM.callV1 (T_Ta_isSign V l 60 v2.2 _ e8) (fun _ _ q => q) cal_Ta_isSign rfl tg_33 ct_6 ww_719 ww_718 ww_805 (by omega) (by simp [Value.category]) d_La_readTest_34 rfl ⟨rfl, rfl⟩ rfl ?_
      obtain ⟨j10, e24, hf⟩ := mm_bind hf
      have K11 : MM V l Y_La_readTest (D + 3) 0 0 Z0 47 [(0, .ref a0), (1, .ref 33), (2, .int x2)] [.int j10] v2.2 := by
        refine MM.istore_n (i := 3) (lv' := [(3, .int j10), (0, .ref a0), (1, .ref 33), (2, .int x2)]) rfl rfl (Nat.le_of_ble_eq_true rfl) rfl d_La_readTest_47 rfl ?_
        refine MM.aload_n (i := 1) rfl rfl d_La_readTest_48 rfl ?_
        obtain ⟨v16, e15, hf⟩ := mm_bind hf
        refine MM.callV0 (T_Ta_next V l  v2.2 _ e15) (fun _ _ q => q) cal_Ta_next rfl tg_33 ct_6 ww_561 ww_560 ww_807 (by omega) (by simp [Value.category]) d_La_readTest_49 rfl ⟨rfl, rfl⟩ rfl ?_
        refine MM.aload_n (i := 0) rfl rfl d_La_readTest_52 rfl ?_
        refine MM.aload_n (i := 1) rfl rfl d_La_readTest_53 rfl ?_
        refine MM.iload_n (i := 2) rfl rfl d_La_readTest_54 rfl ?_
        obtain ⟨v18, e17, hf⟩ := mm_bind hf
        refine MM.callV1 (T_La_readSum_b V l rp D hD hrp a0 x2 v16 _ e17) (fun _ _ q => q) cal_La_readSum rfl t_a0 ct_2 ww_4 ww_793 ww_791 (by omega) (by simp [Value.category]) d_La_readTest_55 rfl ⟨rfl, rfl⟩ rfl ?_
        obtain ⟨m22, m23⟩ := mm_ifE hf
        refine MM.if_ne (tgt := 63) d_La_readTest_58 rfl rfl (fun c21 => ?_) (fun c21 => ?_)
        · replace hf := m23 c21
          refine MM.aload_n (i := 0) rfl rfl d_La_readTest_63 rfl ?_
          refine MM.iload_n (i := 3) rfl rfl d_La_readTest_64 rfl ?_
          obtain ⟨v20, e19, hf⟩ := mm_bind hf
          refine MM.callV0 (T_La_put V l a0 j10 v18.2 _ e19) (fun _ _ q => q) cal_La_put rfl t_a0 ct_2 ww_7 ww_810 ww_808 (by omega) (by simp [Value.category]) d_La_readTest_65 rfl ⟨rfl, rfl⟩ rfl ?_
          refine MM.iconst ic_1 d_La_readTest_68 rfl ?_
          obtain rfl := Option.some.inj hf
          subst hZ
          exact MM.zret (Or.inr rfl) rfl d_La_readTest_69 ⟨rfl, rfl⟩
        · replace hf := m22 c21
          refine MM.iconst ic_0 d_La_readTest_61 rfl ?_
          obtain rfl := Option.some.inj hf
          subst hZ
          exact MM.zret (Or.inl rfl) rfl d_La_readTest_62 ⟨rfl, rfl⟩
      clear hf
      have hf := e24
      clear e24
      obtain ⟨m13, m14⟩ := mm_ifE hf
      refine MM.if_eq (tgt := 45) d_La_readTest_37 rfl rfl (fun c12 => ?_) (fun c12 => ?_)
      · replace hf := m13 c12
        refine MM.bipush bp_m10 d_La_readTest_45 rfl ?_
        obtain rfl := Option.some.inj hf
        exact MM.sub [0, 1, 2] (by rfl) K11
      · replace hf := m14 c12
        refine MM.bipush bp_m9 d_La_readTest_40 rfl ?_
        refine MM.goto (tgt := 47) d_La_readTest_42 rfl ?_
        obtain rfl := Option.some.inj hf
        exact MM.sub [0, 1, 2] (by rfl) K11
    clear e33
    obtain ⟨m31, m32⟩ := mm_ifE hf
    refine MM.if_ne (tgt := 31) d_La_readTest_17 rfl rfl (fun c30 => ?_) (fun c30 => ?_)
    · replace hf := m32 c30
      exact MM.sub [0, 1, 2] (by rfl) (K6 _ hf)
    · replace hf := m31 c30
      refine MM.aload_n (i := 1) rfl rfl d_La_readTest_20 rfl ?_
      refine MM.bipush bp_61 d_La_readTest_21 rfl ?_
      obtain ⟨v26, e25, hf⟩ := mm_bind hf
      refine MM.callV1 (T_Ta_isSign V l 61 v2.2 _ e25) (fun _ _ q => q) cal_Ta_isSign rfl tg_33 ct_6 ww_719 ww_718 ww_805 (by omega) (by simp [Value.category]) d_La_readTest_23 rfl ⟨rfl, rfl⟩ rfl ?_
      obtain ⟨m28, m29⟩ := mm_ifE hf
      refine MM.if_ne (tgt := 31) d_La_readTest_26 rfl rfl (fun c27 => ?_) (fun c27 => ?_)
      · replace hf := m29 c27
        exact MM.sub [0, 1, 2] (by rfl) (K6 _ hf)
      · replace hf := m28 c27
        refine MM.iconst ic_1 d_La_readTest_29 rfl ?_
        obtain rfl := Option.some.inj hf
        subst hZ
        exact MM.zret (Or.inr rfl) rfl d_La_readTest_30 ⟨rfl, rfl⟩
  · replace hf := m35 c34
    refine MM.iconst ic_0 d_La_readTest_9 rfl ?_
    obtain rfl := Option.some.inj hf
    subst hZ
    exact MM.zret (Or.inl rfl) rfl d_La_readTest_10 ⟨rfl, rfl⟩
theorem d_La_readAll_0 : decode cX3_readAll 0 = .ok (.aload_n 0, 1) := by decide +kernel
theorem d_La_readAll_1 : decode cX3_readAll 1 = .ok (.aload_n 1, 1) := by decide +kernel
theorem d_La_readAll_2 : decode cX3_readAll 2 = .ok (.iload_n 2, 1) := by decide +kernel
theorem d_La_readAll_3 : decode cX3_readAll 3 = .ok (.invokevirtual 22, 3) := by decide +kernel
theorem d_La_readAll_6 : decode cX3_readAll 6 = .ok (.ifCond .ne 5, 3) := by decide +kernel
theorem d_La_readAll_9 : decode cX3_readAll 9 = .ok (.iconst 0, 1) := by decide +kernel
theorem d_La_readAll_10 : decode cX3_readAll 10 = .ok (.ireturn, 1) := by decide +kernel
theorem d_La_readAll_11 : decode cX3_readAll 11 = .ok (.iconst 0, 1) := by decide +kernel
theorem d_La_readAll_12 : decode cX3_readAll 12 = .ok (.istore_n 3, 1) := by decide +kernel
theorem d_La_readAll_13 : decode cX3_readAll 13 = .ok (.iload_n 3, 1) := by decide +kernel
theorem d_La_readAll_14 : decode cX3_readAll 14 = .ok (.sipush 1000, 3) := by decide +kernel
theorem d_La_readAll_17 : decode cX3_readAll 17 = .ok (.if_icmp .ge 69, 3) := by decide +kernel
theorem d_La_readAll_20 : decode cX3_readAll 20 = .ok (.aload_n 1, 1) := by decide +kernel
theorem d_La_readAll_21 : decode cX3_readAll 21 = .ok (.getfield 26, 3) := by decide +kernel
theorem d_La_readAll_24 : decode cX3_readAll 24 = .ok (.getstatic 30, 3) := by decide +kernel
theorem d_La_readAll_27 : decode cX3_readAll 27 = .ok (.if_acmp .eq 13, 3) := by decide +kernel
theorem d_La_readAll_30 : decode cX3_readAll 30 = .ok (.aload_n 1, 1) := by decide +kernel
theorem d_La_readAll_31 : decode cX3_readAll 31 = .ok (.getfield 26, 3) := by decide +kernel
theorem d_La_readAll_34 : decode cX3_readAll 34 = .ok (.getstatic 35, 3) := by decide +kernel
theorem d_La_readAll_37 : decode cX3_readAll 37 = .ok (.if_acmp .ne 49, 3) := by decide +kernel
theorem d_La_readAll_40 : decode cX3_readAll 40 = .ok (.aload_n 1, 1) := by decide +kernel
theorem d_La_readAll_41 : decode cX3_readAll 41 = .ok (.getfield 26, 3) := by decide +kernel
theorem d_La_readAll_44 : decode cX3_readAll 44 = .ok (.getstatic 30, 3) := by decide +kernel
theorem d_La_readAll_47 : decode cX3_readAll 47 = .ok (.if_acmp .ne 8, 3) := by decide +kernel
theorem d_La_readAll_50 : decode cX3_readAll 50 = .ok (.bipush (-11), 2) := by decide +kernel
theorem d_La_readAll_52 : decode cX3_readAll 52 = .ok (.goto 5, 3) := by decide +kernel
theorem d_La_readAll_55 : decode cX3_readAll 55 = .ok (.bipush (-12), 2) := by decide +kernel
theorem d_La_readAll_57 : decode cX3_readAll 57 = .ok (.istore 4, 2) := by decide +kernel
theorem d_La_readAll_59 : decode cX3_readAll 59 = .ok (.aload_n 1, 1) := by decide +kernel
theorem d_La_readAll_60 : decode cX3_readAll 60 = .ok (.invokevirtual 38, 3) := by decide +kernel
theorem d_La_readAll_63 : decode cX3_readAll 63 = .ok (.aload_n 0, 1) := by decide +kernel
theorem d_La_readAll_64 : decode cX3_readAll 64 = .ok (.aload_n 1, 1) := by decide +kernel
theorem d_La_readAll_65 : decode cX3_readAll 65 = .ok (.iload_n 2, 1) := by decide +kernel
theorem d_La_readAll_66 : decode cX3_readAll 66 = .ok (.invokevirtual 22, 3) := by decide +kernel
theorem d_La_readAll_69 : decode cX3_readAll 69 = .ok (.ifCond .ne 5, 3) := by decide +kernel
theorem d_La_readAll_72 : decode cX3_readAll 72 = .ok (.iconst 0, 1) := by decide +kernel
theorem d_La_readAll_73 : decode cX3_readAll 73 = .ok (.ireturn, 1) := by decide +kernel
theorem d_La_readAll_74 : decode cX3_readAll 74 = .ok (.aload_n 0, 1) := by decide +kernel
theorem d_La_readAll_75 : decode cX3_readAll 75 = .ok (.iload 4, 2) := by decide +kernel
theorem d_La_readAll_77 : decode cX3_readAll 77 = .ok (.invokevirtual 41, 3) := by decide +kernel
theorem d_La_readAll_80 : decode cX3_readAll 80 = .ok (.iinc 3 1, 3) := by decide +kernel
theorem d_La_readAll_83 : decode cX3_readAll 83 = .ok (.goto (-70), 3) := by decide +kernel
theorem d_La_readAll_86 : decode cX3_readAll 86 = .ok (.iconst 1, 1) := by decide +kernel
theorem d_La_readAll_87 : decode cX3_readAll 87 = .ok (.ireturn, 1) := by decide +kernel
noncomputable def f_La_readAll_b (rp : Nat → Int32 → mm_H → Option (Int32 × mm_H)) (a0 : Nat) (x2 : Int32) (h : mm_H) : Option (Int32 × mm_H) := if mm_tg a0 = 2 then ((f_La_readTest_b rp a0 x2 h).bind fun v2 => if v2.1 = 0 then (some (0, v2.2)) else (mm_while (σ := (Int32 × mm_H)) (ρ := (Int32 × mm_H)) (fun s3 => if 1000 ≤ s3.1 then (some (Sum.inr (1, s3.2))) else ((mm_gW s3.2).bind fun wd6 => mm_jp (fun (j8 : Unit) => ((mm_gW s3.2).bind fun wd11 => (if wd11 = (some 22) then (some (-11)) else (some (-12)) : Option Int32).bind fun j13 => (f_Ta_next s3.2).bind fun v19 => (f_La_readTest_b rp a0 x2 v19).bind fun v21 => if v21.1 = 0 then (some (Sum.inr (0, v21.2))) else ((f_La_put a0 j13 v21.2).bind fun v23 => mm_let (s3.1 + 1) fun y24 => some (Sum.inl (y24, v23))))) fun k10 => if wd6 = (some 22) then (k10 ()) else ((mm_gW s3.2).bind fun wd30 => if wd30 = (some 23) then (k10 ()) else (some (Sum.inr (1, s3.2)))))) (0, v2.2))) else none
theorem T_La_readAll_b (V : mm_V) (l : Launch) (rp : Nat → Int32 → mm_H → Option (Int32 × mm_H)) (D : Nat) (hD : 7 ≤ D) (hrp : ∀ (a0 : Nat) (x2 : Int32) (h : mm_H) (r : (Int32 × mm_H)), rp a0 x2 h = some r → MT V l Y_La_readPart D [.ref a0, .ref 33, .int x2] (fun r1 h1 => r1 = some (.int r.1) ∧ h1 = r.2) h) (a0 : Nat) (x2 : Int32) (h : mm_H) (r : (Int32 × mm_H)) (hf : f_La_readAll_b rp a0 x2 h = some r) : MT V l Y_La_readAll (D + 4) [.ref a0, .ref 33, .int x2] (fun r1 h1 => r1 = some (.int r.1) ∧ h1 = r.2) h := by
  unfold f_La_readAll_b at hf
  obtain ⟨t_a0, hf⟩ := mm_chkE hf
  refine MT.intro (pn_La rfl) [(0, .ref a0), (1, .ref 33), (2, .int x2)] rfl (Nat.le_of_ble_eq_true rfl) ?_
  generalize hZ : mm_Z V _ = Z0
  refine MM.aload_n (i := 0) rfl rfl d_La_readAll_0 rfl ?_
  refine MM.aload_n (i := 1) rfl rfl d_La_readAll_1 rfl ?_
  refine MM.iload_n (i := 2) rfl rfl d_La_readAll_2 rfl ?_
  obtain ⟨v2, e1, hf⟩ := mm_bind hf
  refine MM.callV1 (T_La_readTest_b V l rp D hD hrp a0 x2 h _ e1) (fun _ _ q => q) cal_La_readTest rfl t_a0 ct_2 ww_3 ww_789 ww_787 (by omega) (by simp [Value.category]) d_La_readAll_3 rfl ⟨rfl, rfl⟩ rfl ?_
  obtain ⟨m43, m44⟩ := mm_ifE hf
  refine MM.if_ne (tgt := 11) d_La_readAll_6 rfl rfl (fun c42 => ?_) (fun c42 => ?_)
  · replace hf := m44 c42
    refine MM.iconst ic_0 d_La_readAll_11 rfl ?_
    refine MM.istore_n (i := 3) (lv' := [(3, .int 0), (0, .ref a0), (1, .ref 33), (2, .int x2)]) rfl rfl (Nat.le_of_ble_eq_true rfl) rfl d_La_readAll_12 rfl ?_
    refine MM.sub [1, 2, 3, 0] (by rfl) (mm_while_ind (fun s3 => MM V l Y_La_readAll (D + 4) 0 0 Z0 13 [(0, .ref a0), (1, .ref 33), (2, .int x2), (3, .int s3.1)] [] s3.2) hf (fun s3 q4 hf hx5 => ?_))
    refine MM.iload_n (i := 3) rfl rfl d_La_readAll_13 rfl ?_
    refine MM.sipush sp_1000 d_La_readAll_14 rfl ?_
    obtain ⟨m40, m41⟩ := mm_ifE hf
    refine MM.icmp_ge (tgt := 86) d_La_readAll_17 rfl rfl (fun c39 => ?_) (fun c39 => ?_)
    · replace hf := m40 c39
      refine MM.iconst ic_1 d_La_readAll_86 rfl ?_
      obtain rfl := Option.some.inj hf
      replace hf := mm_wxR hx5
      obtain rfl := Option.some.inj hf
      subst hZ
      exact MM.zret (Or.inr rfl) rfl d_La_readAll_87 ⟨rfl, rfl⟩
    · replace hf := m41 c39
      refine MM.aload_n (i := 1) rfl rfl d_La_readAll_20 rfl ?_
      obtain ⟨wd6, e7, hf⟩ := mm_bind hf
      obtain ⟨e7, b_wd6⟩ := mm_gWE e7
      refine MM.gW e7 tg_33 wq_7 lays_6 ww_168 d_La_readAll_21 rfl ?_
      refine MM.word (j := 22) (by decide) rfl ww_814 d_La_readAll_24 rfl ?_
      obtain ⟨k10, e38, hf⟩ := mm_jpE hf
      have K9 : ∀ j8, k10 j8 = some q4 → MM V l Y_La_readAll (D + 4) 0 0 Z0 40 [(0, .ref a0), (1, .ref 33), (2, .int x2), (3, .int s3.1)] [] s3.2 := by
        intro j8 hf
        rw [e38] at hf
        refine MM.aload_n (i := 1) rfl rfl d_La_readAll_40 rfl ?_
        obtain ⟨wd11, e12, hf⟩ := mm_bind hf
        obtain ⟨e12, b_wd11⟩ := mm_gWE e12
        refine MM.gW e12 tg_33 wq_7 lays_6 ww_168 d_La_readAll_41 rfl ?_
        refine MM.word (j := 22) (by decide) rfl ww_814 d_La_readAll_44 rfl ?_
        obtain ⟨j13, e29, hf⟩ := mm_bind hf
        have K14 : MM V l Y_La_readAll (D + 4) 0 0 Z0 57 [(0, .ref a0), (1, .ref 33), (2, .int x2), (3, .int s3.1)] [.int j13] s3.2 := by
          refine MM.istore (lv' := [(4, .int j13), (0, .ref a0), (1, .ref 33), (2, .int x2), (3, .int s3.1)]) rfl (Nat.le_of_ble_eq_true rfl) rfl d_La_readAll_57 rfl ?_
          refine MM.aload_n (i := 1) rfl rfl d_La_readAll_59 rfl ?_
          obtain ⟨v19, e18, hf⟩ := mm_bind hf
          refine MM.callV0 (T_Ta_next V l  s3.2 _ e18) (fun _ _ q => q) cal_Ta_next rfl tg_33 ct_6 ww_561 ww_560 ww_807 (by omega) (by simp [Value.category]) d_La_readAll_60 rfl ⟨rfl, rfl⟩ rfl ?_
          refine MM.aload_n (i := 0) rfl rfl d_La_readAll_63 rfl ?_
          refine MM.aload_n (i := 1) rfl rfl d_La_readAll_64 rfl ?_
          refine MM.iload_n (i := 2) rfl rfl d_La_readAll_65 rfl ?_
          obtain ⟨v21, e20, hf⟩ := mm_bind hf
          refine MM.callV1 (T_La_readTest_b V l rp D hD hrp a0 x2 v19 _ e20) (fun _ _ q => q) cal_La_readTest rfl t_a0 ct_2 ww_3 ww_789 ww_787 (by omega) (by simp [Value.category]) d_La_readAll_66 rfl ⟨rfl, rfl⟩ rfl ?_
          obtain ⟨m27, m28⟩ := mm_ifE hf
          refine MM.if_ne (tgt := 74) d_La_readAll_69 rfl rfl (fun c26 => ?_) (fun c26 => ?_)
          · replace hf := m28 c26
            refine MM.aload_n (i := 0) rfl rfl d_La_readAll_74 rfl ?_
            refine MM.iload rfl d_La_readAll_75 rfl ?_
            obtain ⟨v23, e22, hf⟩ := mm_bind hf
            refine MM.callV0 (T_La_put V l a0 j13 v21.2 _ e22) (fun _ _ q => q) cal_La_put rfl t_a0 ct_2 ww_7 ww_810 ww_808 (by omega) (by simp [Value.category]) d_La_readAll_77 rfl ⟨rfl, rfl⟩ rfl ?_
            obtain ⟨y24, e25, hf⟩ := mm_letE hf
            refine MM.iinc (k0 := 4) (lv' := [(3, .int y24), (4, .int j13), (0, .ref a0), (1, .ref 33), (2, .int x2)]) (by rw [ic_1]; exact e25) rfl (Nat.le_of_ble_eq_true rfl) rfl d_La_readAll_80 rfl ?_
            refine MM.goto (tgt := 13) d_La_readAll_83 rfl ?_
            obtain rfl := Option.some.inj hf
            have h9 := mm_wxL hx5
            exact MM.sub [2, 3, 4, 0] (by rfl) h9
          · replace hf := m27 c26
            refine MM.iconst ic_0 d_La_readAll_72 rfl ?_
            obtain rfl := Option.some.inj hf
            replace hf := mm_wxR hx5
            obtain rfl := Option.some.inj hf
            subst hZ
            exact MM.zret (Or.inl rfl) rfl d_La_readAll_73 ⟨rfl, rfl⟩
        clear hf
        have hf := e29
        clear e29
        obtain ⟨m16, m17⟩ := mm_ifE hf
        refine MM.acmp_ne b_wd11 (fun _ q => by cases q; decide) (tgt := 55) d_La_readAll_47 rfl rfl (fun c15 => ?_) (fun c15 => ?_)
        · replace hf := m17 c15
          refine MM.bipush bp_m12 d_La_readAll_55 rfl ?_
          obtain rfl := Option.some.inj hf
          exact MM.sub [0, 1, 2, 3] (by rfl) K14
        · replace hf := m16 c15
          refine MM.bipush bp_m11 d_La_readAll_50 rfl ?_
          refine MM.goto (tgt := 57) d_La_readAll_52 rfl ?_
          obtain rfl := Option.some.inj hf
          exact MM.sub [0, 1, 2, 3] (by rfl) K14
      clear e38
      obtain ⟨m36, m37⟩ := mm_ifE hf
      refine MM.acmp_eq b_wd6 (fun _ q => by cases q; decide) (tgt := 40) d_La_readAll_27 rfl rfl (fun c35 => ?_) (fun c35 => ?_)
      · replace hf := m36 c35
        exact MM.sub [0, 1, 2, 3] (by rfl) (K9 _ hf)
      · replace hf := m37 c35
        refine MM.aload_n (i := 1) rfl rfl d_La_readAll_30 rfl ?_
        obtain ⟨wd30, e31, hf⟩ := mm_bind hf
        obtain ⟨e31, b_wd30⟩ := mm_gWE e31
        refine MM.gW e31 tg_33 wq_7 lays_6 ww_168 d_La_readAll_31 rfl ?_
        refine MM.word (j := 23) (by decide) rfl ww_816 d_La_readAll_34 rfl ?_
        obtain ⟨m33, m34⟩ := mm_ifE hf
        refine MM.acmp_ne b_wd30 (fun _ q => by cases q; decide) (tgt := 86) d_La_readAll_37 rfl rfl (fun c32 => ?_) (fun c32 => ?_)
        · replace hf := m34 c32
          refine MM.iconst ic_1 d_La_readAll_86 rfl ?_
          obtain rfl := Option.some.inj hf
          replace hf := mm_wxR hx5
          obtain rfl := Option.some.inj hf
          subst hZ
          exact MM.zret (Or.inr rfl) rfl d_La_readAll_87 ⟨rfl, rfl⟩
        · replace hf := m33 c32
          exact MM.sub [0, 1, 2, 3] (by rfl) (K9 _ hf)
  · replace hf := m43 c42
    refine MM.iconst ic_0 d_La_readAll_9 rfl ?_
    obtain rfl := Option.some.inj hf
    subst hZ
    exact MM.zret (Or.inl rfl) rfl d_La_readAll_10 ⟨rfl, rfl⟩
theorem d_La_readPart_0 : decode cX3_readPart 0 = .ok (.aload_n 1, 1) := by decide +kernel
theorem d_La_readPart_1 : decode cX3_readPart 1 = .ok (.getfield 26, 3) := by decide +kernel
theorem d_La_readPart_4 : decode cX3_readPart 4 = .ok (.getstatic 58, 3) := by decide +kernel
theorem d_La_readPart_7 : decode cX3_readPart 7 = .ok (.if_acmp .ne 7, 3) := by decide +kernel
theorem d_La_readPart_10 : decode cX3_readPart 10 = .ok (.iconst 1, 1) := by decide +kernel
theorem d_La_readPart_11 : decode cX3_readPart 11 = .ok (.goto 4, 3) := by decide +kernel
theorem d_La_readPart_14 : decode cX3_readPart 14 = .ok (.iconst 0, 1) := by decide +kernel
theorem d_La_readPart_15 : decode cX3_readPart 15 = .ok (.istore_n 3, 1) := by decide +kernel
theorem d_La_readPart_16 : decode cX3_readPart 16 = .ok (.aload_n 1, 1) := by decide +kernel
theorem d_La_readPart_17 : decode cX3_readPart 17 = .ok (.bipush 40, 2) := by decide +kernel
theorem d_La_readPart_19 : decode cX3_readPart 19 = .ok (.invokevirtual 48, 3) := by decide +kernel
theorem d_La_readPart_22 : decode cX3_readPart 22 = .ok (.istore 4, 2) := by decide +kernel
theorem d_La_readPart_24 : decode cX3_readPart 24 = .ok (.aload_n 1, 1) := by decide +kernel
theorem d_La_readPart_25 : decode cX3_readPart 25 = .ok (.getfield 26, 3) := by decide +kernel
theorem d_La_readPart_28 : decode cX3_readPart 28 = .ok (.ifnull 17, 3) := by decide +kernel
theorem d_La_readPart_31 : decode cX3_readPart 31 = .ok (.aload_n 1, 1) := by decide +kernel
theorem d_La_readPart_32 : decode cX3_readPart 32 = .ok (.getfield 26, 3) := by decide +kernel
theorem d_La_readPart_35 : decode cX3_readPart 35 = .ok (.getfield 61, 3) := by decide +kernel
theorem d_La_readPart_38 : decode cX3_readPart 38 = .ok (.ifCond .eq 7, 3) := by decide +kernel
theorem d_La_readPart_41 : decode cX3_readPart 41 = .ok (.iconst 1, 1) := by decide +kernel
theorem d_La_readPart_42 : decode cX3_readPart 42 = .ok (.goto 4, 3) := by decide +kernel
theorem d_La_readPart_45 : decode cX3_readPart 45 = .ok (.iconst 0, 1) := by decide +kernel
theorem d_La_readPart_46 : decode cX3_readPart 46 = .ok (.istore 5, 2) := by decide +kernel
theorem d_La_readPart_48 : decode cX3_readPart 48 = .ok (.iload_n 3, 1) := by decide +kernel
theorem d_La_readPart_49 : decode cX3_readPart 49 = .ok (.ifCond .ne 27, 3) := by decide +kernel
theorem d_La_readPart_52 : decode cX3_readPart 52 = .ok (.iload 4, 2) := by decide +kernel
theorem d_La_readPart_54 : decode cX3_readPart 54 = .ok (.ifCond .ne 22, 3) := by decide +kernel
theorem d_La_readPart_57 : decode cX3_readPart 57 = .ok (.iload 5, 2) := by decide +kernel
theorem d_La_readPart_59 : decode cX3_readPart 59 = .ok (.ifCond .ne 17, 3) := by decide +kernel
theorem d_La_readPart_62 : decode cX3_readPart 62 = .ok (.aload_n 1, 1) := by decide +kernel
theorem d_La_readPart_63 : decode cX3_readPart 63 = .ok (.getfield 64, 3) := by decide +kernel
theorem d_La_readPart_66 : decode cX3_readPart 66 = .ok (.iconst 3, 1) := by decide +kernel
theorem d_La_readPart_67 : decode cX3_readPart 67 = .ok (.if_icmp .eq 9, 3) := by decide +kernel
theorem d_La_readPart_70 : decode cX3_readPart 70 = .ok (.aload_n 1, 1) := by decide +kernel
theorem d_La_readPart_71 : decode cX3_readPart 71 = .ok (.iconst 1, 1) := by decide +kernel
theorem d_La_readPart_72 : decode cX3_readPart 72 = .ok (.invokevirtual 67, 3) := by decide +kernel
theorem d_La_readPart_75 : decode cX3_readPart 75 = .ok (.ireturn, 1) := by decide +kernel
theorem d_La_readPart_76 : decode cX3_readPart 76 = .ok (.iload_n 2, 1) := by decide +kernel
theorem d_La_readPart_77 : decode cX3_readPart 77 = .ok (.iconst 5, 1) := by decide +kernel
theorem d_La_readPart_78 : decode cX3_readPart 78 = .ok (.if_icmp .lt 9, 3) := by decide +kernel
theorem d_La_readPart_81 : decode cX3_readPart 81 = .ok (.aload_n 1, 1) := by decide +kernel
theorem d_La_readPart_82 : decode cX3_readPart 82 = .ok (.iconst 5, 1) := by decide +kernel
theorem d_La_readPart_83 : decode cX3_readPart 83 = .ok (.invokevirtual 67, 3) := by decide +kernel
theorem d_La_readPart_86 : decode cX3_readPart 86 = .ok (.ireturn, 1) := by decide +kernel
theorem d_La_readPart_87 : decode cX3_readPart 87 = .ok (.iload_n 3, 1) := by decide +kernel
theorem d_La_readPart_88 : decode cX3_readPart 88 = .ok (.ifCond .eq 28, 3) := by decide +kernel
theorem d_La_readPart_91 : decode cX3_readPart 91 = .ok (.aload_n 1, 1) := by decide +kernel
theorem d_La_readPart_92 : decode cX3_readPart 92 = .ok (.invokevirtual 38, 3) := by decide +kernel
theorem d_La_readPart_95 : decode cX3_readPart 95 = .ok (.aload_n 0, 1) := by decide +kernel
theorem d_La_readPart_96 : decode cX3_readPart 96 = .ok (.aload_n 1, 1) := by decide +kernel
theorem d_La_readPart_97 : decode cX3_readPart 97 = .ok (.iload_n 2, 1) := by decide +kernel
theorem d_La_readPart_98 : decode cX3_readPart 98 = .ok (.iconst 1, 1) := by decide +kernel
theorem d_La_readPart_99 : decode cX3_readPart 99 = .ok (.iadd, 1) := by decide +kernel
theorem d_La_readPart_100 : decode cX3_readPart 100 = .ok (.invokevirtual 55, 3) := by decide +kernel
theorem d_La_readPart_103 : decode cX3_readPart 103 = .ok (.ifCond .ne 5, 3) := by decide +kernel
theorem d_La_readPart_106 : decode cX3_readPart 106 = .ok (.iconst 0, 1) := by decide +kernel
theorem d_La_readPart_107 : decode cX3_readPart 107 = .ok (.ireturn, 1) := by decide +kernel
theorem d_La_readPart_108 : decode cX3_readPart 108 = .ok (.aload_n 0, 1) := by decide +kernel
theorem d_La_readPart_109 : decode cX3_readPart 109 = .ok (.bipush (-5), 2) := by decide +kernel
theorem d_La_readPart_111 : decode cX3_readPart 111 = .ok (.invokevirtual 41, 3) := by decide +kernel
theorem d_La_readPart_114 : decode cX3_readPart 114 = .ok (.iconst 1, 1) := by decide +kernel
theorem d_La_readPart_115 : decode cX3_readPart 115 = .ok (.ireturn, 1) := by decide +kernel
theorem d_La_readPart_116 : decode cX3_readPart 116 = .ok (.iload 4, 2) := by decide +kernel
theorem d_La_readPart_118 : decode cX3_readPart 118 = .ok (.ifCond .eq 33, 3) := by decide +kernel
theorem d_La_readPart_121 : decode cX3_readPart 121 = .ok (.aload_n 1, 1) := by decide +kernel
theorem d_La_readPart_122 : decode cX3_readPart 122 = .ok (.invokevirtual 38, 3) := by decide +kernel
theorem d_La_readPart_125 : decode cX3_readPart 125 = .ok (.aload_n 0, 1) := by decide +kernel
theorem d_La_readPart_126 : decode cX3_readPart 126 = .ok (.aload_n 1, 1) := by decide +kernel
theorem d_La_readPart_127 : decode cX3_readPart 127 = .ok (.iload_n 2, 1) := by decide +kernel
theorem d_La_readPart_128 : decode cX3_readPart 128 = .ok (.iconst 1, 1) := by decide +kernel
theorem d_La_readPart_129 : decode cX3_readPart 129 = .ok (.iadd, 1) := by decide +kernel
theorem d_La_readPart_130 : decode cX3_readPart 130 = .ok (.invokevirtual 71, 3) := by decide +kernel
theorem d_La_readPart_133 : decode cX3_readPart 133 = .ok (.ifCond .eq 16, 3) := by decide +kernel
theorem d_La_readPart_136 : decode cX3_readPart 136 = .ok (.aload_n 1, 1) := by decide +kernel
theorem d_La_readPart_137 : decode cX3_readPart 137 = .ok (.bipush 41, 2) := by decide +kernel
theorem d_La_readPart_139 : decode cX3_readPart 139 = .ok (.invokevirtual 74, 3) := by decide +kernel
theorem d_La_readPart_142 : decode cX3_readPart 142 = .ok (.ifCond .eq 7, 3) := by decide +kernel
theorem d_La_readPart_145 : decode cX3_readPart 145 = .ok (.iconst 1, 1) := by decide +kernel
theorem d_La_readPart_146 : decode cX3_readPart 146 = .ok (.goto 4, 3) := by decide +kernel
theorem d_La_readPart_149 : decode cX3_readPart 149 = .ok (.iconst 0, 1) := by decide +kernel
theorem d_La_readPart_150 : decode cX3_readPart 150 = .ok (.ireturn, 1) := by decide +kernel
theorem d_La_readPart_151 : decode cX3_readPart 151 = .ok (.aload_n 0, 1) := by decide +kernel
theorem d_La_readPart_152 : decode cX3_readPart 152 = .ok (.iload 5, 2) := by decide +kernel
theorem d_La_readPart_154 : decode cX3_readPart 154 = .ok (.ifCond .eq 13, 3) := by decide +kernel
theorem d_La_readPart_157 : decode cX3_readPart 157 = .ok (.aload_n 1, 1) := by decide +kernel
theorem d_La_readPart_158 : decode cX3_readPart 158 = .ok (.getfield 26, 3) := by decide +kernel
theorem d_La_readPart_161 : decode cX3_readPart 161 = .ok (.getfield 61, 3) := by decide +kernel
theorem d_La_readPart_164 : decode cX3_readPart 164 = .ok (.goto 7, 3) := by decide +kernel
theorem d_La_readPart_167 : decode cX3_readPart 167 = .ok (.aload_n 1, 1) := by decide +kernel
theorem d_La_readPart_168 : decode cX3_readPart 168 = .ok (.getfield 77, 3) := by decide +kernel
theorem d_La_readPart_171 : decode cX3_readPart 171 = .ok (.invokevirtual 41, 3) := by decide +kernel
theorem d_La_readPart_174 : decode cX3_readPart 174 = .ok (.aload_n 1, 1) := by decide +kernel
theorem d_La_readPart_175 : decode cX3_readPart 175 = .ok (.invokevirtual 38, 3) := by decide +kernel
theorem d_La_readPart_178 : decode cX3_readPart 178 = .ok (.iconst 1, 1) := by decide +kernel
theorem d_La_readPart_179 : decode cX3_readPart 179 = .ok (.ireturn, 1) := by decide +kernel
noncomputable def f_La_readPart_b (rp : Nat → Int32 → mm_H → Option (Int32 × mm_H)) (a0 : Nat) (x2 : Int32) (h : mm_H) : Option (Int32 × mm_H) := if mm_tg a0 = 2 then ((mm_gW h).bind fun wd1 => (if wd1 = (some 21) then (some 1) else (some 0) : Option Int32).bind fun j3 => (f_Ta_isSign 40 h).bind fun v9 => (mm_gW h).bind fun wd10 => (if wd10 = none then (some 0) else ((mm_gW h).bind fun wd14 => (wd14).bind fun k16 => if (mm_wf k16) = 0 then (some 0) else (some 1)) : Option Int32).bind fun j12 => mm_jp (fun (j24 : Unit) => (if x2 < 5 then (if j3 = 0 then (if v9 = 0 then ((if j12 = 0 then (some (h.1 33 5)) else ((mm_gW h).bind fun wd29 => (wd29).bind fun k31 => some (mm_wf k31)) : Option Int32).bind fun j27 => (f_La_put a0 j27 h).bind fun v37 => (f_Ta_next v37).bind fun v39 => some (1, v39)) else ((f_Ta_next h).bind fun v42 => (f_La_readAll_b rp a0 (x2 + 1) v42).bind fun v44 => if v44.1 = 0 then (some (0, v44.2)) else ((f_Ta_takeSign 41 v44.2).bind fun v46 => if v46.1 = 0 then (some (0, v46.2)) else (some (1, v46.2))))) else ((f_Ta_next h).bind fun v57 => (rp a0 (x2 + 1) v57).bind fun v59 => if v59.1 = 0 then (some (0, v59.2)) else ((f_La_put a0 (-5) v59.2).bind fun v61 => some (1, v61)))) else ((f_Ta_wrong 5 h).bind fun v69 => (mm_bo v69.1).bind fun b70 => some (b70, v69.2)))) fun k26 => if j3 = 0 then (if v9 = 0 then (if j12 = 0 then (if (h.1 33 4) = 3 then (k26 ()) else ((f_Ta_wrong 1 h).bind fun v76 => (mm_bo v76.1).bind fun b77 => some (b77, v76.2))) else (k26 ())) else (k26 ())) else (k26 ())) else none
theorem T_La_readPart_b (V : mm_V) (l : Launch) (rp : Nat → Int32 → mm_H → Option (Int32 × mm_H)) (D : Nat) (hD : 7 ≤ D) (hrp : ∀ (a0 : Nat) (x2 : Int32) (h : mm_H) (r : (Int32 × mm_H)), rp a0 x2 h = some r → MT V l Y_La_readPart D [.ref a0, .ref 33, .int x2] (fun r1 h1 => r1 = some (.int r.1) ∧ h1 = r.2) h) (a0 : Nat) (x2 : Int32) (h : mm_H) (r : (Int32 × mm_H)) (hf : f_La_readPart_b rp a0 x2 h = some r) : MT V l Y_La_readPart (D + 5) [.ref a0, .ref 33, .int x2] (fun r1 h1 => r1 = some (.int r.1) ∧ h1 = r.2) h := by
  unfold f_La_readPart_b at hf
  obtain ⟨t_a0, hf⟩ := mm_chkE hf
  refine MT.intro (pn_La rfl) [(0, .ref a0), (1, .ref 33), (2, .int x2)] rfl (Nat.le_of_ble_eq_true rfl) ?_
  generalize hZ : mm_Z V _ = Z0
  refine MM.aload_n (i := 1) rfl rfl d_La_readPart_0 rfl ?_
  obtain ⟨wd1, e2, hf⟩ := mm_bind hf
  obtain ⟨e2, b_wd1⟩ := mm_gWE e2
  refine MM.gW e2 tg_33 wq_7 lays_6 ww_168 d_La_readPart_1 rfl ?_
  refine MM.word (j := 21) (by decide) rfl ww_803 d_La_readPart_4 rfl ?_
  obtain ⟨j3, e93, hf⟩ := mm_bind hf
  have K4 : MM V l Y_La_readPart (D + 5) 0 0 Z0 15 [(0, .ref a0), (1, .ref 33), (2, .int x2)] [.int j3] h := by
    refine MM.istore_n (i := 3) (lv' := [(3, .int j3), (0, .ref a0), (1, .ref 33), (2, .int x2)]) rfl rfl (Nat.le_of_ble_eq_true rfl) rfl d_La_readPart_15 rfl ?_
    refine MM.aload_n (i := 1) rfl rfl d_La_readPart_16 rfl ?_
    refine MM.bipush bp_40 d_La_readPart_17 rfl ?_
    obtain ⟨v9, e8, hf⟩ := mm_bind hf
    refine MM.callV1 (T_Ta_isSign V l 40 h _ e8) (fun _ _ q => q) cal_Ta_isSign rfl tg_33 ct_6 ww_719 ww_718 ww_805 (by omega) (by simp [Value.category]) d_La_readPart_19 rfl ⟨rfl, rfl⟩ rfl ?_
    refine MM.istore (lv' := [(4, .int v9), (3, .int j3), (0, .ref a0), (1, .ref 33), (2, .int x2)]) rfl (Nat.le_of_ble_eq_true rfl) rfl d_La_readPart_22 rfl ?_
    refine MM.aload_n (i := 1) rfl rfl d_La_readPart_24 rfl ?_
    obtain ⟨wd10, e11, hf⟩ := mm_bind hf
    obtain ⟨e11, b_wd10⟩ := mm_gWE e11
    refine MM.gW e11 tg_33 wq_7 lays_6 ww_168 d_La_readPart_25 rfl ?_
    obtain ⟨j12, e92, hf⟩ := mm_bind hf
    have K13 : MM V l Y_La_readPart (D + 5) 0 0 Z0 46 [(0, .ref a0), (1, .ref 33), (2, .int x2), (3, .int j3), (4, .int v9)] [.int j12] h := by
      refine MM.istore (lv' := [(5, .int j12), (0, .ref a0), (1, .ref 33), (2, .int x2), (3, .int j3), (4, .int v9)]) rfl (Nat.le_of_ble_eq_true rfl) rfl d_La_readPart_46 rfl ?_
      refine MM.iload_n (i := 3) rfl rfl d_La_readPart_48 rfl ?_
      obtain ⟨k26, e91, hf⟩ := mm_jpE hf
      have K25 : ∀ j24, k26 j24 = some r → MM V l Y_La_readPart (D + 5) 0 0 Z0 76 [(0, .ref a0), (1, .ref 33), (2, .int x2), (3, .int j3), (4, .int v9), (5, .int j12)] [] h := by
        intro j24 hf
        rw [e91] at hf
        refine MM.iload_n (i := 2) rfl rfl d_La_readPart_76 rfl ?_
        refine MM.iconst ic_5 d_La_readPart_77 rfl ?_
        obtain ⟨m73, m74⟩ := mm_ifE hf
        refine MM.icmp_lt (tgt := 87) d_La_readPart_78 rfl rfl (fun c72 => ?_) (fun c72 => ?_)
        · replace hf := m73 c72
          refine MM.iload_n (i := 3) rfl rfl d_La_readPart_87 rfl ?_
          obtain ⟨m66, m67⟩ := mm_ifE hf
          refine MM.if_eq (tgt := 116) d_La_readPart_88 rfl rfl (fun c65 => ?_) (fun c65 => ?_)
          · replace hf := m66 c65
            refine MM.iload rfl d_La_readPart_116 rfl ?_
            obtain ⟨m54, m55⟩ := mm_ifE hf
            refine MM.if_eq (tgt := 151) d_La_readPart_118 rfl rfl (fun c53 => ?_) (fun c53 => ?_)
            · replace hf := m54 c53
              refine MM.aload_n (i := 0) rfl rfl d_La_readPart_151 rfl ?_
              refine MM.iload rfl d_La_readPart_152 rfl ?_
              obtain ⟨j27, e40, hf⟩ := mm_bind hf
              have K28 : MM V l Y_La_readPart (D + 5) 0 0 Z0 171 [(1, .ref 33)] [.int j27, .ref a0] h := by
                obtain ⟨v37, e36, hf⟩ := mm_bind hf
                refine MM.callV0 (T_La_put V l a0 j27 h _ e36) (fun _ _ q => q) cal_La_put rfl t_a0 ct_2 ww_7 ww_810 ww_808 (by omega) (by simp [Value.category]) d_La_readPart_171 rfl ⟨rfl, rfl⟩ rfl ?_
                refine MM.aload_n (i := 1) rfl rfl d_La_readPart_174 rfl ?_
                obtain ⟨v39, e38, hf⟩ := mm_bind hf
                refine MM.callV0 (T_Ta_next V l  v37 _ e38) (fun _ _ q => q) cal_Ta_next rfl tg_33 ct_6 ww_561 ww_560 ww_807 (by omega) (by simp [Value.category]) d_La_readPart_175 rfl ⟨rfl, rfl⟩ rfl ?_
                refine MM.iconst ic_1 d_La_readPart_178 rfl ?_
                obtain rfl := Option.some.inj hf
                subst hZ
                exact MM.zret (Or.inr rfl) rfl d_La_readPart_179 ⟨rfl, rfl⟩
              clear hf
              have hf := e40
              clear e40
              obtain ⟨m34, m35⟩ := mm_ifE hf
              refine MM.if_eq (tgt := 167) d_La_readPart_154 rfl rfl (fun c33 => ?_) (fun c33 => ?_)
              · replace hf := m34 c33
                refine MM.aload_n (i := 1) rfl rfl d_La_readPart_167 rfl ?_
                refine MM.getI 6 tg_33 lays_6 gq_6_5 ww_161 d_La_readPart_168 rfl ?_
                obtain rfl := Option.some.inj hf
                exact MM.sub [1] (by rfl) K28
              · replace hf := m35 c33
                refine MM.aload_n (i := 1) rfl rfl d_La_readPart_157 rfl ?_
                obtain ⟨wd29, e30, hf⟩ := mm_bind hf
                obtain ⟨e30, b_wd29⟩ := mm_gWE e30
                refine MM.gW e30 tg_33 wq_7 lays_6 ww_168 d_La_readPart_158 rfl ?_
                obtain ⟨k31, e32, hf⟩ := mm_bind hf
                refine MM.wfact k31 e32 (b_wd29 k31 e32) ww_2051 d_La_readPart_161 rfl ?_
                refine MM.goto (tgt := 171) d_La_readPart_164 rfl ?_
                obtain rfl := Option.some.inj hf
                exact MM.sub [1] (by rfl) K28
            · replace hf := m55 c53
              refine MM.aload_n (i := 1) rfl rfl d_La_readPart_121 rfl ?_
              obtain ⟨v42, e41, hf⟩ := mm_bind hf
              refine MM.callV0 (T_Ta_next V l  h _ e41) (fun _ _ q => q) cal_Ta_next rfl tg_33 ct_6 ww_561 ww_560 ww_807 (by omega) (by simp [Value.category]) d_La_readPart_122 rfl ⟨rfl, rfl⟩ rfl ?_
              refine MM.aload_n (i := 0) rfl rfl d_La_readPart_125 rfl ?_
              refine MM.aload_n (i := 1) rfl rfl d_La_readPart_126 rfl ?_
              refine MM.iload_n (i := 2) rfl rfl d_La_readPart_127 rfl ?_
              refine MM.iconst ic_1 d_La_readPart_128 rfl ?_
              refine MM.iadd d_La_readPart_129 rfl ?_
              obtain ⟨v44, e43, hf⟩ := mm_bind hf
              refine MM.callV1 (T_La_readAll_b V l rp D hD hrp a0 (x2 + 1) v42 _ e43) (fun _ _ q => q) cal_La_readAll rfl t_a0 ct_2 ww_2 ww_785 ww_812 (by omega) (by simp [Value.category]) d_La_readPart_130 rfl ⟨rfl, rfl⟩ rfl ?_
              obtain ⟨m51, m52⟩ := mm_ifE hf
              refine MM.if_eq (tgt := 149) d_La_readPart_133 rfl rfl (fun c50 => ?_) (fun c50 => ?_)
              · replace hf := m51 c50
                refine MM.iconst ic_0 d_La_readPart_149 rfl ?_
                obtain rfl := Option.some.inj hf
                subst hZ
                exact MM.zret (Or.inl rfl) rfl d_La_readPart_150 ⟨rfl, rfl⟩
              · replace hf := m52 c50
                refine MM.aload_n (i := 1) rfl rfl d_La_readPart_136 rfl ?_
                refine MM.bipush bp_41 d_La_readPart_137 rfl ?_
                obtain ⟨v46, e45, hf⟩ := mm_bind hf
                refine MM.callV1 (T_Ta_takeSign V l 41 v44.2 _ e45) (fun _ _ q => q) cal_Ta_takeSign rfl tg_33 ct_6 ww_715 ww_714 ww_813 (by omega) (by simp [Value.category]) d_La_readPart_139 rfl ⟨rfl, rfl⟩ rfl ?_
                obtain ⟨m48, m49⟩ := mm_ifE hf
                refine MM.if_eq (tgt := 149) d_La_readPart_142 rfl rfl (fun c47 => ?_) (fun c47 => ?_)
                · replace hf := m48 c47
                  refine MM.iconst ic_0 d_La_readPart_149 rfl ?_
                  obtain rfl := Option.some.inj hf
                  subst hZ
                  exact MM.zret (Or.inl rfl) rfl d_La_readPart_150 ⟨rfl, rfl⟩
                · replace hf := m49 c47
                  refine MM.iconst ic_1 d_La_readPart_145 rfl ?_
                  refine MM.goto (tgt := 150) d_La_readPart_146 rfl ?_
                  obtain rfl := Option.some.inj hf
                  subst hZ
                  exact MM.zret (Or.inr rfl) rfl d_La_readPart_150 ⟨rfl, rfl⟩
          · replace hf := m67 c65
            refine MM.aload_n (i := 1) rfl rfl d_La_readPart_91 rfl ?_
            obtain ⟨v57, e56, hf⟩ := mm_bind hf
            refine MM.callV0 (T_Ta_next V l  h _ e56) (fun _ _ q => q) cal_Ta_next rfl tg_33 ct_6 ww_561 ww_560 ww_807 (by omega) (by simp [Value.category]) d_La_readPart_92 rfl ⟨rfl, rfl⟩ rfl ?_
            refine MM.aload_n (i := 0) rfl rfl d_La_readPart_95 rfl ?_
            refine MM.aload_n (i := 1) rfl rfl d_La_readPart_96 rfl ?_
            refine MM.iload_n (i := 2) rfl rfl d_La_readPart_97 rfl ?_
            refine MM.iconst ic_1 d_La_readPart_98 rfl ?_
            refine MM.iadd d_La_readPart_99 rfl ?_
            obtain ⟨v59, e58, hf⟩ := mm_bind hf
            refine MM.callV1 (hrp a0 (x2 + 1) v57 _ e58) (fun _ _ q => q) cal_La_readPart rfl t_a0 ct_2 ww_6 ww_801 ww_799 (by omega) (by simp [Value.category]) d_La_readPart_100 rfl ⟨rfl, rfl⟩ rfl ?_
            obtain ⟨m63, m64⟩ := mm_ifE hf
            refine MM.if_ne (tgt := 108) d_La_readPart_103 rfl rfl (fun c62 => ?_) (fun c62 => ?_)
            · replace hf := m64 c62
              refine MM.aload_n (i := 0) rfl rfl d_La_readPart_108 rfl ?_
              refine MM.bipush bp_m5 d_La_readPart_109 rfl ?_
              obtain ⟨v61, e60, hf⟩ := mm_bind hf
              refine MM.callV0 (T_La_put V l a0 (-5) v59.2 _ e60) (fun _ _ q => q) cal_La_put rfl t_a0 ct_2 ww_7 ww_810 ww_808 (by omega) (by simp [Value.category]) d_La_readPart_111 rfl ⟨rfl, rfl⟩ rfl ?_
              refine MM.iconst ic_1 d_La_readPart_114 rfl ?_
              obtain rfl := Option.some.inj hf
              subst hZ
              exact MM.zret (Or.inr rfl) rfl d_La_readPart_115 ⟨rfl, rfl⟩
            · replace hf := m63 c62
              refine MM.iconst ic_0 d_La_readPart_106 rfl ?_
              obtain rfl := Option.some.inj hf
              subst hZ
              exact MM.zret (Or.inl rfl) rfl d_La_readPart_107 ⟨rfl, rfl⟩
        · replace hf := m74 c72
          refine MM.aload_n (i := 1) rfl rfl d_La_readPart_81 rfl ?_
          refine MM.iconst ic_5 d_La_readPart_82 rfl ?_
          obtain ⟨v69, e68, hf⟩ := mm_bind hf
          refine MM.callV1 (T_Ta_wrong V l 5 h _ e68) (fun _ _ q => q) cal_Ta_wrong rfl tg_33 ct_6 ww_671 ww_670 ww_806 (by omega) (by simp [Value.category]) d_La_readPart_83 rfl ⟨rfl, rfl⟩ rfl ?_
          obtain ⟨b70, e71, hf⟩ := mm_bind hf
          obtain ⟨ob70, e71⟩ := mm_boE e71
          subst e71
          obtain rfl := Option.some.inj hf
          subst hZ
          exact MM.zret ob70 rfl d_La_readPart_86 ⟨rfl, rfl⟩
      clear e91
      obtain ⟨m89, m90⟩ := mm_ifE hf
      refine MM.if_ne (tgt := 76) d_La_readPart_49 rfl rfl (fun c88 => ?_) (fun c88 => ?_)
      · replace hf := m90 c88
        exact MM.sub [1, 2, 3, 4, 5, 0] (by rfl) (K25 _ hf)
      · replace hf := m89 c88
        refine MM.iload rfl d_La_readPart_52 rfl ?_
        obtain ⟨m86, m87⟩ := mm_ifE hf
        refine MM.if_ne (tgt := 76) d_La_readPart_54 rfl rfl (fun c85 => ?_) (fun c85 => ?_)
        · replace hf := m87 c85
          exact MM.sub [1, 2, 3, 4, 5, 0] (by rfl) (K25 _ hf)
        · replace hf := m86 c85
          refine MM.iload rfl d_La_readPart_57 rfl ?_
          obtain ⟨m83, m84⟩ := mm_ifE hf
          refine MM.if_ne (tgt := 76) d_La_readPart_59 rfl rfl (fun c82 => ?_) (fun c82 => ?_)
          · replace hf := m84 c82
            exact MM.sub [1, 2, 3, 4, 5, 0] (by rfl) (K25 _ hf)
          · replace hf := m83 c82
            refine MM.aload_n (i := 1) rfl rfl d_La_readPart_62 rfl ?_
            refine MM.getI 6 tg_33 lays_6 gq_6_4 ww_159 d_La_readPart_63 rfl ?_
            refine MM.iconst ic_3 d_La_readPart_66 rfl ?_
            obtain ⟨m80, m81⟩ := mm_ifE hf
            refine MM.icmp_eq (tgt := 76) d_La_readPart_67 rfl rfl (fun c79 => ?_) (fun c79 => ?_)
            · replace hf := m80 c79
              exact MM.sub [1, 2, 3, 4, 5, 0] (by rfl) (K25 _ hf)
            · replace hf := m81 c79
              refine MM.aload_n (i := 1) rfl rfl d_La_readPart_70 rfl ?_
              refine MM.iconst ic_1 d_La_readPart_71 rfl ?_
              obtain ⟨v76, e75, hf⟩ := mm_bind hf
              refine MM.callV1 (T_Ta_wrong V l 1 h _ e75) (fun _ _ q => q) cal_Ta_wrong rfl tg_33 ct_6 ww_671 ww_670 ww_806 (by omega) (by simp [Value.category]) d_La_readPart_72 rfl ⟨rfl, rfl⟩ rfl ?_
              obtain ⟨b77, e78, hf⟩ := mm_bind hf
              obtain ⟨ob77, e78⟩ := mm_boE e78
              subst e78
              obtain rfl := Option.some.inj hf
              subst hZ
              exact MM.zret ob77 rfl d_La_readPart_75 ⟨rfl, rfl⟩
    clear hf
    have hf := e92
    clear e92
    obtain ⟨m22, m23⟩ := mm_ifE hf
    refine MM.ifnull (tgt := 45) d_La_readPart_28 rfl rfl (fun c21 => ?_) (fun c21 => ?_)
    · replace hf := m22 c21
      refine MM.iconst ic_0 d_La_readPart_45 rfl ?_
      obtain rfl := Option.some.inj hf
      exact MM.sub [2, 3, 4, 1, 0] (by rfl) K13
    · replace hf := m23 c21
      refine MM.aload_n (i := 1) rfl rfl d_La_readPart_31 rfl ?_
      obtain ⟨wd14, e15, hf⟩ := mm_bind hf
      obtain ⟨e15, b_wd14⟩ := mm_gWE e15
      refine MM.gW e15 tg_33 wq_7 lays_6 ww_168 d_La_readPart_32 rfl ?_
      obtain ⟨k16, e17, hf⟩ := mm_bind hf
      refine MM.wfact k16 e17 (b_wd14 k16 e17) ww_2051 d_La_readPart_35 rfl ?_
      obtain ⟨m19, m20⟩ := mm_ifE hf
      refine MM.if_eq (tgt := 45) d_La_readPart_38 rfl rfl (fun c18 => ?_) (fun c18 => ?_)
      · replace hf := m19 c18
        refine MM.iconst ic_0 d_La_readPart_45 rfl ?_
        obtain rfl := Option.some.inj hf
        exact MM.sub [2, 3, 4, 1, 0] (by rfl) K13
      · replace hf := m20 c18
        refine MM.iconst ic_1 d_La_readPart_41 rfl ?_
        refine MM.goto (tgt := 46) d_La_readPart_42 rfl ?_
        obtain rfl := Option.some.inj hf
        exact MM.sub [2, 3, 4, 1, 0] (by rfl) K13
  clear hf
  have hf := e93
  clear e93
  obtain ⟨m6, m7⟩ := mm_ifE hf
  refine MM.acmp_ne b_wd1 (fun _ q => by cases q; decide) (tgt := 14) d_La_readPart_7 rfl rfl (fun c5 => ?_) (fun c5 => ?_)
  · replace hf := m7 c5
    refine MM.iconst ic_0 d_La_readPart_14 rfl ?_
    obtain rfl := Option.some.inj hf
    exact MM.sub [0, 1, 2] (by rfl) K4
  · replace hf := m6 c5
    refine MM.iconst ic_1 d_La_readPart_10 rfl ?_
    refine MM.goto (tgt := 15) d_La_readPart_11 rfl ?_
    obtain rfl := Option.some.inj hf
    exact MM.sub [0, 1, 2] (by rfl) K4
noncomputable def f_La_readPart_n : Nat → Nat → Int32 → mm_H → Option (Int32 × mm_H)
  | 0 => fun _ _ _ => none
  | n + 1 => f_La_readPart_b (f_La_readPart_n n)
theorem T_La_readPart_n (V : mm_V) (l : Launch) : ∀ (n : Nat) (a0 : Nat) (x2 : Int32) (h : mm_H) (r : (Int32 × mm_H)), f_La_readPart_n n a0 x2 h = some r → MT V l Y_La_readPart (7 + 5 * n) [.ref a0, .ref 33, .int x2] (fun r1 h1 => r1 = some (.int r.1) ∧ h1 = r.2) h := by
  intro n
  induction n with
  | zero => intro a0 x2 h r hf; cases hf
  | succ n ih =>
    intro a0 x2 h r hf
    have e9 : 7 + 5 * (n + 1) = 7 + 5 * n + 5 := by omega
    rw [e9]
    exact T_La_readPart_b V l _ (7 + 5 * n) (by omega) ih a0 x2 h r hf
noncomputable def f_La_readProduct (a0 : Nat) (x2 : Int32) (h : mm_H) : Option (Int32 × mm_H) := f_La_readProduct_b (f_La_readPart_n 8) a0 x2 h
theorem T_La_readProduct (V : mm_V) (l : Launch) (a0 : Nat) (x2 : Int32) (h : mm_H) (r : (Int32 × mm_H)) (hf : f_La_readProduct a0 x2 h = some r) : MT V l Y_La_readProduct 48 [.ref a0, .ref 33, .int x2] (fun r1 h1 => r1 = some (.int r.1) ∧ h1 = r.2) h := T_La_readProduct_b V l _ 47 (by omega) (T_La_readPart_n V l 8) a0 x2 h r hf
noncomputable def f_La_readSum (a0 : Nat) (x2 : Int32) (h : mm_H) : Option (Int32 × mm_H) := f_La_readSum_b (f_La_readPart_n 8) a0 x2 h
theorem T_La_readSum (V : mm_V) (l : Launch) (a0 : Nat) (x2 : Int32) (h : mm_H) (r : (Int32 × mm_H)) (hf : f_La_readSum a0 x2 h = some r) : MT V l Y_La_readSum 49 [.ref a0, .ref 33, .int x2] (fun r1 h1 => r1 = some (.int r.1) ∧ h1 = r.2) h := T_La_readSum_b V l _ 47 (by omega) (T_La_readPart_n V l 8) a0 x2 h r hf
noncomputable def f_La_readTest (a0 : Nat) (x2 : Int32) (h : mm_H) : Option (Int32 × mm_H) := f_La_readTest_b (f_La_readPart_n 8) a0 x2 h
theorem T_La_readTest (V : mm_V) (l : Launch) (a0 : Nat) (x2 : Int32) (h : mm_H) (r : (Int32 × mm_H)) (hf : f_La_readTest a0 x2 h = some r) : MT V l Y_La_readTest 50 [.ref a0, .ref 33, .int x2] (fun r1 h1 => r1 = some (.int r.1) ∧ h1 = r.2) h := T_La_readTest_b V l _ 47 (by omega) (T_La_readPart_n V l 8) a0 x2 h r hf
noncomputable def f_La_readAll (a0 : Nat) (x2 : Int32) (h : mm_H) : Option (Int32 × mm_H) := f_La_readAll_b (f_La_readPart_n 8) a0 x2 h
theorem T_La_readAll (V : mm_V) (l : Launch) (a0 : Nat) (x2 : Int32) (h : mm_H) (r : (Int32 × mm_H)) (hf : f_La_readAll a0 x2 h = some r) : MT V l Y_La_readAll 51 [.ref a0, .ref 33, .int x2] (fun r1 h1 => r1 = some (.int r.1) ∧ h1 = r.2) h := T_La_readAll_b V l _ 47 (by omega) (T_La_readPart_n V l 8) a0 x2 h r hf
noncomputable def f_La_readPart (a0 : Nat) (x2 : Int32) (h : mm_H) : Option (Int32 × mm_H) := f_La_readPart_n 8 a0 x2 h
theorem T_La_readPart (V : mm_V) (l : Launch) (a0 : Nat) (x2 : Int32) (h : mm_H) (r : (Int32 × mm_H)) (hf : f_La_readPart a0 x2 h = some r) : MT V l Y_La_readPart 47 [.ref a0, .ref 33, .int x2] (fun r1 h1 => r1 = some (.int r.1) ∧ h1 = r.2) h := T_La_readPart_n V l 8 a0 x2 h r hf
theorem d_Tr_readWorth_0 : decode cX9_readWorth 0 = .ok (.aload_n 1, 1) := by decide +kernel
theorem d_Tr_readWorth_1 : decode cX9_readWorth 1 = .ok (.getfield 223, 3) := by decide +kernel
theorem d_Tr_readWorth_4 : decode cX9_readWorth 4 = .ok (.getfield 227, 3) := by decide +kernel
theorem d_Tr_readWorth_7 : decode cX9_readWorth 7 = .ok (.ifCond .le 9, 3) := by decide +kernel
theorem d_Tr_readWorth_10 : decode cX9_readWorth 10 = .ok (.aload_n 0, 1) := by decide +kernel
theorem d_Tr_readWorth_11 : decode cX9_readWorth 11 = .ok (.iconst 3, 1) := by decide +kernel
theorem d_Tr_readWorth_12 : decode cX9_readWorth 12 = .ok (.invokevirtual 68, 3) := by decide +kernel
theorem d_Tr_readWorth_15 : decode cX9_readWorth 15 = .ok (.ireturn, 1) := by decide +kernel
theorem d_Tr_readWorth_16 : decode cX9_readWorth 16 = .ok (.aload_n 0, 1) := by decide +kernel
theorem d_Tr_readWorth_17 : decode cX9_readWorth 17 = .ok (.invokevirtual 87, 3) := by decide +kernel
theorem d_Tr_readWorth_20 : decode cX9_readWorth 20 = .ok (.aload_n 1, 1) := by decide +kernel
theorem d_Tr_readWorth_21 : decode cX9_readWorth 21 = .ok (.getfield 223, 3) := by decide +kernel
theorem d_Tr_readWorth_24 : decode cX9_readWorth 24 = .ok (.aload_n 0, 1) := by decide +kernel
theorem d_Tr_readWorth_25 : decode cX9_readWorth 25 = .ok (.iconst 0, 1) := by decide +kernel
theorem d_Tr_readWorth_26 : decode cX9_readWorth 26 = .ok (.invokevirtual 232, 3) := by decide +kernel
theorem d_Tr_readWorth_29 : decode cX9_readWorth 29 = .ok (.ifCond .eq 16, 3) := by decide +kernel
theorem d_Tr_readWorth_32 : decode cX9_readWorth 32 = .ok (.aload_n 0, 1) := by decide +kernel
theorem d_Tr_readWorth_33 : decode cX9_readWorth 33 = .ok (.bipush 59, 2) := by decide +kernel
theorem d_Tr_readWorth_35 : decode cX9_readWorth 35 = .ok (.invokevirtual 139, 3) := by decide +kernel
theorem d_Tr_readWorth_38 : decode cX9_readWorth 38 = .ok (.ifCond .eq 7, 3) := by decide +kernel
theorem d_Tr_readWorth_41 : decode cX9_readWorth 41 = .ok (.iconst 1, 1) := by decide +kernel
theorem d_Tr_readWorth_42 : decode cX9_readWorth 42 = .ok (.goto 4, 3) := by decide +kernel
theorem d_Tr_readWorth_45 : decode cX9_readWorth 45 = .ok (.iconst 0, 1) := by decide +kernel
theorem d_Tr_readWorth_46 : decode cX9_readWorth 46 = .ok (.ireturn, 1) := by decide +kernel
noncomputable def f_Tr_readWorth (a1 : Nat) (h : mm_H) : Option (Int32 × mm_H) := if mm_tg a1 = 7 then (if (h.1 (a1 + 14) 2) ≤ 0 then ((f_Ta_next h).bind fun v2 => (f_La_readAll (a1 + 14) 0 v2).bind fun v4 => if v4.1 = 0 then (some (0, v4.2)) else ((f_Ta_takeSign 59 v4.2).bind fun v6 => if v6.1 = 0 then (some (0, v6.2)) else (some (1, v6.2)))) else ((f_Ta_wrong 3 h).bind fun v14 => (mm_bo v14.1).bind fun b15 => some (b15, v14.2))) else none
theorem T_Tr_readWorth (V : mm_V) (l : Launch) (a1 : Nat) (h : mm_H) (r : (Int32 × mm_H)) (hf : f_Tr_readWorth a1 h = some r) : MT V l Y_Tr_readWorth 52 [.ref 33, .ref a1] (fun r1 h1 => r1 = some (.int r.1) ∧ h1 = r.2) h := by
  unfold f_Tr_readWorth at hf
  obtain ⟨t_a1, hf⟩ := mm_chkE hf
  refine MT.intro (pn_Tr rfl) [(0, .ref 33), (1, .ref a1)] rfl (Nat.le_of_ble_eq_true rfl) ?_
  generalize hZ : mm_Z V _ = Z0
  refine MM.aload_n (i := 1) rfl rfl d_Tr_readWorth_0 rfl ?_
  refine MM.gR 7 14 t_a1 rq_7_19 rfl lays_7 ww_430 d_Tr_readWorth_1 rfl ?_
  refine MM.getI 2 (tg_7_19f t_a1) lays_2 gq_2_2 ww_355 d_Tr_readWorth_4 rfl ?_
  obtain ⟨m18, m19⟩ := mm_ifE hf
  refine MM.if_le (tgt := 16) d_Tr_readWorth_7 rfl rfl (fun c17 => ?_) (fun c17 => ?_)
  · replace hf := m18 c17
    refine MM.aload_n (i := 0) rfl rfl d_Tr_readWorth_16 rfl ?_
    obtain ⟨v2, e1, hf⟩ := mm_bind hf
    refine MM.callV0 (T_Ta_next V l  h _ e1) (fun _ _ q => q) cal_Ta_next rfl tg_33 ct_6 ww_561 ww_560 ww_673 (by decide) (by simp [Value.category]) d_Tr_readWorth_17 rfl ⟨rfl, rfl⟩ rfl ?_
    refine MM.aload_n (i := 1) rfl rfl d_Tr_readWorth_20 rfl ?_
    refine MM.gR 7 14 t_a1 rq_7_19 rfl lays_7 ww_430 d_Tr_readWorth_21 rfl ?_
    refine MM.aload_n (i := 0) rfl rfl d_Tr_readWorth_24 rfl ?_
    refine MM.iconst ic_0 d_Tr_readWorth_25 rfl ?_
    obtain ⟨v4, e3, hf⟩ := mm_bind hf
    refine MM.callVN1 (T_La_readAll V l (a1 + 14) 0 v2 _ e3) (fun _ _ q => q) cal_La_readAll rfl (tg_7_19f t_a1) ct_2 ww_2 ww_785 ww_783n (by decide) (by simp [Value.category]) d_Tr_readWorth_26 rfl ⟨rfl, rfl⟩ rfl ?_
    obtain ⟨m11, m12⟩ := mm_ifE hf
    refine MM.if_eq (tgt := 45) d_Tr_readWorth_29 rfl rfl (fun c10 => ?_) (fun c10 => ?_)
    · replace hf := m11 c10
      refine MM.iconst ic_0 d_Tr_readWorth_45 rfl ?_
      obtain rfl := Option.some.inj hf
      subst hZ
      exact MM.zret (Or.inl rfl) rfl d_Tr_readWorth_46 ⟨rfl, rfl⟩
    · replace hf := m12 c10
      refine MM.aload_n (i := 0) rfl rfl d_Tr_readWorth_32 rfl ?_
      refine MM.bipush bp_59 d_Tr_readWorth_33 rfl ?_
      obtain ⟨v6, e5, hf⟩ := mm_bind hf
      refine MM.callV1 (T_Ta_takeSign V l 59 v4.2 _ e5) (fun _ _ q => q) cal_Ta_takeSign rfl tg_33 ct_6 ww_715 ww_714 ww_713 (by decide) (by simp [Value.category]) d_Tr_readWorth_35 rfl ⟨rfl, rfl⟩ rfl ?_
      obtain ⟨m8, m9⟩ := mm_ifE hf
      refine MM.if_eq (tgt := 45) d_Tr_readWorth_38 rfl rfl (fun c7 => ?_) (fun c7 => ?_)
      · replace hf := m8 c7
        refine MM.iconst ic_0 d_Tr_readWorth_45 rfl ?_
        obtain rfl := Option.some.inj hf
        subst hZ
        exact MM.zret (Or.inl rfl) rfl d_Tr_readWorth_46 ⟨rfl, rfl⟩
      · replace hf := m9 c7
        refine MM.iconst ic_1 d_Tr_readWorth_41 rfl ?_
        refine MM.goto (tgt := 46) d_Tr_readWorth_42 rfl ?_
        obtain rfl := Option.some.inj hf
        subst hZ
        exact MM.zret (Or.inr rfl) rfl d_Tr_readWorth_46 ⟨rfl, rfl⟩
  · replace hf := m19 c17
    refine MM.aload_n (i := 0) rfl rfl d_Tr_readWorth_10 rfl ?_
    refine MM.iconst ic_3 d_Tr_readWorth_11 rfl ?_
    obtain ⟨v14, e13, hf⟩ := mm_bind hf
    refine MM.callV1 (T_Ta_wrong V l 3 h _ e13) (fun _ _ q => q) cal_Ta_wrong rfl tg_33 ct_6 ww_671 ww_670 ww_669 (by decide) (by simp [Value.category]) d_Tr_readWorth_12 rfl ⟨rfl, rfl⟩ rfl ?_
    obtain ⟨b15, e16, hf⟩ := mm_bind hf
    obtain ⟨ob15, e16⟩ := mm_boE e16
    subst e16
    obtain rfl := Option.some.inj hf
    subst hZ
    exact MM.zret ob15 rfl d_Tr_readWorth_15 ⟨rfl, rfl⟩
theorem d_Tr_readLine_0 : decode cX9_readLine 0 = .ok (.aload_n 0, 1) := by decide +kernel
theorem d_Tr_readLine_1 : decode cX9_readLine 1 = .ok (.getfield 32, 3) := by decide +kernel
theorem d_Tr_readLine_4 : decode cX9_readLine 4 = .ok (.getstatic 36, 3) := by decide +kernel
theorem d_Tr_readLine_7 : decode cX9_readLine 7 = .ok (.if_acmp .ne 9, 3) := by decide +kernel
theorem d_Tr_readLine_10 : decode cX9_readLine 10 = .ok (.aload_n 0, 1) := by decide +kernel
theorem d_Tr_readLine_11 : decode cX9_readLine 11 = .ok (.aload_n 1, 1) := by decide +kernel
theorem d_Tr_readLine_12 : decode cX9_readLine 12 = .ok (.invokestatic 41, 3) := by decide +kernel
theorem d_Tr_readLine_15 : decode cX9_readLine 15 = .ok (.ireturn, 1) := by decide +kernel
theorem d_Tr_readLine_16 : decode cX9_readLine 16 = .ok (.aload_n 0, 1) := by decide +kernel
theorem d_Tr_readLine_17 : decode cX9_readLine 17 = .ok (.getfield 32, 3) := by decide +kernel
theorem d_Tr_readLine_20 : decode cX9_readLine 20 = .ok (.getstatic 44, 3) := by decide +kernel
theorem d_Tr_readLine_23 : decode cX9_readLine 23 = .ok (.if_acmp .ne 9, 3) := by decide +kernel
theorem d_Tr_readLine_26 : decode cX9_readLine 26 = .ok (.aload_n 0, 1) := by decide +kernel
theorem d_Tr_readLine_27 : decode cX9_readLine 27 = .ok (.aload_n 1, 1) := by decide +kernel
theorem d_Tr_readLine_28 : decode cX9_readLine 28 = .ok (.invokestatic 47, 3) := by decide +kernel
theorem d_Tr_readLine_31 : decode cX9_readLine 31 = .ok (.ireturn, 1) := by decide +kernel
theorem d_Tr_readLine_32 : decode cX9_readLine 32 = .ok (.aload_n 0, 1) := by decide +kernel
theorem d_Tr_readLine_33 : decode cX9_readLine 33 = .ok (.getfield 32, 3) := by decide +kernel
theorem d_Tr_readLine_36 : decode cX9_readLine 36 = .ok (.getstatic 50, 3) := by decide +kernel
theorem d_Tr_readLine_39 : decode cX9_readLine 39 = .ok (.if_acmp .ne 9, 3) := by decide +kernel
theorem d_Tr_readLine_42 : decode cX9_readLine 42 = .ok (.aload_n 0, 1) := by decide +kernel
theorem d_Tr_readLine_43 : decode cX9_readLine 43 = .ok (.aload_n 1, 1) := by decide +kernel
theorem d_Tr_readLine_44 : decode cX9_readLine 44 = .ok (.invokestatic 53, 3) := by decide +kernel
theorem d_Tr_readLine_47 : decode cX9_readLine 47 = .ok (.ireturn, 1) := by decide +kernel
theorem d_Tr_readLine_48 : decode cX9_readLine 48 = .ok (.aload_n 0, 1) := by decide +kernel
theorem d_Tr_readLine_49 : decode cX9_readLine 49 = .ok (.getfield 32, 3) := by decide +kernel
theorem d_Tr_readLine_52 : decode cX9_readLine 52 = .ok (.getstatic 56, 3) := by decide +kernel
theorem d_Tr_readLine_55 : decode cX9_readLine 55 = .ok (.if_acmp .ne 9, 3) := by decide +kernel
theorem d_Tr_readLine_58 : decode cX9_readLine 58 = .ok (.aload_n 0, 1) := by decide +kernel
theorem d_Tr_readLine_59 : decode cX9_readLine 59 = .ok (.aload_n 1, 1) := by decide +kernel
theorem d_Tr_readLine_60 : decode cX9_readLine 60 = .ok (.invokestatic 59, 3) := by decide +kernel
theorem d_Tr_readLine_63 : decode cX9_readLine 63 = .ok (.ireturn, 1) := by decide +kernel
theorem d_Tr_readLine_64 : decode cX9_readLine 64 = .ok (.aload_n 0, 1) := by decide +kernel
theorem d_Tr_readLine_65 : decode cX9_readLine 65 = .ok (.getfield 32, 3) := by decide +kernel
theorem d_Tr_readLine_68 : decode cX9_readLine 68 = .ok (.getstatic 62, 3) := by decide +kernel
theorem d_Tr_readLine_71 : decode cX9_readLine 71 = .ok (.if_acmp .ne 9, 3) := by decide +kernel
theorem d_Tr_readLine_74 : decode cX9_readLine 74 = .ok (.aload_n 0, 1) := by decide +kernel
theorem d_Tr_readLine_75 : decode cX9_readLine 75 = .ok (.aload_n 1, 1) := by decide +kernel
theorem d_Tr_readLine_76 : decode cX9_readLine 76 = .ok (.invokestatic 65, 3) := by decide +kernel
theorem d_Tr_readLine_79 : decode cX9_readLine 79 = .ok (.ireturn, 1) := by decide +kernel
theorem d_Tr_readLine_80 : decode cX9_readLine 80 = .ok (.aload_n 0, 1) := by decide +kernel
theorem d_Tr_readLine_81 : decode cX9_readLine 81 = .ok (.iconst 1, 1) := by decide +kernel
theorem d_Tr_readLine_82 : decode cX9_readLine 82 = .ok (.invokevirtual 68, 3) := by decide +kernel
theorem d_Tr_readLine_85 : decode cX9_readLine 85 = .ok (.ireturn, 1) := by decide +kernel
noncomputable def f_Tr_readLine (a1 : Nat) (h : mm_H) : Option (Int32 × mm_H) := if mm_tg a1 = 7 then ((mm_gW h).bind fun wd1 => if wd1 = (some 0) then ((f_Tr_readPerson a1 h).bind fun v44 => (mm_bo v44.1).bind fun b45 => some (b45, v44.2)) else ((mm_gW h).bind fun wd3 => if wd3 = (some 3) then ((f_Tr_readSecret a1 h).bind fun v37 => (mm_bo v37.1).bind fun b38 => some (b38, v37.2)) else ((mm_gW h).bind fun wd5 => if wd5 = (some 8) then ((f_Tr_readEar a1 h).bind fun v30 => (mm_bo v30.1).bind fun b31 => some (b31, v30.2)) else ((mm_gW h).bind fun wd7 => if wd7 = (some 9) then ((f_Tr_readClash a1 h).bind fun v23 => (mm_bo v23.1).bind fun b24 => some (b24, v23.2)) else ((mm_gW h).bind fun wd9 => if wd9 = (some 10) then ((f_Tr_readWorth a1 h).bind fun v16 => (mm_bo v16.1).bind fun b17 => some (b17, v16.2)) else ((f_Ta_wrong 1 h).bind fun v12 => (mm_bo v12.1).bind fun b13 => some (b13, v12.2))))))) else none
theorem T_Tr_readLine (V : mm_V) (l : Launch) (a1 : Nat) (h : mm_H) (r : (Int32 × mm_H)) (hf : f_Tr_readLine a1 h = some r) : MT V l Y_Tr_readLine 53 [.ref 33, .ref a1] (fun r1 h1 => r1 = some (.int r.1) ∧ h1 = r.2) h := by
  unfold f_Tr_readLine at hf
  obtain ⟨t_a1, hf⟩ := mm_chkE hf
  refine MT.intro (pn_Tr rfl) [(0, .ref 33), (1, .ref a1)] rfl (Nat.le_of_ble_eq_true rfl) ?_
  generalize hZ : mm_Z V _ = Z0
  refine MM.aload_n (i := 0) rfl rfl d_Tr_readLine_0 rfl ?_
  obtain ⟨wd1, e2, hf⟩ := mm_bind hf
  obtain ⟨e2, b_wd1⟩ := mm_gWE e2
  refine MM.gW e2 tg_33 wq_7 lays_6 ww_166 d_Tr_readLine_1 rfl ?_
  refine MM.word (j := 0) (by decide) rfl ww_664 d_Tr_readLine_4 rfl ?_
  obtain ⟨m48, m49⟩ := mm_ifE hf
  refine MM.acmp_ne b_wd1 (fun _ q => by cases q; decide) (tgt := 16) d_Tr_readLine_7 rfl rfl (fun c47 => ?_) (fun c47 => ?_)
  · replace hf := m49 c47
    refine MM.aload_n (i := 0) rfl rfl d_Tr_readLine_16 rfl ?_
    obtain ⟨wd3, e4, hf⟩ := mm_bind hf
    obtain ⟨e4, b_wd3⟩ := mm_gWE e4
    refine MM.gW e4 tg_33 wq_7 lays_6 ww_166 d_Tr_readLine_17 rfl ?_
    refine MM.word (j := 3) (by decide) rfl ww_721 d_Tr_readLine_20 rfl ?_
    obtain ⟨m41, m42⟩ := mm_ifE hf
    refine MM.acmp_ne b_wd3 (fun _ q => by cases q; decide) (tgt := 32) d_Tr_readLine_23 rfl rfl (fun c40 => ?_) (fun c40 => ?_)
    · replace hf := m42 c40
      refine MM.aload_n (i := 0) rfl rfl d_Tr_readLine_32 rfl ?_
      obtain ⟨wd5, e6, hf⟩ := mm_bind hf
      obtain ⟨e6, b_wd5⟩ := mm_gWE e6
      refine MM.gW e6 tg_33 wq_7 lays_6 ww_166 d_Tr_readLine_33 rfl ?_
      refine MM.word (j := 8) (by decide) rfl ww_766 d_Tr_readLine_36 rfl ?_
      obtain ⟨m34, m35⟩ := mm_ifE hf
      refine MM.acmp_ne b_wd5 (fun _ q => by cases q; decide) (tgt := 48) d_Tr_readLine_39 rfl rfl (fun c33 => ?_) (fun c33 => ?_)
      · replace hf := m35 c33
        refine MM.aload_n (i := 0) rfl rfl d_Tr_readLine_48 rfl ?_
        obtain ⟨wd7, e8, hf⟩ := mm_bind hf
        obtain ⟨e8, b_wd7⟩ := mm_gWE e8
        refine MM.gW e8 tg_33 wq_7 lays_6 ww_166 d_Tr_readLine_49 rfl ?_
        refine MM.word (j := 9) (by decide) rfl ww_772 d_Tr_readLine_52 rfl ?_
        obtain ⟨m27, m28⟩ := mm_ifE hf
        refine MM.acmp_ne b_wd7 (fun _ q => by cases q; decide) (tgt := 64) d_Tr_readLine_55 rfl rfl (fun c26 => ?_) (fun c26 => ?_)
        · replace hf := m28 c26
          refine MM.aload_n (i := 0) rfl rfl d_Tr_readLine_64 rfl ?_
          obtain ⟨wd9, e10, hf⟩ := mm_bind hf
          obtain ⟨e10, b_wd9⟩ := mm_gWE e10
          refine MM.gW e10 tg_33 wq_7 lays_6 ww_166 d_Tr_readLine_65 rfl ?_
          refine MM.word (j := 10) (by decide) rfl ww_778 d_Tr_readLine_68 rfl ?_
          obtain ⟨m20, m21⟩ := mm_ifE hf
          refine MM.acmp_ne b_wd9 (fun _ q => by cases q; decide) (tgt := 80) d_Tr_readLine_71 rfl rfl (fun c19 => ?_) (fun c19 => ?_)
          · replace hf := m21 c19
            refine MM.aload_n (i := 0) rfl rfl d_Tr_readLine_80 rfl ?_
            refine MM.iconst ic_1 d_Tr_readLine_81 rfl ?_
            obtain ⟨v12, e11, hf⟩ := mm_bind hf
            refine MM.callV1 (T_Ta_wrong V l 1 h _ e11) (fun _ _ q => q) cal_Ta_wrong rfl tg_33 ct_6 ww_671 ww_670 ww_669 (by decide) (by simp [Value.category]) d_Tr_readLine_82 rfl ⟨rfl, rfl⟩ rfl ?_
            obtain ⟨b13, e14, hf⟩ := mm_bind hf
            obtain ⟨ob13, e14⟩ := mm_boE e14
            subst e14
            obtain rfl := Option.some.inj hf
            subst hZ
            exact MM.zret ob13 rfl d_Tr_readLine_85 ⟨rfl, rfl⟩
          · replace hf := m20 c19
            refine MM.aload_n (i := 0) rfl rfl d_Tr_readLine_74 rfl ?_
            refine MM.aload_n (i := 1) rfl rfl d_Tr_readLine_75 rfl ?_
            obtain ⟨v16, e15, hf⟩ := mm_bind hf
            refine MM.callS1 (T_Tr_readWorth V l a1 h _ e15) (fun _ _ q => q) cal_Tr_readWorth rfl ww_781 ww_780 (by decide) (by simp [Value.category]) d_Tr_readLine_76 rfl ⟨rfl, rfl⟩ rfl ?_
            obtain ⟨b17, e18, hf⟩ := mm_bind hf
            obtain ⟨ob17, e18⟩ := mm_boE e18
            subst e18
            obtain rfl := Option.some.inj hf
            subst hZ
            exact MM.zret ob17 rfl d_Tr_readLine_79 ⟨rfl, rfl⟩
        · replace hf := m27 c26
          refine MM.aload_n (i := 0) rfl rfl d_Tr_readLine_58 rfl ?_
          refine MM.aload_n (i := 1) rfl rfl d_Tr_readLine_59 rfl ?_
          obtain ⟨v23, e22, hf⟩ := mm_bind hf
          refine MM.callS1 (T_Tr_readClash V l a1 h _ e22) (fun _ _ q => q) cal_Tr_readClash rfl ww_775 ww_774 (by decide) (by simp [Value.category]) d_Tr_readLine_60 rfl ⟨rfl, rfl⟩ rfl ?_
          obtain ⟨b24, e25, hf⟩ := mm_bind hf
          obtain ⟨ob24, e25⟩ := mm_boE e25
          subst e25
          obtain rfl := Option.some.inj hf
          subst hZ
          exact MM.zret ob24 rfl d_Tr_readLine_63 ⟨rfl, rfl⟩
      · replace hf := m34 c33
        refine MM.aload_n (i := 0) rfl rfl d_Tr_readLine_42 rfl ?_
        refine MM.aload_n (i := 1) rfl rfl d_Tr_readLine_43 rfl ?_
        obtain ⟨v30, e29, hf⟩ := mm_bind hf
        refine MM.callS1 (T_Tr_readEar V l a1 h _ e29) (fun _ _ q => q) cal_Tr_readEar rfl ww_769 ww_768 (by decide) (by simp [Value.category]) d_Tr_readLine_44 rfl ⟨rfl, rfl⟩ rfl ?_
        obtain ⟨b31, e32, hf⟩ := mm_bind hf
        obtain ⟨ob31, e32⟩ := mm_boE e32
        subst e32
        obtain rfl := Option.some.inj hf
        subst hZ
        exact MM.zret ob31 rfl d_Tr_readLine_47 ⟨rfl, rfl⟩
    · replace hf := m41 c40
      refine MM.aload_n (i := 0) rfl rfl d_Tr_readLine_26 rfl ?_
      refine MM.aload_n (i := 1) rfl rfl d_Tr_readLine_27 rfl ?_
      obtain ⟨v37, e36, hf⟩ := mm_bind hf
      refine MM.callS1 (T_Tr_readSecret V l a1 h _ e36) (fun _ _ q => q) cal_Tr_readSecret rfl ww_724 ww_723 (by decide) (by simp [Value.category]) d_Tr_readLine_28 rfl ⟨rfl, rfl⟩ rfl ?_
      obtain ⟨b38, e39, hf⟩ := mm_bind hf
      obtain ⟨ob38, e39⟩ := mm_boE e39
      subst e39
      obtain rfl := Option.some.inj hf
      subst hZ
      exact MM.zret ob38 rfl d_Tr_readLine_31 ⟨rfl, rfl⟩
  · replace hf := m48 c47
    refine MM.aload_n (i := 0) rfl rfl d_Tr_readLine_10 rfl ?_
    refine MM.aload_n (i := 1) rfl rfl d_Tr_readLine_11 rfl ?_
    obtain ⟨v44, e43, hf⟩ := mm_bind hf
    refine MM.callS1 (T_Tr_readPerson V l a1 h _ e43) (fun _ _ q => q) cal_Tr_readPerson rfl ww_667 ww_666 (by decide) (by simp [Value.category]) d_Tr_readLine_12 rfl ⟨rfl, rfl⟩ rfl ?_
    obtain ⟨b45, e46, hf⟩ := mm_bind hf
    obtain ⟨ob45, e46⟩ := mm_boE e46
    subst e46
    obtain rfl := Option.some.inj hf
    subst hZ
    exact MM.zret ob45 rfl d_Tr_readLine_15 ⟨rfl, rfl⟩
theorem d_Tr_readTown_0 : decode cX9_readTown 0 = .ok (.aload_n 1, 1) := by decide +kernel
theorem d_Tr_readTown_1 : decode cX9_readTown 1 = .ok (.invokevirtual 9, 3) := by decide +kernel
theorem d_Tr_readTown_4 : decode cX9_readTown 4 = .ok (.aload_n 0, 1) := by decide +kernel
theorem d_Tr_readTown_5 : decode cX9_readTown 5 = .ok (.invokevirtual 14, 3) := by decide +kernel
theorem d_Tr_readTown_8 : decode cX9_readTown 8 = .ok (.iconst 0, 1) := by decide +kernel
theorem d_Tr_readTown_9 : decode cX9_readTown 9 = .ok (.istore_n 2, 1) := by decide +kernel
theorem d_Tr_readTown_10 : decode cX9_readTown 10 = .ok (.iload_n 2, 1) := by decide +kernel
theorem d_Tr_readTown_11 : decode cX9_readTown 11 = .ok (.sipush 1000, 3) := by decide +kernel
theorem d_Tr_readTown_14 : decode cX9_readTown 14 = .ok (.if_icmp .gt 30, 3) := by decide +kernel
theorem d_Tr_readTown_17 : decode cX9_readTown 17 = .ok (.aload_n 0, 1) := by decide +kernel
theorem d_Tr_readTown_18 : decode cX9_readTown 18 = .ok (.getfield 19, 3) := by decide +kernel
theorem d_Tr_readTown_21 : decode cX9_readTown 21 = .ok (.iconst 1, 1) := by decide +kernel
theorem d_Tr_readTown_22 : decode cX9_readTown 22 = .ok (.if_icmp .eq 22, 3) := by decide +kernel
theorem d_Tr_readTown_25 : decode cX9_readTown 25 = .ok (.aload_n 0, 1) := by decide +kernel
theorem d_Tr_readTown_26 : decode cX9_readTown 26 = .ok (.aload_n 1, 1) := by decide +kernel
theorem d_Tr_readTown_27 : decode cX9_readTown 27 = .ok (.invokestatic 23, 3) := by decide +kernel
theorem d_Tr_readTown_30 : decode cX9_readTown 30 = .ok (.ifCond .ne 8, 3) := by decide +kernel
theorem d_Tr_readTown_33 : decode cX9_readTown 33 = .ok (.aload_n 0, 1) := by decide +kernel
theorem d_Tr_readTown_34 : decode cX9_readTown 34 = .ok (.getfield 29, 3) := by decide +kernel
theorem d_Tr_readTown_37 : decode cX9_readTown 37 = .ok (.ireturn, 1) := by decide +kernel
theorem d_Tr_readTown_38 : decode cX9_readTown 38 = .ok (.iinc 2 1, 3) := by decide +kernel
theorem d_Tr_readTown_41 : decode cX9_readTown 41 = .ok (.goto (-31), 3) := by decide +kernel
theorem d_Tr_readTown_44 : decode cX9_readTown 44 = .ok (.iconst 0, 1) := by decide +kernel
theorem d_Tr_readTown_45 : decode cX9_readTown 45 = .ok (.ireturn, 1) := by decide +kernel
noncomputable def f_Tr_readTown (a1 : Nat) (h : mm_H) : Option (Int32 × mm_H) := if mm_tg a1 = 7 then ((f_To_clear a1 h).bind fun v2 => (f_Ta_rewind v2).bind fun v4 => mm_while (σ := (Int32 × mm_H)) (ρ := (Int32 × mm_H)) (fun s5 => if 1000 < s5.1 then (some (Sum.inr (0, s5.2))) else (if (s5.2.1 33 4) = 1 then (some (Sum.inr (0, s5.2))) else ((f_Tr_readLine a1 s5.2).bind fun v9 => if v9.1 = 0 then (some (Sum.inr ((v9.2.1 33 9), v9.2))) else (mm_let (s5.1 + 1) fun y10 => some (Sum.inl (y10, v9.2)))))) (0, v4)) else none
theorem T_Tr_readTown (V : mm_V) (l : Launch) (a1 : Nat) (h : mm_H) (r : (Int32 × mm_H)) (hf : f_Tr_readTown a1 h = some r) : MT V l Y_Tr_readTown 54 [.ref 33, .ref a1] (fun r1 h1 => r1 = some (.int r.1) ∧ h1 = r.2) h := by
  unfold f_Tr_readTown at hf
  obtain ⟨t_a1, hf⟩ := mm_chkE hf
  refine MT.intro (pn_Tr rfl) [(0, .ref 33), (1, .ref a1)] rfl (Nat.le_of_ble_eq_true rfl) ?_
  generalize hZ : mm_Z V _ = Z0
  refine MM.aload_n (i := 1) rfl rfl d_Tr_readTown_0 rfl ?_
  obtain ⟨v2, e1, hf⟩ := mm_bind hf
  refine MM.callV0 (T_To_clear V l a1 h _ e1) (fun _ _ q => q) cal_To_clear rfl t_a1 ct_7 ww_550 ww_549 ww_548 (by decide) (by simp [Value.category]) d_Tr_readTown_1 rfl ⟨rfl, rfl⟩ rfl ?_
  refine MM.aload_n (i := 0) rfl rfl d_Tr_readTown_4 rfl ?_
  obtain ⟨v4, e3, hf⟩ := mm_bind hf
  refine MM.callV0 (T_Ta_rewind V l  v2 _ e3) (fun _ _ q => q) cal_Ta_rewind rfl tg_33 ct_6 ww_557 ww_556 ww_555 (by decide) (by simp [Value.category]) d_Tr_readTown_5 rfl ⟨rfl, rfl⟩ rfl ?_
  refine MM.iconst ic_0 d_Tr_readTown_8 rfl ?_
  refine MM.istore_n (i := 2) (lv' := [(2, .int 0), (0, .ref 33), (1, .ref a1)]) rfl rfl (Nat.le_of_ble_eq_true rfl) rfl d_Tr_readTown_9 rfl ?_
  refine MM.sub [1, 2, 0] (by rfl) (mm_while_ind (fun s5 => MM V l Y_Tr_readTown 54 0 0 Z0 10 [(0, .ref 33), (1, .ref a1), (2, .int s5.1)] [] s5.2) hf (fun s5 q6 hf hx7 => ?_))
  refine MM.iload_n (i := 2) rfl rfl d_Tr_readTown_10 rfl ?_
  refine MM.sipush sp_1000 d_Tr_readTown_11 rfl ?_
  obtain ⟨m19, m20⟩ := mm_ifE hf
  refine MM.icmp_gt (tgt := 44) d_Tr_readTown_14 rfl rfl (fun c18 => ?_) (fun c18 => ?_)
  · replace hf := m19 c18
    refine MM.iconst ic_0 d_Tr_readTown_44 rfl ?_
    obtain rfl := Option.some.inj hf
    replace hf := mm_wxR hx7
    obtain rfl := Option.some.inj hf
    subst hZ
    exact MM.iret rfl d_Tr_readTown_45 ⟨rfl, rfl⟩
  · replace hf := m20 c18
    refine MM.aload_n (i := 0) rfl rfl d_Tr_readTown_17 rfl ?_
    refine MM.getI 6 tg_33 lays_6 gq_6_4 ww_157 d_Tr_readTown_18 rfl ?_
    refine MM.iconst ic_1 d_Tr_readTown_21 rfl ?_
    obtain ⟨m16, m17⟩ := mm_ifE hf
    refine MM.icmp_eq (tgt := 44) d_Tr_readTown_22 rfl rfl (fun c15 => ?_) (fun c15 => ?_)
    · replace hf := m16 c15
      refine MM.iconst ic_0 d_Tr_readTown_44 rfl ?_
      obtain rfl := Option.some.inj hf
      replace hf := mm_wxR hx7
      obtain rfl := Option.some.inj hf
      subst hZ
      exact MM.iret rfl d_Tr_readTown_45 ⟨rfl, rfl⟩
    · replace hf := m17 c15
      refine MM.aload_n (i := 0) rfl rfl d_Tr_readTown_25 rfl ?_
      refine MM.aload_n (i := 1) rfl rfl d_Tr_readTown_26 rfl ?_
      obtain ⟨v9, e8, hf⟩ := mm_bind hf
      refine MM.callS1 (T_Tr_readLine V l a1 s5.2 _ e8) (fun _ _ q => q) cal_Tr_readLine rfl ww_662 ww_661 (by decide) (by simp [Value.category]) d_Tr_readTown_27 rfl ⟨rfl, rfl⟩ rfl ?_
      obtain ⟨m13, m14⟩ := mm_ifE hf
      refine MM.if_ne (tgt := 38) d_Tr_readTown_30 rfl rfl (fun c12 => ?_) (fun c12 => ?_)
      · replace hf := m14 c12
        obtain ⟨y10, e11, hf⟩ := mm_letE hf
        refine MM.iinc (k0 := 2) (lv' := [(2, .int y10), (0, .ref 33), (1, .ref a1)]) (by rw [ic_1]; exact e11) rfl (Nat.le_of_ble_eq_true rfl) rfl d_Tr_readTown_38 rfl ?_
        refine MM.goto (tgt := 10) d_Tr_readTown_41 rfl ?_
        obtain rfl := Option.some.inj hf
        have h9 := mm_wxL hx7
        exact MM.sub [1, 2, 0] (by rfl) h9
      · replace hf := m13 c12
        refine MM.aload_n (i := 0) rfl rfl d_Tr_readTown_33 rfl ?_
        refine MM.getI 6 tg_33 lays_6 gq_6_9 ww_171 d_Tr_readTown_34 rfl ?_
        obtain rfl := Option.some.inj hf
        replace hf := mm_wxR hx7
        obtain rfl := Option.some.inj hf
        subst hZ
        exact MM.iret rfl d_Tr_readTown_37 ⟨rfl, rfl⟩
theorem d_Ta_clear_0 : decode cX7_clear 0 = .ok (.aload_n 0, 1) := by decide +kernel
theorem d_Ta_clear_1 : decode cX7_clear 1 = .ok (.iconst 0, 1) := by decide +kernel
theorem d_Ta_clear_2 : decode cX7_clear 2 = .ok (.putfield 15, 3) := by decide +kernel
theorem d_Ta_clear_5 : decode cX7_clear 5 = .ok (.return_, 1) := by decide +kernel
noncomputable def f_Ta_clear (h : mm_H) : Option mm_H := mm_let (mm_pI h 33 1 0) fun h1 => some h1
theorem T_Ta_clear (V : mm_V) (l : Launch) (h : mm_H) (r : mm_H) (hf : f_Ta_clear h = some r) : MT V l Y_Ta_clear 1 [.ref 33] (fun r1 h1 => r1 = none ∧ h1 = r) h := by
  unfold f_Ta_clear at hf
  refine MT.intro (pn_Ta rfl) [(0, .ref 33)] rfl (Nat.le_of_ble_eq_true rfl) ?_
  generalize hZ : mm_Z V _ = Z0
  refine MM.aload_n (i := 0) rfl rfl d_Ta_clear_0 rfl ?_
  refine MM.iconst ic_0 d_Ta_clear_1 rfl ?_
  obtain ⟨h1, e2, hf⟩ := mm_letE hf
  refine MM.putI e2 6 tg_33 lays_6 toks_6 pq_6_1 ww_152 d_Ta_clear_2 rfl ?_
  obtain rfl := Option.some.inj hf
  subst hZ
  exact MM.vret rfl d_Ta_clear_5 ⟨rfl, rfl⟩
theorem d_JA_fill_AJJV_0 : decode cJ7_fill_d0a16 0 = .ok (.iconst 0, 1) := by decide +kernel
theorem d_JA_fill_AJJV_1 : decode cJ7_fill_d0a16 1 = .ok (.istore_n 3, 1) := by decide +kernel
theorem d_JA_fill_AJJV_2 : decode cJ7_fill_d0a16 2 = .ok (.aload_n 0, 1) := by decide +kernel
theorem d_JA_fill_AJJV_3 : decode cJ7_fill_d0a16 3 = .ok (.arraylength, 1) := by decide +kernel
theorem d_JA_fill_AJJV_4 : decode cJ7_fill_d0a16 4 = .ok (.istore 4, 2) := by decide +kernel
theorem d_JA_fill_AJJV_6 : decode cJ7_fill_d0a16 6 = .ok (.iload_n 3, 1) := by decide +kernel
theorem d_JA_fill_AJJV_7 : decode cJ7_fill_d0a16 7 = .ok (.iload 4, 2) := by decide +kernel
theorem d_JA_fill_AJJV_9 : decode cJ7_fill_d0a16 9 = .ok (.if_icmp .ge 13, 3) := by decide +kernel
theorem d_JA_fill_AJJV_12 : decode cJ7_fill_d0a16 12 = .ok (.aload_n 0, 1) := by decide +kernel
theorem d_JA_fill_AJJV_13 : decode cJ7_fill_d0a16 13 = .ok (.iload_n 3, 1) := by decide +kernel
theorem d_JA_fill_AJJV_14 : decode cJ7_fill_d0a16 14 = .ok (.lload_n 1, 1) := by decide +kernel
theorem d_JA_fill_AJJV_15 : decode cJ7_fill_d0a16 15 = .ok (.lastore, 1) := by decide +kernel
theorem d_JA_fill_AJJV_16 : decode cJ7_fill_d0a16 16 = .ok (.iinc 3 1, 3) := by decide +kernel
theorem d_JA_fill_AJJV_19 : decode cJ7_fill_d0a16 19 = .ok (.goto (-13), 3) := by decide +kernel
theorem d_JA_fill_AJJV_22 : decode cJ7_fill_d0a16 22 = .ok (.return_, 1) := by decide +kernel
noncomputable def f_JA_fill_AJJV (a0 : Nat) (x1 : Int64) (h : mm_H) : Option mm_H := if mm_tg a0 = 21 then (mm_let (Int32.ofNat (mm_ln a0)) fun y1 => (mm_while (σ := (Int32 × mm_H)) (ρ := mm_H) (fun s3 => if y1 ≤ s3.1 then (some (Sum.inr s3.2)) else ((mm_ix s3.1 (mm_ln a0)).bind fun k9 => mm_let (mm_pL s3.2 a0 k9 x1) fun h11 => mm_let (s3.1 + 1) fun y13 => some (Sum.inl (y13, h11)))) (0, h)).bind fun v6 => some v6) else none
theorem T_JA_fill_AJJV (V : mm_V) (l : Launch) (a0 : Nat) (x1 : Int64) (h : mm_H) (r : mm_H) (hf : f_JA_fill_AJJV a0 x1 h = some r) : MT V l Y_JA_fill_AJJV 1 [.ref a0, .long x1] (fun r1 h1 => r1 = none ∧ h1 = r) h := by
  unfold f_JA_fill_AJJV at hf
  obtain ⟨t_a0, hf⟩ := mm_chkE hf
  refine MT.intro (pn_JA rfl) [(0, .ref a0), (1, .long x1)] rfl (Nat.le_of_ble_eq_true rfl) ?_
  generalize hZ : mm_Z V _ = Z0
  refine MM.iconst ic_0 d_JA_fill_AJJV_0 rfl ?_
  refine MM.istore_n (i := 3) (lv' := [(3, .int 0), (0, .ref a0), (1, .long x1)]) rfl rfl (Nat.le_of_ble_eq_true rfl) rfl d_JA_fill_AJJV_1 rfl ?_
  refine MM.aload_n (i := 0) rfl rfl d_JA_fill_AJJV_2 rfl ?_
  refine MM.alenN ⟨t_a0, rfl⟩ (by decide) rfl d_JA_fill_AJJV_3 rfl ?_
  obtain ⟨y1, e2, hf⟩ := mm_letE hf
  refine MM.istore (lv' := [(4, .int y1), (3, .int 0), (0, .ref a0), (1, .long x1)]) e2 (Nat.le_of_ble_eq_true rfl) rfl d_JA_fill_AJJV_4 rfl ?_
  obtain ⟨v6, e8, hf⟩ := mm_bind hf
  have K7 : MM V l Y_JA_fill_AJJV 1 0 0 Z0 22 [] [] v6 := by
    obtain rfl := Option.some.inj hf
    subst hZ
    exact MM.vret rfl d_JA_fill_AJJV_22 ⟨rfl, rfl⟩
  clear hf
  refine MM.sub [2, 3, 1, 0] (by rfl) (mm_while_ind (fun s3 => MM V l Y_JA_fill_AJJV 1 0 0 Z0 6 [(0, .ref a0), (1, .long x1), (3, .int s3.1), (4, .int y1)] [] s3.2) e8 (fun s3 q4 hf hx5 => ?_))
  refine MM.iload_n (i := 3) rfl rfl d_JA_fill_AJJV_6 rfl ?_
  refine MM.iload rfl d_JA_fill_AJJV_7 rfl ?_
  obtain ⟨m16, m17⟩ := mm_ifE hf
  refine MM.icmp_ge (tgt := 22) d_JA_fill_AJJV_9 rfl rfl (fun c15 => ?_) (fun c15 => ?_)
  · replace hf := m16 c15
    obtain rfl := Option.some.inj hf
    obtain rfl := Option.some.inj (mm_wxR hx5)
    exact MM.sub [] (by rfl) K7
  · replace hf := m17 c15
    refine MM.aload_n (i := 0) rfl rfl d_JA_fill_AJJV_12 rfl ?_
    refine MM.iload_n (i := 3) rfl rfl d_JA_fill_AJJV_13 rfl ?_
    refine MM.lload_n (i := 1) rfl rfl d_JA_fill_AJJV_14 rfl ?_
    obtain ⟨k9, e10, hf⟩ := mm_bind hf
    obtain ⟨h11, e12, hf⟩ := mm_letE hf
    refine MM.sL e10 e12 ⟨t_a0, rfl⟩ d_JA_fill_AJJV_15 rfl ?_
    obtain ⟨y13, e14, hf⟩ := mm_letE hf
    refine MM.iinc (k0 := 2) (lv' := [(3, .int y13), (0, .ref a0), (1, .long x1), (4, .int y1)]) (by rw [ic_1]; exact e14) rfl (Nat.le_of_ble_eq_true rfl) rfl d_JA_fill_AJJV_16 rfl ?_
    refine MM.goto (tgt := 6) d_JA_fill_AJJV_19 rfl ?_
    obtain rfl := Option.some.inj hf
    have h9 := mm_wxL hx5
    exact MM.sub [1, 2, 0, 3] (by rfl) h9
theorem d_St_begin_0 : decode cX5_begin 0 = .ok (.aload_n 1, 1) := by decide +kernel
theorem d_St_begin_1 : decode cX5_begin 1 = .ok (.getfield 44, 3) := by decide +kernel
theorem d_St_begin_4 : decode cX5_begin 4 = .ok (.iconst 0, 1) := by decide +kernel
theorem d_St_begin_5 : decode cX5_begin 5 = .ok (.aload_n 0, 1) := by decide +kernel
theorem d_St_begin_6 : decode cX5_begin 6 = .ok (.getfield 9, 3) := by decide +kernel
theorem d_St_begin_9 : decode cX5_begin 9 = .ok (.iconst 0, 1) := by decide +kernel
theorem d_St_begin_10 : decode cX5_begin 10 = .ok (.bipush 10, 2) := by decide +kernel
theorem d_St_begin_12 : decode cX5_begin 12 = .ok (.invokestatic 49, 3) := by decide +kernel
theorem d_St_begin_15 : decode cX5_begin 15 = .ok (.aload_n 1, 1) := by decide +kernel
theorem d_St_begin_16 : decode cX5_begin 16 = .ok (.getfield 55, 3) := by decide +kernel
theorem d_St_begin_19 : decode cX5_begin 19 = .ok (.iconst 0, 1) := by decide +kernel
theorem d_St_begin_20 : decode cX5_begin 20 = .ok (.aload_n 0, 1) := by decide +kernel
theorem d_St_begin_21 : decode cX5_begin 21 = .ok (.getfield 19, 3) := by decide +kernel
theorem d_St_begin_24 : decode cX5_begin 24 = .ok (.iconst 0, 1) := by decide +kernel
theorem d_St_begin_25 : decode cX5_begin 25 = .ok (.bipush 6, 2) := by decide +kernel
theorem d_St_begin_27 : decode cX5_begin 27 = .ok (.invokestatic 49, 3) := by decide +kernel
theorem d_St_begin_30 : decode cX5_begin 30 = .ok (.aload_n 0, 1) := by decide +kernel
theorem d_St_begin_31 : decode cX5_begin 31 = .ok (.getfield 15, 3) := by decide +kernel
theorem d_St_begin_34 : decode cX5_begin 34 = .ok (.lconst 0, 1) := by decide +kernel
theorem d_St_begin_35 : decode cX5_begin 35 = .ok (.invokestatic 56, 3) := by decide +kernel
theorem d_St_begin_38 : decode cX5_begin 38 = .ok (.aload_n 0, 1) := by decide +kernel
theorem d_St_begin_39 : decode cX5_begin 39 = .ok (.getfield 22, 3) := by decide +kernel
theorem d_St_begin_42 : decode cX5_begin 42 = .ok (.iconst 0, 1) := by decide +kernel
theorem d_St_begin_43 : decode cX5_begin 43 = .ok (.invokestatic 62, 3) := by decide +kernel
theorem d_St_begin_46 : decode cX5_begin 46 = .ok (.aload_n 0, 1) := by decide +kernel
theorem d_St_begin_47 : decode cX5_begin 47 = .ok (.getfield 25, 3) := by decide +kernel
theorem d_St_begin_50 : decode cX5_begin 50 = .ok (.iconst 0, 1) := by decide +kernel
theorem d_St_begin_51 : decode cX5_begin 51 = .ok (.invokestatic 62, 3) := by decide +kernel
theorem d_St_begin_54 : decode cX5_begin 54 = .ok (.aload_n 0, 1) := by decide +kernel
theorem d_St_begin_55 : decode cX5_begin 55 = .ok (.iconst 0, 1) := by decide +kernel
theorem d_St_begin_56 : decode cX5_begin 56 = .ok (.putfield 28, 3) := by decide +kernel
theorem d_St_begin_59 : decode cX5_begin 59 = .ok (.aload_n 0, 1) := by decide +kernel
theorem d_St_begin_60 : decode cX5_begin 60 = .ok (.iconst 0, 1) := by decide +kernel
theorem d_St_begin_61 : decode cX5_begin 61 = .ok (.putfield 32, 3) := by decide +kernel
theorem d_St_begin_64 : decode cX5_begin 64 = .ok (.aload_n 0, 1) := by decide +kernel
theorem d_St_begin_65 : decode cX5_begin 65 = .ok (.iconst 0, 1) := by decide +kernel
theorem d_St_begin_66 : decode cX5_begin 66 = .ok (.putfield 35, 3) := by decide +kernel
theorem d_St_begin_69 : decode cX5_begin 69 = .ok (.aload_n 0, 1) := by decide +kernel
theorem d_St_begin_70 : decode cX5_begin 70 = .ok (.iconst 0, 1) := by decide +kernel
theorem d_St_begin_71 : decode cX5_begin 71 = .ok (.putfield 38, 3) := by decide +kernel
theorem d_St_begin_74 : decode cX5_begin 74 = .ok (.aload_n 0, 1) := by decide +kernel
theorem d_St_begin_75 : decode cX5_begin 75 = .ok (.iconst 0, 1) := by decide +kernel
theorem d_St_begin_76 : decode cX5_begin 76 = .ok (.putfield 41, 3) := by decide +kernel
theorem d_St_begin_79 : decode cX5_begin 79 = .ok (.return_, 1) := by decide +kernel
noncomputable def f_St_begin (a0 : Nat) (a1 : Nat) (h : mm_H) : Option mm_H := if mm_tg a0 = 4 ∧ mm_tg a1 = 7 then (mm_let (mm_cpI h (a1 + 9) (a0 + 1) 10) fun h1 => mm_let (mm_cpI h1 (a1 + 3) (a0 + 3) 6) fun h3 => (f_JA_fill_AJJV (a0 + 2) (0 : Int64) h3).bind fun v6 => (f_JA_fill_AIIV (a0 + 4) 0 v6).bind fun v8 => (f_JA_fill_AIIV (a0 + 5) 0 v8).bind fun v10 => mm_let (mm_pI v10 a0 5 0) fun h11 => mm_let (mm_pI h11 a0 6 0) fun h13 => mm_let (mm_pI h13 a0 7 0) fun h15 => mm_let (mm_pI h15 a0 8 0) fun h17 => mm_let (mm_pI h17 a0 9 0) fun h19 => some h19) else none
theorem T_St_begin (V : mm_V) (l : Launch) (a0 : Nat) (a1 : Nat) (h : mm_H) (r : mm_H) (hf : f_St_begin a0 a1 h = some r) : MT V l Y_St_begin 2 [.ref a0, .ref a1] (fun r1 h1 => r1 = none ∧ h1 = r) h := by
  unfold f_St_begin at hf
  obtain ⟨⟨t_a0, t_a1⟩, hf⟩ := mm_chkE hf
  refine MT.intro (pn_St rfl) [(0, .ref a0), (1, .ref a1)] rfl (Nat.le_of_ble_eq_true rfl) ?_
  generalize hZ : mm_Z V _ = Z0
  refine MM.aload_n (i := 1) rfl rfl d_St_begin_0 rfl ?_
  refine MM.gR 7 9 t_a1 rq_7_12 rfl lays_7 ww_409 d_St_begin_1 rfl ?_
  refine MM.iconst ic_0 d_St_begin_4 rfl ?_
  refine MM.aload_n (i := 0) rfl rfl d_St_begin_5 rfl ?_
  refine MM.gR 4 1 t_a0 rq_4_0 rfl lays_4 ww_201 d_St_begin_6 rfl ?_
  refine MM.iconst ic_0 d_St_begin_9 rfl ?_
  refine MM.bipush bp_10 d_St_begin_10 rfl ?_
  obtain ⟨h1, e2, hf⟩ := mm_letE hf
  refine MM.copyI (n := 10) e2 (al_7_12f t_a1) (al_4_0f t_a0) ww_826 ww_828 ww_827 ww_130 (by decide) (by decide) (by decide +kernel) (by decide) (by decide) d_St_begin_12 rfl ?_
  refine MM.aload_n (i := 1) rfl rfl d_St_begin_15 rfl ?_
  refine MM.gR 7 3 t_a1 rq_7_3 rfl lays_7 ww_376 d_St_begin_16 rfl ?_
  refine MM.iconst ic_0 d_St_begin_19 rfl ?_
  refine MM.aload_n (i := 0) rfl rfl d_St_begin_20 rfl ?_
  refine MM.gR 4 3 t_a0 rq_4_2 rfl lays_4 ww_204 d_St_begin_21 rfl ?_
  refine MM.iconst ic_0 d_St_begin_24 rfl ?_
  refine MM.bipush bp_6 d_St_begin_25 rfl ?_
  obtain ⟨h3, e4, hf⟩ := mm_letE hf
  refine MM.copyI (n := 6) e4 (al_7_3f t_a1) (al_4_2f t_a0) ww_826 ww_828 ww_827 ww_130 (by decide) (by decide) (by decide +kernel) (by decide) (by decide) d_St_begin_27 rfl ?_
  refine MM.aload_n (i := 0) rfl rfl d_St_begin_30 rfl ?_
  refine MM.gR 4 2 t_a0 rq_4_1 rfl lays_4 ww_203 d_St_begin_31 rfl ?_
  refine MM.lconst (v := 0) rfl d_St_begin_34 rfl ?_
  obtain ⟨v6, e5, hf⟩ := mm_bind hf
  refine MM.callS0 (T_JA_fill_AJJV V l (a0 + 2) (0 : Int64) h3 _ e5) (fun _ _ q => q) cal_JA_fill_AJJV rfl ww_830 ww_829 (by decide) (by simp [Value.category]) d_St_begin_35 rfl ⟨rfl, rfl⟩ rfl ?_
  refine MM.aload_n (i := 0) rfl rfl d_St_begin_38 rfl ?_
  refine MM.gR 4 4 t_a0 rq_4_3 rfl lays_4 ww_206 d_St_begin_39 rfl ?_
  refine MM.iconst ic_0 d_St_begin_42 rfl ?_
  obtain ⟨v8, e7, hf⟩ := mm_bind hf
  refine MM.callS0 (T_JA_fill_AIIV V l (a0 + 4) 0 v6 _ e7) (fun _ _ q => q) cal_JA_fill_AIIV rfl ww_553 ww_832 (by decide) (by simp [Value.category]) d_St_begin_43 rfl ⟨rfl, rfl⟩ rfl ?_
  refine MM.aload_n (i := 0) rfl rfl d_St_begin_46 rfl ?_
  refine MM.gR 4 5 t_a0 rq_4_4 rfl lays_4 ww_208 d_St_begin_47 rfl ?_
  refine MM.iconst ic_0 d_St_begin_50 rfl ?_
  obtain ⟨v10, e9, hf⟩ := mm_bind hf
  refine MM.callS0 (T_JA_fill_AIIV V l (a0 + 5) 0 v8 _ e9) (fun _ _ q => q) cal_JA_fill_AIIV rfl ww_553 ww_832 (by decide) (by simp [Value.category]) d_St_begin_51 rfl ⟨rfl, rfl⟩ rfl ?_
  refine MM.aload_n (i := 0) rfl rfl d_St_begin_54 rfl ?_
  refine MM.iconst ic_0 d_St_begin_55 rfl ?_
  obtain ⟨h11, e12, hf⟩ := mm_letE hf
  refine MM.putI e12 4 t_a0 lays_4 toks_4 pq_4_5 ww_211 d_St_begin_56 rfl ?_
  refine MM.aload_n (i := 0) rfl rfl d_St_begin_59 rfl ?_
  refine MM.iconst ic_0 d_St_begin_60 rfl ?_
  obtain ⟨h13, e14, hf⟩ := mm_letE hf
  refine MM.putI e14 4 t_a0 lays_4 toks_4 pq_4_6 ww_213 d_St_begin_61 rfl ?_
  refine MM.aload_n (i := 0) rfl rfl d_St_begin_64 rfl ?_
  refine MM.iconst ic_0 d_St_begin_65 rfl ?_
  obtain ⟨h15, e16, hf⟩ := mm_letE hf
  refine MM.putI e16 4 t_a0 lays_4 toks_4 pq_4_7 ww_215 d_St_begin_66 rfl ?_
  refine MM.aload_n (i := 0) rfl rfl d_St_begin_69 rfl ?_
  refine MM.iconst ic_0 d_St_begin_70 rfl ?_
  obtain ⟨h17, e18, hf⟩ := mm_letE hf
  refine MM.putI e18 4 t_a0 lays_4 toks_4 pq_4_8 ww_218 d_St_begin_71 rfl ?_
  refine MM.aload_n (i := 0) rfl rfl d_St_begin_74 rfl ?_
  refine MM.iconst ic_0 d_St_begin_75 rfl ?_
  obtain ⟨h19, e20, hf⟩ := mm_letE hf
  refine MM.putI e20 4 t_a0 lays_4 toks_4 pq_4_9 ww_220 d_St_begin_76 rfl ?_
  obtain rfl := Option.some.inj hf
  subst hZ
  exact MM.vret rfl d_St_begin_79 ⟨rfl, rfl⟩
theorem d_Tk_clear_0 : decode cX6_clear 0 = .ok (.aload_n 0, 1) := by decide +kernel
theorem d_Tk_clear_1 : decode cX6_clear 1 = .ok (.iconst 0, 1) := by decide +kernel
theorem d_Tk_clear_2 : decode cX6_clear 2 = .ok (.putfield 9, 3) := by decide +kernel
theorem d_Tk_clear_5 : decode cX6_clear 5 = .ok (.aload_n 0, 1) := by decide +kernel
theorem d_Tk_clear_6 : decode cX6_clear 6 = .ok (.iconst 0, 1) := by decide +kernel
theorem d_Tk_clear_7 : decode cX6_clear 7 = .ok (.putfield 28, 3) := by decide +kernel
theorem d_Tk_clear_10 : decode cX6_clear 10 = .ok (.return_, 1) := by decide +kernel
noncomputable def f_Tk_clear (a0 : Nat) (h : mm_H) : Option mm_H := if mm_tg a0 = 5 then (mm_let (mm_pI h a0 0 0) fun h1 => mm_let (mm_pI h1 a0 5 0) fun h3 => some h3) else none
theorem T_Tk_clear (V : mm_V) (l : Launch) (a0 : Nat) (h : mm_H) (r : mm_H) (hf : f_Tk_clear a0 h = some r) : MT V l Y_Tk_clear 1 [.ref a0] (fun r1 h1 => r1 = none ∧ h1 = r) h := by
  unfold f_Tk_clear at hf
  obtain ⟨t_a0, hf⟩ := mm_chkE hf
  refine MT.intro (pn_Tk rfl) [(0, .ref a0)] rfl (Nat.le_of_ble_eq_true rfl) ?_
  generalize hZ : mm_Z V _ = Z0
  refine MM.aload_n (i := 0) rfl rfl d_Tk_clear_0 rfl ?_
  refine MM.iconst ic_0 d_Tk_clear_1 rfl ?_
  obtain ⟨h1, e2, hf⟩ := mm_letE hf
  refine MM.putI e2 5 t_a0 lays_5 toks_5 pq_5_0 ww_251 d_Tk_clear_2 rfl ?_
  refine MM.aload_n (i := 0) rfl rfl d_Tk_clear_5 rfl ?_
  refine MM.iconst ic_0 d_Tk_clear_6 rfl ?_
  obtain ⟨h3, e4, hf⟩ := mm_letE hf
  refine MM.putI e4 5 t_a0 lays_5 toks_5 pq_5_5 ww_262 d_Tk_clear_7 rfl ?_
  obtain rfl := Option.some.inj hf
  subst hZ
  exact MM.vret rfl d_Tk_clear_10 ⟨rfl, rfl⟩
theorem d_X_town_0 : decode cX11_town 0 = .ok (.aload_n 0, 1) := by decide +kernel
theorem d_X_town_1 : decode cX11_town 1 = .ok (.getfield 12, 3) := by decide +kernel
theorem d_X_town_4 : decode cX11_town 4 = .ok (.aload_n 0, 1) := by decide +kernel
theorem d_X_town_5 : decode cX11_town 5 = .ok (.getfield 85, 3) := by decide +kernel
theorem d_X_town_8 : decode cX11_town 8 = .ok (.invokestatic 109, 3) := by decide +kernel
theorem d_X_town_11 : decode cX11_town 11 = .ok (.istore_n 1, 1) := by decide +kernel
theorem d_X_town_12 : decode cX11_town 12 = .ok (.aload_n 0, 1) := by decide +kernel
theorem d_X_town_13 : decode cX11_town 13 = .ok (.getfield 12, 3) := by decide +kernel
theorem d_X_town_16 : decode cX11_town 16 = .ok (.invokevirtual 115, 3) := by decide +kernel
theorem d_X_town_19 : decode cX11_town 19 = .ok (.iload_n 1, 1) := by decide +kernel
theorem d_X_town_20 : decode cX11_town 20 = .ok (.ifCond .eq 5, 3) := by decide +kernel
theorem d_X_town_23 : decode cX11_town 23 = .ok (.iload_n 1, 1) := by decide +kernel
theorem d_X_town_24 : decode cX11_town 24 = .ok (.ireturn, 1) := by decide +kernel
theorem d_X_town_25 : decode cX11_town 25 = .ok (.aload_n 0, 1) := by decide +kernel
theorem d_X_town_26 : decode cX11_town 26 = .ok (.getfield 85, 3) := by decide +kernel
theorem d_X_town_29 : decode cX11_town 29 = .ok (.astore_n 2, 1) := by decide +kernel
theorem d_X_town_30 : decode cX11_town 30 = .ok (.aload_n 0, 1) := by decide +kernel
theorem d_X_town_31 : decode cX11_town 31 = .ok (.aload_n 0, 1) := by decide +kernel
theorem d_X_town_32 : decode cX11_town 32 = .ok (.getfield 81, 3) := by decide +kernel
theorem d_X_town_35 : decode cX11_town 35 = .ok (.putfield 85, 3) := by decide +kernel
theorem d_X_town_38 : decode cX11_town 38 = .ok (.aload_n 0, 1) := by decide +kernel
theorem d_X_town_39 : decode cX11_town 39 = .ok (.aload_n 2, 1) := by decide +kernel
theorem d_X_town_40 : decode cX11_town 40 = .ok (.putfield 81, 3) := by decide +kernel
theorem d_X_town_43 : decode cX11_town 43 = .ok (.aload_n 0, 1) := by decide +kernel
theorem d_X_town_44 : decode cX11_town 44 = .ok (.getfield 19, 3) := by decide +kernel
theorem d_X_town_47 : decode cX11_town 47 = .ok (.aload_n 0, 1) := by decide +kernel
theorem d_X_town_48 : decode cX11_town 48 = .ok (.getfield 81, 3) := by decide +kernel
theorem d_X_town_51 : decode cX11_town 51 = .ok (.invokevirtual 118, 3) := by decide +kernel
theorem d_X_town_54 : decode cX11_town 54 = .ok (.aload_n 0, 1) := by decide +kernel
theorem d_X_town_55 : decode cX11_town 55 = .ok (.getfield 29, 3) := by decide +kernel
theorem d_X_town_58 : decode cX11_town 58 = .ok (.invokevirtual 122, 3) := by decide +kernel
theorem d_X_town_61 : decode cX11_town 61 = .ok (.aload_n 0, 1) := by decide +kernel
theorem d_X_town_62 : decode cX11_town 62 = .ok (.iconst 0, 1) := by decide +kernel
theorem d_X_town_63 : decode cX11_town 63 = .ok (.putfield 95, 3) := by decide +kernel
theorem d_X_town_66 : decode cX11_town 66 = .ok (.aload_n 0, 1) := by decide +kernel
theorem d_X_town_67 : decode cX11_town 67 = .ok (.iconst 0, 1) := by decide +kernel
theorem d_X_town_68 : decode cX11_town 68 = .ok (.putfield 88, 3) := by decide +kernel
theorem d_X_town_71 : decode cX11_town 71 = .ok (.iconst 0, 1) := by decide +kernel
theorem d_X_town_72 : decode cX11_town 72 = .ok (.ireturn, 1) := by decide +kernel
noncomputable def f_X_town (h : mm_H) : Option (Int32 × mm_H) := (mm_gT h 15).bind fun t1 => (f_Tr_readTown t1 h).bind fun v4 => (f_Ta_clear v4.2).bind fun v6 => if v4.1 = 0 then ((mm_gT v6 15).bind fun t7 => (mm_gT v6 14).bind fun t9 => mm_let (mm_pR v6 32 15 (some t9)) fun h11 => mm_let (mm_pR h11 32 14 (some t7)) fun h13 => (mm_gT h13 14).bind fun t15 => (f_St_begin 35 t15 h13).bind fun v18 => (f_Tk_clear 47 v18).bind fun v20 => mm_let (mm_pI v20 32 18 0) fun h21 => mm_let (mm_pI h21 32 16 0) fun h23 => some (0, h23)) else (some (v4.1, v6))
theorem T_X_town (V : mm_V) (l : Launch) (h : mm_H) (r : (Int32 × mm_H)) (hf : f_X_town h = some r) : MT V l Y_X_town 55 [.ref 32] (fun r1 h1 => r1 = some (.int r.1) ∧ h1 = r.2) h := by
  unfold f_X_town at hf
  refine MT.intro (pn_X rfl) [(0, .ref 32)] rfl (Nat.le_of_ble_eq_true rfl) ?_
  generalize hZ : mm_Z V _ = Z0
  refine MM.aload_n (i := 0) rfl rfl d_X_town_0 rfl ?_
  refine MM.gR 8 1 tg_32 rq_8_0 rfl lays_8 ww_472 d_X_town_1 rfl ?_
  refine MM.aload_n (i := 0) rfl rfl d_X_town_4 rfl ?_
  obtain ⟨t1, e2, hf⟩ := mm_bind hf
  obtain ⟨e2, t_t1⟩ := mm_gTE e2
  refine MM.gT e2 tg_32 tq_15 lays_8 ww_487 d_X_town_5 rfl ?_
  obtain ⟨v4, e3, hf⟩ := mm_bind hf
  refine MM.callS1 (T_Tr_readTown V l t1 h _ e3) (fun _ _ q => q) cal_Tr_readTown rfl ww_546 ww_545 (by decide) (by simp [Value.category]) d_X_town_8 rfl ⟨rfl, rfl⟩ rfl ?_
  refine MM.istore_n (i := 1) (lv' := [(1, .int v4.1), (0, .ref 32)]) rfl rfl (Nat.le_of_ble_eq_true rfl) rfl d_X_town_11 rfl ?_
  refine MM.aload_n (i := 0) rfl rfl d_X_town_12 rfl ?_
  refine MM.gR 8 1 tg_32 rq_8_0 rfl lays_8 ww_472 d_X_town_13 rfl ?_
  obtain ⟨v6, e5, hf⟩ := mm_bind hf
  refine MM.callV0 (T_Ta_clear V l  v4.2 _ e5) (fun _ _ q => q) cal_Ta_clear rfl tg_33 ct_6 ww_820 ww_819 ww_818 (by decide) (by simp [Value.category]) d_X_town_16 rfl ⟨rfl, rfl⟩ rfl ?_
  refine MM.iload_n (i := 1) rfl rfl d_X_town_19 rfl ?_
  obtain ⟨m26, m27⟩ := mm_ifE hf
  refine MM.if_eq (tgt := 25) d_X_town_20 rfl rfl (fun c25 => ?_) (fun c25 => ?_)
  · replace hf := m26 c25
    refine MM.aload_n (i := 0) rfl rfl d_X_town_25 rfl ?_
    obtain ⟨t7, e8, hf⟩ := mm_bind hf
    obtain ⟨e8, t_t7⟩ := mm_gTE e8
    refine MM.gT e8 tg_32 tq_15 lays_8 ww_487 d_X_town_26 rfl ?_
    refine MM.astore_n (i := 2) (lv' := [(2, .ref t7), (1, .int v4.1), (0, .ref 32)]) rfl rfl (Nat.le_of_ble_eq_true rfl) rfl d_X_town_29 rfl ?_
    refine MM.aload_n (i := 0) rfl rfl d_X_town_30 rfl ?_
    refine MM.aload_n (i := 0) rfl rfl d_X_town_31 rfl ?_
    obtain ⟨t9, e10, hf⟩ := mm_bind hf
    obtain ⟨e10, t_t9⟩ := mm_gTE e10
    refine MM.gT e10 tg_32 tq_14 lays_8 ww_486 d_X_town_32 rfl ?_
    obtain ⟨h11, e12, hf⟩ := mm_letE hf
    refine MM.putR e12 8 tg_32 lays_8 toks_8 pq_8_15 ww_487 d_X_town_35 rfl ?_
    refine MM.aload_n (i := 0) rfl rfl d_X_town_38 rfl ?_
    refine MM.aload_n (i := 2) rfl rfl d_X_town_39 rfl ?_
    obtain ⟨h13, e14, hf⟩ := mm_letE hf
    refine MM.putR e14 8 tg_32 lays_8 toks_8 pq_8_14 ww_486 d_X_town_40 rfl ?_
    refine MM.aload_n (i := 0) rfl rfl d_X_town_43 rfl ?_
    refine MM.gR 8 3 tg_32 rq_8_1 rfl lays_8 ww_473 d_X_town_44 rfl ?_
    refine MM.aload_n (i := 0) rfl rfl d_X_town_47 rfl ?_
    obtain ⟨t15, e16, hf⟩ := mm_bind hf
    obtain ⟨e16, t_t15⟩ := mm_gTE e16
    refine MM.gT e16 tg_32 tq_14 lays_8 ww_486 d_X_town_48 rfl ?_
    obtain ⟨v18, e17, hf⟩ := mm_bind hf
    refine MM.callV0 (T_St_begin V l 35 t15 h13 _ e17) (fun _ _ q => q) cal_St_begin rfl tg_35 ct_4 ww_824 ww_823 ww_822 (by decide) (by simp [Value.category]) d_X_town_51 rfl ⟨rfl, rfl⟩ rfl ?_
    refine MM.aload_n (i := 0) rfl rfl d_X_town_54 rfl ?_
    refine MM.gR 8 15 tg_32 rq_8_3 rfl lays_8 ww_475 d_X_town_55 rfl ?_
    obtain ⟨v20, e19, hf⟩ := mm_bind hf
    refine MM.callV0 (T_Tk_clear V l 47 v18 _ e19) (fun _ _ q => q) cal_Tk_clear rfl tg_47 ct_5 ww_835 ww_834 ww_833 (by decide) (by simp [Value.category]) d_X_town_58 rfl ⟨rfl, rfl⟩ rfl ?_
    refine MM.aload_n (i := 0) rfl rfl d_X_town_61 rfl ?_
    refine MM.iconst ic_0 d_X_town_62 rfl ?_
    obtain ⟨h21, e22, hf⟩ := mm_letE hf
    refine MM.putI e22 8 tg_32 lays_8 toks_8 pq_8_18 ww_490 d_X_town_63 rfl ?_
    refine MM.aload_n (i := 0) rfl rfl d_X_town_66 rfl ?_
    refine MM.iconst ic_0 d_X_town_67 rfl ?_
    obtain ⟨h23, e24, hf⟩ := mm_letE hf
    refine MM.putI e24 8 tg_32 lays_8 toks_8 pq_8_16 ww_488 d_X_town_68 rfl ?_
    refine MM.iconst ic_0 d_X_town_71 rfl ?_
    obtain rfl := Option.some.inj hf
    subst hZ
    exact MM.iret rfl d_X_town_72 ⟨rfl, rfl⟩
  · replace hf := m27 c25
    refine MM.iload_n (i := 1) rfl rfl d_X_town_23 rfl ?_
    obtain rfl := Option.some.inj hf
    subst hZ
    exact MM.iret rfl d_X_town_24 ⟨rfl, rfl⟩
theorem d_Tk_addLine_0 : decode cX6_addLine 0 = .ok (.aload_n 0, 1) := by decide +kernel
theorem d_Tk_addLine_1 : decode cX6_addLine 1 = .ok (.getfield 9, 3) := by decide +kernel
theorem d_Tk_addLine_4 : decode cX6_addLine 4 = .ok (.bipush 30, 2) := by decide +kernel
theorem d_Tk_addLine_6 : decode cX6_addLine 6 = .ok (.if_icmp .ge 54, 3) := by decide +kernel
theorem d_Tk_addLine_9 : decode cX6_addLine 9 = .ok (.aload_n 0, 1) := by decide +kernel
theorem d_Tk_addLine_10 : decode cX6_addLine 10 = .ok (.getfield 15, 3) := by decide +kernel
theorem d_Tk_addLine_13 : decode cX6_addLine 13 = .ok (.aload_n 0, 1) := by decide +kernel
theorem d_Tk_addLine_14 : decode cX6_addLine 14 = .ok (.getfield 9, 3) := by decide +kernel
theorem d_Tk_addLine_17 : decode cX6_addLine 17 = .ok (.iload_n 1, 1) := by decide +kernel
theorem d_Tk_addLine_18 : decode cX6_addLine 18 = .ok (.iastore, 1) := by decide +kernel
theorem d_Tk_addLine_19 : decode cX6_addLine 19 = .ok (.aload_n 0, 1) := by decide +kernel
theorem d_Tk_addLine_20 : decode cX6_addLine 20 = .ok (.getfield 19, 3) := by decide +kernel
theorem d_Tk_addLine_23 : decode cX6_addLine 23 = .ok (.aload_n 0, 1) := by decide +kernel
theorem d_Tk_addLine_24 : decode cX6_addLine 24 = .ok (.getfield 9, 3) := by decide +kernel
theorem d_Tk_addLine_27 : decode cX6_addLine 27 = .ok (.iload_n 2, 1) := by decide +kernel
theorem d_Tk_addLine_28 : decode cX6_addLine 28 = .ok (.iastore, 1) := by decide +kernel
theorem d_Tk_addLine_29 : decode cX6_addLine 29 = .ok (.aload_n 0, 1) := by decide +kernel
theorem d_Tk_addLine_30 : decode cX6_addLine 30 = .ok (.getfield 22, 3) := by decide +kernel
theorem d_Tk_addLine_33 : decode cX6_addLine 33 = .ok (.aload_n 0, 1) := by decide +kernel
theorem d_Tk_addLine_34 : decode cX6_addLine 34 = .ok (.getfield 9, 3) := by decide +kernel
theorem d_Tk_addLine_37 : decode cX6_addLine 37 = .ok (.iload_n 3, 1) := by decide +kernel
theorem d_Tk_addLine_38 : decode cX6_addLine 38 = .ok (.iastore, 1) := by decide +kernel
theorem d_Tk_addLine_39 : decode cX6_addLine 39 = .ok (.aload_n 0, 1) := by decide +kernel
theorem d_Tk_addLine_40 : decode cX6_addLine 40 = .ok (.getfield 25, 3) := by decide +kernel
theorem d_Tk_addLine_43 : decode cX6_addLine 43 = .ok (.aload_n 0, 1) := by decide +kernel
theorem d_Tk_addLine_44 : decode cX6_addLine 44 = .ok (.getfield 9, 3) := by decide +kernel
theorem d_Tk_addLine_47 : decode cX6_addLine 47 = .ok (.iload 4, 2) := by decide +kernel
theorem d_Tk_addLine_49 : decode cX6_addLine 49 = .ok (.iastore, 1) := by decide +kernel
theorem d_Tk_addLine_50 : decode cX6_addLine 50 = .ok (.aload_n 0, 1) := by decide +kernel
theorem d_Tk_addLine_51 : decode cX6_addLine 51 = .ok (.dup, 1) := by decide +kernel
theorem d_Tk_addLine_52 : decode cX6_addLine 52 = .ok (.getfield 9, 3) := by decide +kernel
theorem d_Tk_addLine_55 : decode cX6_addLine 55 = .ok (.iconst 1, 1) := by decide +kernel
theorem d_Tk_addLine_56 : decode cX6_addLine 56 = .ok (.iadd, 1) := by decide +kernel
theorem d_Tk_addLine_57 : decode cX6_addLine 57 = .ok (.putfield 9, 3) := by decide +kernel
theorem d_Tk_addLine_60 : decode cX6_addLine 60 = .ok (.return_, 1) := by decide +kernel
noncomputable def f_Tk_addLine (a0 : Nat) (x1 : Int32) (x2 : Int32) (x3 : Int32) (x4 : Int32) (h : mm_H) : Option mm_H := if mm_tg a0 = 5 then (if 30 ≤ (h.1 a0 0) then (some h) else ((mm_ix (h.1 a0 0) 30).bind fun k1 => mm_let (mm_pI h (a0 + 1) k1 x1) fun h3 => (mm_ix (h3.1 a0 0) 30).bind fun k5 => mm_let (mm_pI h3 (a0 + 2) k5 x2) fun h7 => (mm_ix (h7.1 a0 0) 30).bind fun k9 => mm_let (mm_pI h7 (a0 + 3) k9 x3) fun h11 => (mm_ix (h11.1 a0 0) 30).bind fun k13 => mm_let (mm_pI h11 (a0 + 4) k13 x4) fun h15 => mm_let (mm_pI h15 a0 0 ((h15.1 a0 0) + 1)) fun h17 => some h17)) else none
theorem T_Tk_addLine (V : mm_V) (l : Launch) (a0 : Nat) (x1 : Int32) (x2 : Int32) (x3 : Int32) (x4 : Int32) (h : mm_H) (r : mm_H) (hf : f_Tk_addLine a0 x1 x2 x3 x4 h = some r) : MT V l Y_Tk_addLine 1 [.ref a0, .int x1, .int x2, .int x3, .int x4] (fun r1 h1 => r1 = none ∧ h1 = r) h := by
  unfold f_Tk_addLine at hf
  obtain ⟨t_a0, hf⟩ := mm_chkE hf
  refine MT.intro (pn_Tk rfl) [(0, .ref a0), (1, .int x1), (2, .int x2), (3, .int x3), (4, .int x4)] rfl (Nat.le_of_ble_eq_true rfl) ?_
  generalize hZ : mm_Z V _ = Z0
  refine MM.aload_n (i := 0) rfl rfl d_Tk_addLine_0 rfl ?_
  refine MM.getI 5 t_a0 lays_5 gq_5_0 ww_251 d_Tk_addLine_1 rfl ?_
  refine MM.bipush bp_30 d_Tk_addLine_4 rfl ?_
  obtain ⟨m20, m21⟩ := mm_ifE hf
  refine MM.icmp_ge (tgt := 60) d_Tk_addLine_6 rfl rfl (fun c19 => ?_) (fun c19 => ?_)
  · replace hf := m20 c19
    obtain rfl := Option.some.inj hf
    subst hZ
    exact MM.vret rfl d_Tk_addLine_60 ⟨rfl, rfl⟩
  · replace hf := m21 c19
    refine MM.aload_n (i := 0) rfl rfl d_Tk_addLine_9 rfl ?_
    refine MM.gR 5 1 t_a0 rq_5_1 rfl lays_5 ww_254 d_Tk_addLine_10 rfl ?_
    refine MM.aload_n (i := 0) rfl rfl d_Tk_addLine_13 rfl ?_
    refine MM.getI 5 t_a0 lays_5 gq_5_0 ww_251 d_Tk_addLine_14 rfl ?_
    refine MM.iload_n (i := 1) rfl rfl d_Tk_addLine_17 rfl ?_
    obtain ⟨k1, e2, hf⟩ := mm_bind hf
    obtain ⟨h3, e4, hf⟩ := mm_letE hf
    refine MM.sI e2 e4 (al_5_1f t_a0) d_Tk_addLine_18 rfl ?_
    refine MM.aload_n (i := 0) rfl rfl d_Tk_addLine_19 rfl ?_
    refine MM.gR 5 2 t_a0 rq_5_2 rfl lays_5 ww_256 d_Tk_addLine_20 rfl ?_
    refine MM.aload_n (i := 0) rfl rfl d_Tk_addLine_23 rfl ?_
    refine MM.getI 5 t_a0 lays_5 gq_5_0 ww_251 d_Tk_addLine_24 rfl ?_
    refine MM.iload_n (i := 2) rfl rfl d_Tk_addLine_27 rfl ?_
    obtain ⟨k5, e6, hf⟩ := mm_bind hf
    obtain ⟨h7, e8, hf⟩ := mm_letE hf
    refine MM.sI e6 e8 (al_5_2f t_a0) d_Tk_addLine_28 rfl ?_
    refine MM.aload_n (i := 0) rfl rfl d_Tk_addLine_29 rfl ?_
    refine MM.gR 5 3 t_a0 rq_5_3 rfl lays_5 ww_258 d_Tk_addLine_30 rfl ?_
    refine MM.aload_n (i := 0) rfl rfl d_Tk_addLine_33 rfl ?_
    refine MM.getI 5 t_a0 lays_5 gq_5_0 ww_251 d_Tk_addLine_34 rfl ?_
    refine MM.iload_n (i := 3) rfl rfl d_Tk_addLine_37 rfl ?_
    obtain ⟨k9, e10, hf⟩ := mm_bind hf
    obtain ⟨h11, e12, hf⟩ := mm_letE hf
    refine MM.sI e10 e12 (al_5_3f t_a0) d_Tk_addLine_38 rfl ?_
    refine MM.aload_n (i := 0) rfl rfl d_Tk_addLine_39 rfl ?_
    refine MM.gR 5 4 t_a0 rq_5_4 rfl lays_5 ww_260 d_Tk_addLine_40 rfl ?_
    refine MM.aload_n (i := 0) rfl rfl d_Tk_addLine_43 rfl ?_
    refine MM.getI 5 t_a0 lays_5 gq_5_0 ww_251 d_Tk_addLine_44 rfl ?_
    refine MM.iload rfl d_Tk_addLine_47 rfl ?_
    obtain ⟨k13, e14, hf⟩ := mm_bind hf
    obtain ⟨h15, e16, hf⟩ := mm_letE hf
    refine MM.sI e14 e16 (al_5_4f t_a0) d_Tk_addLine_49 rfl ?_
    refine MM.aload_n (i := 0) rfl rfl d_Tk_addLine_50 rfl ?_
    refine MM.dup rfl d_Tk_addLine_51 rfl ?_
    refine MM.getI 5 t_a0 lays_5 gq_5_0 ww_251 d_Tk_addLine_52 rfl ?_
    refine MM.iconst ic_1 d_Tk_addLine_55 rfl ?_
    refine MM.iadd d_Tk_addLine_56 rfl ?_
    obtain ⟨h17, e18, hf⟩ := mm_letE hf
    refine MM.putI e18 5 t_a0 lays_5 toks_5 pq_5_0 ww_251 d_Tk_addLine_57 rfl ?_
    obtain rfl := Option.some.inj hf
    subst hZ
    exact MM.vret rfl d_Tk_addLine_60 ⟨rfl, rfl⟩
theorem d_Go_readTell_0 : decode cX2_readTell 0 = .ok (.aload_n 1, 1) := by decide +kernel
theorem d_Go_readTell_1 : decode cX2_readTell 1 = .ok (.aload_n 0, 1) := by decide +kernel
theorem d_Go_readTell_2 : decode cX2_readTell 2 = .ok (.iconst 1, 1) := by decide +kernel
theorem d_Go_readTell_3 : decode cX2_readTell 3 = .ok (.invokevirtual 81, 3) := by decide +kernel
theorem d_Go_readTell_6 : decode cX2_readTell 6 = .ok (.istore 4, 2) := by decide +kernel
theorem d_Go_readTell_8 : decode cX2_readTell 8 = .ok (.iload 4, 2) := by decide +kernel
theorem d_Go_readTell_10 : decode cX2_readTell 10 = .ok (.iconst (-1), 1) := by decide +kernel
theorem d_Go_readTell_11 : decode cX2_readTell 11 = .ok (.if_icmp .ne 5, 3) := by decide +kernel
theorem d_Go_readTell_14 : decode cX2_readTell 14 = .ok (.iconst 0, 1) := by decide +kernel
theorem d_Go_readTell_15 : decode cX2_readTell 15 = .ok (.ireturn, 1) := by decide +kernel
theorem d_Go_readTell_16 : decode cX2_readTell 16 = .ok (.iload 4, 2) := by decide +kernel
theorem d_Go_readTell_18 : decode cX2_readTell 18 = .ok (.iload_n 3, 1) := by decide +kernel
theorem d_Go_readTell_19 : decode cX2_readTell 19 = .ok (.if_icmp .ne 9, 3) := by decide +kernel
theorem d_Go_readTell_22 : decode cX2_readTell 22 = .ok (.aload_n 0, 1) := by decide +kernel
theorem d_Go_readTell_23 : decode cX2_readTell 23 = .ok (.iconst 3, 1) := by decide +kernel
theorem d_Go_readTell_24 : decode cX2_readTell 24 = .ok (.invokevirtual 50, 3) := by decide +kernel
theorem d_Go_readTell_27 : decode cX2_readTell 27 = .ok (.ireturn, 1) := by decide +kernel
theorem d_Go_readTell_28 : decode cX2_readTell 28 = .ok (.aload_n 0, 1) := by decide +kernel
theorem d_Go_readTell_29 : decode cX2_readTell 29 = .ok (.invokevirtual 57, 3) := by decide +kernel
theorem d_Go_readTell_32 : decode cX2_readTell 32 = .ok (.aload_n 1, 1) := by decide +kernel
theorem d_Go_readTell_33 : decode cX2_readTell 33 = .ok (.aload_n 0, 1) := by decide +kernel
theorem d_Go_readTell_34 : decode cX2_readTell 34 = .ok (.iconst 0, 1) := by decide +kernel
theorem d_Go_readTell_35 : decode cX2_readTell 35 = .ok (.invokevirtual 68, 3) := by decide +kernel
theorem d_Go_readTell_38 : decode cX2_readTell 38 = .ok (.istore 5, 2) := by decide +kernel
theorem d_Go_readTell_40 : decode cX2_readTell 40 = .ok (.iload 5, 2) := by decide +kernel
theorem d_Go_readTell_42 : decode cX2_readTell 42 = .ok (.iconst (-1), 1) := by decide +kernel
theorem d_Go_readTell_43 : decode cX2_readTell 43 = .ok (.if_icmp .ne 5, 3) := by decide +kernel
theorem d_Go_readTell_46 : decode cX2_readTell 46 = .ok (.iconst 0, 1) := by decide +kernel
theorem d_Go_readTell_47 : decode cX2_readTell 47 = .ok (.ireturn, 1) := by decide +kernel
theorem d_Go_readTell_48 : decode cX2_readTell 48 = .ok (.aload_n 2, 1) := by decide +kernel
theorem d_Go_readTell_49 : decode cX2_readTell 49 = .ok (.iconst 0, 1) := by decide +kernel
theorem d_Go_readTell_50 : decode cX2_readTell 50 = .ok (.iload_n 3, 1) := by decide +kernel
theorem d_Go_readTell_51 : decode cX2_readTell 51 = .ok (.iload 4, 2) := by decide +kernel
theorem d_Go_readTell_53 : decode cX2_readTell 53 = .ok (.iload 5, 2) := by decide +kernel
theorem d_Go_readTell_55 : decode cX2_readTell 55 = .ok (.invokevirtual 60, 3) := by decide +kernel
theorem d_Go_readTell_58 : decode cX2_readTell 58 = .ok (.aload_n 0, 1) := by decide +kernel
theorem d_Go_readTell_59 : decode cX2_readTell 59 = .ok (.bipush 59, 2) := by decide +kernel
theorem d_Go_readTell_61 : decode cX2_readTell 61 = .ok (.invokevirtual 64, 3) := by decide +kernel
theorem d_Go_readTell_64 : decode cX2_readTell 64 = .ok (.ireturn, 1) := by decide +kernel
noncomputable def f_Go_readTell (a1 : Nat) (a2 : Nat) (x3 : Int32) (h : mm_H) : Option (Int32 × mm_H) := if mm_tg a1 = 7 ∧ mm_tg a2 = 5 then ((f_To_findTold a1 1 h).bind fun v2 => if v2.1 = (-1) then (some (0, v2.2)) else (if v2.1 = x3 then ((f_Ta_wrong 3 v2.2).bind fun v17 => (mm_bo v17.1).bind fun b18 => some (b18, v17.2)) else ((f_Ta_next v2.2).bind fun v4 => (f_To_takeTold a1 0 v4).bind fun v6 => if v6.1 = (-1) then (some (0, v6.2)) else ((f_Tk_addLine a2 0 x3 v2.1 v6.1 v6.2).bind fun v8 => (f_Ta_takeSign 59 v8).bind fun v10 => (mm_bo v10.1).bind fun b11 => some (b11, v10.2))))) else none
theorem T_Go_readTell (V : mm_V) (l : Launch) (a1 : Nat) (a2 : Nat) (x3 : Int32) (h : mm_H) (r : (Int32 × mm_H)) (hf : f_Go_readTell a1 a2 x3 h = some r) : MT V l Y_Go_readTell 7 [.ref 33, .ref a1, .ref a2, .int x3] (fun r1 h1 => r1 = some (.int r.1) ∧ h1 = r.2) h := by
  unfold f_Go_readTell at hf
  obtain ⟨⟨t_a1, t_a2⟩, hf⟩ := mm_chkE hf
  refine MT.intro (pn_Go rfl) [(0, .ref 33), (1, .ref a1), (2, .ref a2), (3, .int x3)] rfl (Nat.le_of_ble_eq_true rfl) ?_
  generalize hZ : mm_Z V _ = Z0
  refine MM.aload_n (i := 1) rfl rfl d_Go_readTell_0 rfl ?_
  refine MM.aload_n (i := 0) rfl rfl d_Go_readTell_1 rfl ?_
  refine MM.iconst ic_1 d_Go_readTell_2 rfl ?_
  obtain ⟨v2, e1, hf⟩ := mm_bind hf
  refine MM.callV1 (T_To_findTold V l a1 1 h _ e1) (fun _ _ q => q) cal_To_findTold rfl t_a1 ct_7 ww_741 ww_740 ww_869 (by decide) (by simp [Value.category]) d_Go_readTell_3 rfl ⟨rfl, rfl⟩ rfl ?_
  refine MM.istore (lv' := [(4, .int v2.1), (0, .ref 33), (1, .ref a1), (2, .ref a2), (3, .int x3)]) rfl (Nat.le_of_ble_eq_true rfl) rfl d_Go_readTell_6 rfl ?_
  refine MM.iload rfl d_Go_readTell_8 rfl ?_
  refine MM.iconst ic_m1 d_Go_readTell_10 rfl ?_
  obtain ⟨m24, m25⟩ := mm_ifE hf
  refine MM.icmp_ne (tgt := 16) d_Go_readTell_11 rfl rfl (fun c23 => ?_) (fun c23 => ?_)
  · replace hf := m25 c23
    refine MM.iload rfl d_Go_readTell_16 rfl ?_
    refine MM.iload_n (i := 3) rfl rfl d_Go_readTell_18 rfl ?_
    obtain ⟨m21, m22⟩ := mm_ifE hf
    refine MM.icmp_ne (tgt := 28) d_Go_readTell_19 rfl rfl (fun c20 => ?_) (fun c20 => ?_)
    · replace hf := m22 c20
      refine MM.aload_n (i := 0) rfl rfl d_Go_readTell_28 rfl ?_
      obtain ⟨v4, e3, hf⟩ := mm_bind hf
      refine MM.callV0 (T_Ta_next V l  v2.2 _ e3) (fun _ _ q => q) cal_Ta_next rfl tg_33 ct_6 ww_561 ww_560 ww_859 (by decide) (by simp [Value.category]) d_Go_readTell_29 rfl ⟨rfl, rfl⟩ rfl ?_
      refine MM.aload_n (i := 1) rfl rfl d_Go_readTell_32 rfl ?_
      refine MM.aload_n (i := 0) rfl rfl d_Go_readTell_33 rfl ?_
      refine MM.iconst ic_0 d_Go_readTell_34 rfl ?_
      obtain ⟨v6, e5, hf⟩ := mm_bind hf
      refine MM.callV1 (T_To_takeTold V l a1 0 v4 _ e5) (fun _ _ q => q) cal_To_takeTold rfl t_a1 ct_7 ww_737 ww_736 ww_865 (by decide) (by simp [Value.category]) d_Go_readTell_35 rfl ⟨rfl, rfl⟩ rfl ?_
      refine MM.istore (lv' := [(5, .int v6.1), (4, .int v2.1), (0, .ref 33), (1, .ref a1), (2, .ref a2), (3, .int x3)]) rfl (Nat.le_of_ble_eq_true rfl) rfl d_Go_readTell_38 rfl ?_
      refine MM.iload rfl d_Go_readTell_40 rfl ?_
      refine MM.iconst ic_m1 d_Go_readTell_42 rfl ?_
      obtain ⟨m14, m15⟩ := mm_ifE hf
      refine MM.icmp_ne (tgt := 48) d_Go_readTell_43 rfl rfl (fun c13 => ?_) (fun c13 => ?_)
      · replace hf := m15 c13
        refine MM.aload_n (i := 2) rfl rfl d_Go_readTell_48 rfl ?_
        refine MM.iconst ic_0 d_Go_readTell_49 rfl ?_
        refine MM.iload_n (i := 3) rfl rfl d_Go_readTell_50 rfl ?_
        refine MM.iload rfl d_Go_readTell_51 rfl ?_
        refine MM.iload rfl d_Go_readTell_53 rfl ?_
        obtain ⟨v8, e7, hf⟩ := mm_bind hf
        refine MM.callV0 (T_Tk_addLine V l a2 0 x3 v2.1 v6.1 v6.2 _ e7) (fun _ _ q => q) cal_Tk_addLine rfl t_a2 ct_5 ww_862 ww_861 ww_860 (by decide) (by simp [Value.category]) d_Go_readTell_55 rfl ⟨rfl, rfl⟩ rfl ?_
        refine MM.aload_n (i := 0) rfl rfl d_Go_readTell_58 rfl ?_
        refine MM.bipush bp_59 d_Go_readTell_59 rfl ?_
        obtain ⟨v10, e9, hf⟩ := mm_bind hf
        refine MM.callV1 (T_Ta_takeSign V l 59 v8 _ e9) (fun _ _ q => q) cal_Ta_takeSign rfl tg_33 ct_6 ww_715 ww_714 ww_864 (by decide) (by simp [Value.category]) d_Go_readTell_61 rfl ⟨rfl, rfl⟩ rfl ?_
        obtain ⟨b11, e12, hf⟩ := mm_bind hf
        obtain ⟨ob11, e12⟩ := mm_boE e12
        subst e12
        obtain rfl := Option.some.inj hf
        subst hZ
        exact MM.zret ob11 rfl d_Go_readTell_64 ⟨rfl, rfl⟩
      · replace hf := m14 c13
        refine MM.iconst ic_0 d_Go_readTell_46 rfl ?_
        obtain rfl := Option.some.inj hf
        subst hZ
        exact MM.zret (Or.inl rfl) rfl d_Go_readTell_47 ⟨rfl, rfl⟩
    · replace hf := m21 c20
      refine MM.aload_n (i := 0) rfl rfl d_Go_readTell_22 rfl ?_
      refine MM.iconst ic_3 d_Go_readTell_23 rfl ?_
      obtain ⟨v17, e16, hf⟩ := mm_bind hf
      refine MM.callV1 (T_Ta_wrong V l 3 v2.2 _ e16) (fun _ _ q => q) cal_Ta_wrong rfl tg_33 ct_6 ww_671 ww_670 ww_858 (by decide) (by simp [Value.category]) d_Go_readTell_24 rfl ⟨rfl, rfl⟩ rfl ?_
      obtain ⟨b18, e19, hf⟩ := mm_bind hf
      obtain ⟨ob18, e19⟩ := mm_boE e19
      subst e19
      obtain rfl := Option.some.inj hf
      subst hZ
      exact MM.zret ob18 rfl d_Go_readTell_27 ⟨rfl, rfl⟩
  · replace hf := m24 c23
    refine MM.iconst ic_0 d_Go_readTell_14 rfl ?_
    obtain rfl := Option.some.inj hf
    subst hZ
    exact MM.zret (Or.inl rfl) rfl d_Go_readTell_15 ⟨rfl, rfl⟩
theorem d_Go_readPay_0 : decode cX2_readPay 0 = .ok (.aload_n 1, 1) := by decide +kernel
theorem d_Go_readPay_1 : decode cX2_readPay 1 = .ok (.aload_n 0, 1) := by decide +kernel
theorem d_Go_readPay_2 : decode cX2_readPay 2 = .ok (.iconst 0, 1) := by decide +kernel
theorem d_Go_readPay_3 : decode cX2_readPay 3 = .ok (.invokevirtual 84, 3) := by decide +kernel
theorem d_Go_readPay_6 : decode cX2_readPay 6 = .ok (.istore 4, 2) := by decide +kernel
theorem d_Go_readPay_8 : decode cX2_readPay 8 = .ok (.iload 4, 2) := by decide +kernel
theorem d_Go_readPay_10 : decode cX2_readPay 10 = .ok (.iconst (-1), 1) := by decide +kernel
theorem d_Go_readPay_11 : decode cX2_readPay 11 = .ok (.if_icmp .ne 5, 3) := by decide +kernel
theorem d_Go_readPay_14 : decode cX2_readPay 14 = .ok (.iconst 0, 1) := by decide +kernel
theorem d_Go_readPay_15 : decode cX2_readPay 15 = .ok (.ireturn, 1) := by decide +kernel
theorem d_Go_readPay_16 : decode cX2_readPay 16 = .ok (.aload_n 2, 1) := by decide +kernel
theorem d_Go_readPay_17 : decode cX2_readPay 17 = .ok (.iconst 1, 1) := by decide +kernel
theorem d_Go_readPay_18 : decode cX2_readPay 18 = .ok (.iload_n 3, 1) := by decide +kernel
theorem d_Go_readPay_19 : decode cX2_readPay 19 = .ok (.iconst 0, 1) := by decide +kernel
theorem d_Go_readPay_20 : decode cX2_readPay 20 = .ok (.iload 4, 2) := by decide +kernel
theorem d_Go_readPay_22 : decode cX2_readPay 22 = .ok (.invokevirtual 60, 3) := by decide +kernel
theorem d_Go_readPay_25 : decode cX2_readPay 25 = .ok (.iconst 1, 1) := by decide +kernel
theorem d_Go_readPay_26 : decode cX2_readPay 26 = .ok (.ireturn, 1) := by decide +kernel
noncomputable def f_Go_readPay (a1 : Nat) (a2 : Nat) (x3 : Int32) (h : mm_H) : Option (Int32 × mm_H) := if mm_tg a1 = 7 ∧ mm_tg a2 = 5 then ((f_To_takeSet a1 0 h).bind fun v2 => if v2.1 = (-1) then (some (0, v2.2)) else ((f_Tk_addLine a2 1 x3 0 v2.1 v2.2).bind fun v4 => some (1, v4))) else none
theorem T_Go_readPay (V : mm_V) (l : Launch) (a1 : Nat) (a2 : Nat) (x3 : Int32) (h : mm_H) (r : (Int32 × mm_H)) (hf : f_Go_readPay a1 a2 x3 h = some r) : MT V l Y_Go_readPay 8 [.ref 33, .ref a1, .ref a2, .int x3] (fun r1 h1 => r1 = some (.int r.1) ∧ h1 = r.2) h := by
  unfold f_Go_readPay at hf
  obtain ⟨⟨t_a1, t_a2⟩, hf⟩ := mm_chkE hf
  refine MT.intro (pn_Go rfl) [(0, .ref 33), (1, .ref a1), (2, .ref a2), (3, .int x3)] rfl (Nat.le_of_ble_eq_true rfl) ?_
  generalize hZ : mm_Z V _ = Z0
  refine MM.aload_n (i := 1) rfl rfl d_Go_readPay_0 rfl ?_
  refine MM.aload_n (i := 0) rfl rfl d_Go_readPay_1 rfl ?_
  refine MM.iconst ic_0 d_Go_readPay_2 rfl ?_
  obtain ⟨v2, e1, hf⟩ := mm_bind hf
  refine MM.callV1 (T_To_takeSet V l a1 0 h _ e1) (fun _ _ q => q) cal_To_takeSet rfl t_a1 ct_7 ww_759 ww_758 ww_873 (by decide) (by simp [Value.category]) d_Go_readPay_3 rfl ⟨rfl, rfl⟩ rfl ?_
  refine MM.istore (lv' := [(4, .int v2.1), (0, .ref 33), (1, .ref a1), (2, .ref a2), (3, .int x3)]) rfl (Nat.le_of_ble_eq_true rfl) rfl d_Go_readPay_6 rfl ?_
  refine MM.iload rfl d_Go_readPay_8 rfl ?_
  refine MM.iconst ic_m1 d_Go_readPay_10 rfl ?_
  obtain ⟨m6, m7⟩ := mm_ifE hf
  refine MM.icmp_ne (tgt := 16) d_Go_readPay_11 rfl rfl (fun c5 => ?_) (fun c5 => ?_)
  · replace hf := m7 c5
    refine MM.aload_n (i := 2) rfl rfl d_Go_readPay_16 rfl ?_
    refine MM.iconst ic_1 d_Go_readPay_17 rfl ?_
    refine MM.iload_n (i := 3) rfl rfl d_Go_readPay_18 rfl ?_
    refine MM.iconst ic_0 d_Go_readPay_19 rfl ?_
    refine MM.iload rfl d_Go_readPay_20 rfl ?_
    obtain ⟨v4, e3, hf⟩ := mm_bind hf
    refine MM.callV0 (T_Tk_addLine V l a2 1 x3 0 v2.1 v2.2 _ e3) (fun _ _ q => q) cal_Tk_addLine rfl t_a2 ct_5 ww_862 ww_861 ww_860 (by decide) (by simp [Value.category]) d_Go_readPay_22 rfl ⟨rfl, rfl⟩ rfl ?_
    refine MM.iconst ic_1 d_Go_readPay_25 rfl ?_
    obtain rfl := Option.some.inj hf
    subst hZ
    exact MM.zret (Or.inr rfl) rfl d_Go_readPay_26 ⟨rfl, rfl⟩
  · replace hf := m6 c5
    refine MM.iconst ic_0 d_Go_readPay_14 rfl ?_
    obtain rfl := Option.some.inj hf
    subst hZ
    exact MM.zret (Or.inl rfl) rfl d_Go_readPay_15 ⟨rfl, rfl⟩
