/-! methods: M_chanceOf, M_ear, M_keeps, M_speaks, M_canTell, M_tells, M_tell, M_canPay, M_pays, M_pay, M_rise, M_passes, M_quarter, M_lend, M_undo -/
theorem d_M_chanceOf_0 : decode cX12_chanceOf 0 = .ok (.bipush 10, 2) := by decide +kernel
theorem d_M_chanceOf_2 : decode cX12_chanceOf 2 = .ok (.aload_n 0, 1) := by decide +kernel
theorem d_M_chanceOf_3 : decode cX12_chanceOf 3 = .ok (.getfield 56, 3) := by decide +kernel
theorem d_M_chanceOf_6 : decode cX12_chanceOf 6 = .ok (.iload_n 1, 1) := by decide +kernel
theorem d_M_chanceOf_7 : decode cX12_chanceOf 7 = .ok (.iaload, 1) := by decide +kernel
theorem d_M_chanceOf_8 : decode cX12_chanceOf 8 = .ok (.aload_n 0, 1) := by decide +kernel
theorem d_M_chanceOf_9 : decode cX12_chanceOf 9 = .ok (.getfield 23, 3) := by decide +kernel
theorem d_M_chanceOf_12 : decode cX12_chanceOf 12 = .ok (.aload_n 0, 1) := by decide +kernel
theorem d_M_chanceOf_13 : decode cX12_chanceOf 13 = .ok (.getfield 50, 3) := by decide +kernel
theorem d_M_chanceOf_16 : decode cX12_chanceOf 16 = .ok (.iload_n 1, 1) := by decide +kernel
theorem d_M_chanceOf_17 : decode cX12_chanceOf 17 = .ok (.iaload, 1) := by decide +kernel
theorem d_M_chanceOf_18 : decode cX12_chanceOf 18 = .ok (.iaload, 1) := by decide +kernel
theorem d_M_chanceOf_19 : decode cX12_chanceOf 19 = .ok (.iconst 1, 1) := by decide +kernel
theorem d_M_chanceOf_20 : decode cX12_chanceOf 20 = .ok (.if_icmp .ne 7, 3) := by decide +kernel
theorem d_M_chanceOf_23 : decode cX12_chanceOf 23 = .ok (.iconst 1, 1) := by decide +kernel
theorem d_M_chanceOf_24 : decode cX12_chanceOf 24 = .ok (.goto 4, 3) := by decide +kernel
theorem d_M_chanceOf_27 : decode cX12_chanceOf 27 = .ok (.iconst 0, 1) := by decide +kernel
theorem d_M_chanceOf_28 : decode cX12_chanceOf 28 = .ok (.iadd, 1) := by decide +kernel
theorem d_M_chanceOf_29 : decode cX12_chanceOf 29 = .ok (.invokestatic 451, 3) := by decide +kernel
theorem d_M_chanceOf_32 : decode cX12_chanceOf 32 = .ok (.ireturn, 1) := by decide +kernel
noncomputable def f_M_chanceOf (x1 : Int32) (h : mm_H) : Option Int32 := (mm_ix x1 60).bind fun k1 => (mm_ix x1 60).bind fun k3 => (mm_ix (h.1 275 k3) 12).bind fun k5 => (if (h.1 266 k5) = 1 then (some 1) else (some 0) : Option Int32).bind fun j7 => (f_JM_min 10 ((h.1 277 k1) + j7)).bind fun v13 => some v13
theorem T_M_chanceOf (V : mm_V) (l : Launch) (x1 : Int32) (h : mm_H) (r : Int32) (hf : f_M_chanceOf x1 h = some r) : MT V l Y_M_chanceOf 2 [.ref 261, .int x1] (fun r1 h1 => r1 = some (.int r) ∧ h1 = h) h := by
  unfold f_M_chanceOf at hf
  refine MT.intro (pn_M rfl) [(0, .ref 261), (1, .int x1)] rfl (Nat.le_of_ble_eq_true rfl) ?_
  generalize hZ : mm_Z V _ = Z0
  refine MM.bipush bp_10 d_M_chanceOf_0 rfl ?_
  refine MM.aload_n (i := 0) rfl rfl d_M_chanceOf_2 rfl ?_
  refine MM.gR 9 16 tg_261 rq_9_24 rfl lays_9 ww_1382 d_M_chanceOf_3 rfl ?_
  refine MM.iload_n (i := 1) rfl rfl d_M_chanceOf_6 rfl ?_
  obtain ⟨k1, e2, hf⟩ := mm_bind hf
  refine MM.gI e2 al_277 d_M_chanceOf_7 rfl ?_
  refine MM.aload_n (i := 0) rfl rfl d_M_chanceOf_8 rfl ?_
  refine MM.gR 9 5 tg_261 rq_9_13 rfl lays_9 ww_1371 d_M_chanceOf_9 rfl ?_
  refine MM.aload_n (i := 0) rfl rfl d_M_chanceOf_12 rfl ?_
  refine MM.gR 9 14 tg_261 rq_9_22 rfl lays_9 ww_1380 d_M_chanceOf_13 rfl ?_
  refine MM.iload_n (i := 1) rfl rfl d_M_chanceOf_16 rfl ?_
  obtain ⟨k3, e4, hf⟩ := mm_bind hf
  refine MM.gI e4 al_275 d_M_chanceOf_17 rfl ?_
  obtain ⟨k5, e6, hf⟩ := mm_bind hf
  refine MM.gI e6 al_266 d_M_chanceOf_18 rfl ?_
  refine MM.iconst ic_1 d_M_chanceOf_19 rfl ?_
  obtain ⟨j7, e14, hf⟩ := mm_bind hf
  have K8 : MM V l Y_M_chanceOf 2 0 0 Z0 28 [] [.int j7, .int (h.1 277 k1), .int 10] h := by
    refine MM.iadd d_M_chanceOf_28 rfl ?_
    obtain ⟨v13, e12, hf⟩ := mm_bind hf
    refine MM.callS1 (T_JM_min V l 10 ((h.1 277 k1) + j7) h _ e12) (fun _ _ q => q) cal_JM_min rfl ww_607 ww_1841 (by decide) (by simp [Value.category]) d_M_chanceOf_29 rfl ⟨rfl, rfl⟩ rfl ?_
    obtain rfl := Option.some.inj hf
    subst hZ
    exact MM.iret rfl d_M_chanceOf_32 ⟨rfl, rfl⟩
  clear hf
  have hf := e14
  clear e14
  obtain ⟨m10, m11⟩ := mm_ifE hf
  refine MM.icmp_ne (tgt := 27) d_M_chanceOf_20 rfl rfl (fun c9 => ?_) (fun c9 => ?_)
  · replace hf := m11 c9
    refine MM.iconst ic_0 d_M_chanceOf_27 rfl ?_
    obtain rfl := Option.some.inj hf
    exact MM.sub [] (by rfl) K8
  · replace hf := m10 c9
    refine MM.iconst ic_1 d_M_chanceOf_23 rfl ?_
    refine MM.goto (tgt := 28) d_M_chanceOf_24 rfl ?_
    obtain rfl := Option.some.inj hf
    exact MM.sub [] (by rfl) K8
theorem d_M_ear_0 : decode cX12_ear 0 = .ok (.aload_n 0, 1) := by decide +kernel
theorem d_M_ear_1 : decode cX12_ear 1 = .ok (.iconst 0, 1) := by decide +kernel
theorem d_M_ear_2 : decode cX12_ear 2 = .ok (.putfield 175, 3) := by decide +kernel
theorem d_M_ear_5 : decode cX12_ear 5 = .ok (.iconst 0, 1) := by decide +kernel
theorem d_M_ear_6 : decode cX12_ear 6 = .ok (.istore_n 3, 1) := by decide +kernel
theorem d_M_ear_7 : decode cX12_ear 7 = .ok (.iload_n 3, 1) := by decide +kernel
theorem d_M_ear_8 : decode cX12_ear 8 = .ok (.aload_n 0, 1) := by decide +kernel
theorem d_M_ear_9 : decode cX12_ear 9 = .ok (.getfield 13, 3) := by decide +kernel
theorem d_M_ear_12 : decode cX12_ear 12 = .ok (.iconst 2, 1) := by decide +kernel
theorem d_M_ear_13 : decode cX12_ear 13 = .ok (.iaload, 1) := by decide +kernel
theorem d_M_ear_14 : decode cX12_ear 14 = .ok (.if_icmp .ge 35, 3) := by decide +kernel
theorem d_M_ear_17 : decode cX12_ear 17 = .ok (.aload_n 0, 1) := by decide +kernel
theorem d_M_ear_18 : decode cX12_ear 18 = .ok (.getfield 50, 3) := by decide +kernel
theorem d_M_ear_21 : decode cX12_ear 21 = .ok (.iload_n 3, 1) := by decide +kernel
theorem d_M_ear_22 : decode cX12_ear 22 = .ok (.iaload, 1) := by decide +kernel
theorem d_M_ear_23 : decode cX12_ear 23 = .ok (.iload_n 1, 1) := by decide +kernel
theorem d_M_ear_24 : decode cX12_ear 24 = .ok (.if_icmp .ne 19, 3) := by decide +kernel
theorem d_M_ear_27 : decode cX12_ear 27 = .ok (.aload_n 0, 1) := by decide +kernel
theorem d_M_ear_28 : decode cX12_ear 28 = .ok (.getfield 53, 3) := by decide +kernel
theorem d_M_ear_31 : decode cX12_ear 31 = .ok (.iload_n 3, 1) := by decide +kernel
theorem d_M_ear_32 : decode cX12_ear 32 = .ok (.iaload, 1) := by decide +kernel
theorem d_M_ear_33 : decode cX12_ear 33 = .ok (.iload_n 2, 1) := by decide +kernel
theorem d_M_ear_34 : decode cX12_ear 34 = .ok (.if_icmp .ne 9, 3) := by decide +kernel
theorem d_M_ear_37 : decode cX12_ear 37 = .ok (.aload_n 0, 1) := by decide +kernel
theorem d_M_ear_38 : decode cX12_ear 38 = .ok (.iload_n 3, 1) := by decide +kernel
theorem d_M_ear_39 : decode cX12_ear 39 = .ok (.invokevirtual 454, 3) := by decide +kernel
theorem d_M_ear_42 : decode cX12_ear 42 = .ok (.ireturn, 1) := by decide +kernel
theorem d_M_ear_43 : decode cX12_ear 43 = .ok (.iinc 3 1, 3) := by decide +kernel
theorem d_M_ear_46 : decode cX12_ear 46 = .ok (.goto (-39), 3) := by decide +kernel
theorem d_M_ear_49 : decode cX12_ear 49 = .ok (.iconst (-1), 1) := by decide +kernel
theorem d_M_ear_50 : decode cX12_ear 50 = .ok (.ireturn, 1) := by decide +kernel
noncomputable def f_M_ear (x1 : Int32) (x2 : Int32) (h : mm_H) : Option (Int32 × mm_H) := mm_let (mm_pI h 261 0 0) fun h1 => mm_while (σ := Int32) (ρ := (Int32 × mm_H)) (fun s3 => if (h1.1 263 2) ≤ s3 then (some (Sum.inr ((-1), h1))) else ((mm_ix s3 60).bind fun k6 => mm_jp (fun (j8 : Unit) => (mm_let (s3 + 1) fun y11 => some (Sum.inl y11))) fun k10 => if (h1.1 275 k6) = x1 then ((mm_ix s3 60).bind fun k13 => if (h1.1 276 k13) = x2 then ((f_M_chanceOf s3 h1).bind fun v16 => some (Sum.inr (v16, h1))) else (k10 ())) else (k10 ()))) 0
theorem T_M_ear (V : mm_V) (l : Launch) (x1 : Int32) (x2 : Int32) (h : mm_H) (r : (Int32 × mm_H)) (hf : f_M_ear x1 x2 h = some r) : MT V l Y_M_ear 3 [.ref 261, .int x1, .int x2] (fun r1 h1 => r1 = some (.int r.1) ∧ h1 = r.2) h := by
  unfold f_M_ear at hf
  refine MT.intro (pn_M rfl) [(0, .ref 261), (1, .int x1), (2, .int x2)] rfl (Nat.le_of_ble_eq_true rfl) ?_
  generalize hZ : mm_Z V _ = Z0
  refine MM.aload_n (i := 0) rfl rfl d_M_ear_0 rfl ?_
  refine MM.iconst ic_0 d_M_ear_1 rfl ?_
  obtain ⟨h1, e2, hf⟩ := mm_letE hf
  refine MM.putI e2 9 tg_261 lays_9 toks_9 pq_9_0 ww_1358 d_M_ear_2 rfl ?_
  refine MM.iconst ic_0 d_M_ear_5 rfl ?_
  refine MM.istore_n (i := 3) (lv' := [(3, .int 0), (0, .ref 261), (1, .int x1), (2, .int x2)]) rfl rfl (Nat.le_of_ble_eq_true rfl) rfl d_M_ear_6 rfl ?_
  refine MM.sub [1, 2, 3, 0] (by rfl) (mm_while_ind (fun s3 => MM V l Y_M_ear 3 0 0 Z0 7 [(0, .ref 261), (1, .int x1), (2, .int x2), (3, .int s3)] [] h1) hf (fun s3 q4 hf hx5 => ?_))
  refine MM.iload_n (i := 3) rfl rfl d_M_ear_7 rfl ?_
  refine MM.aload_n (i := 0) rfl rfl d_M_ear_8 rfl ?_
  refine MM.gR 9 2 tg_261 rq_9_10 rfl lays_9 ww_1368 d_M_ear_9 rfl ?_
  refine MM.iconst ic_2 d_M_ear_12 rfl ?_
  refine MM.gI ix_2_8 al_263 d_M_ear_13 rfl ?_
  obtain ⟨m25, m26⟩ := mm_ifE hf
  refine MM.icmp_ge (tgt := 49) d_M_ear_14 rfl rfl (fun c24 => ?_) (fun c24 => ?_)
  · replace hf := m25 c24
    refine MM.iconst ic_m1 d_M_ear_49 rfl ?_
    obtain rfl := Option.some.inj hf
    replace hf := mm_wxR hx5
    obtain rfl := Option.some.inj hf
    subst hZ
    exact MM.iret rfl d_M_ear_50 ⟨rfl, rfl⟩
  · replace hf := m26 c24
    refine MM.aload_n (i := 0) rfl rfl d_M_ear_17 rfl ?_
    refine MM.gR 9 14 tg_261 rq_9_22 rfl lays_9 ww_1380 d_M_ear_18 rfl ?_
    refine MM.iload_n (i := 3) rfl rfl d_M_ear_21 rfl ?_
    obtain ⟨k6, e7, hf⟩ := mm_bind hf
    refine MM.gI e7 al_275 d_M_ear_22 rfl ?_
    refine MM.iload_n (i := 1) rfl rfl d_M_ear_23 rfl ?_
    obtain ⟨k10, e23, hf⟩ := mm_jpE hf
    have K9 : ∀ j8, k10 j8 = some q4 → MM V l Y_M_ear 3 0 0 Z0 43 [(0, .ref 261), (1, .int x1), (2, .int x2), (3, .int s3)] [] h1 := by
      intro j8 hf
      rw [e23] at hf
      obtain ⟨y11, e12, hf⟩ := mm_letE hf
      refine MM.iinc (k0 := 3) (lv' := [(3, .int y11), (0, .ref 261), (1, .int x1), (2, .int x2)]) (by rw [ic_1]; exact e12) rfl (Nat.le_of_ble_eq_true rfl) rfl d_M_ear_43 rfl ?_
      refine MM.goto (tgt := 7) d_M_ear_46 rfl ?_
      obtain rfl := Option.some.inj hf
      have h9 := mm_wxL hx5
      exact MM.sub [1, 2, 3, 0] (by rfl) h9
    clear e23
    obtain ⟨m21, m22⟩ := mm_ifE hf
    refine MM.icmp_ne (tgt := 43) d_M_ear_24 rfl rfl (fun c20 => ?_) (fun c20 => ?_)
    · replace hf := m22 c20
      exact MM.sub [0, 1, 2, 3] (by rfl) (K9 _ hf)
    · replace hf := m21 c20
      refine MM.aload_n (i := 0) rfl rfl d_M_ear_27 rfl ?_
      refine MM.gR 9 15 tg_261 rq_9_23 rfl lays_9 ww_1381 d_M_ear_28 rfl ?_
      refine MM.iload_n (i := 3) rfl rfl d_M_ear_31 rfl ?_
      obtain ⟨k13, e14, hf⟩ := mm_bind hf
      refine MM.gI e14 al_276 d_M_ear_32 rfl ?_
      refine MM.iload_n (i := 2) rfl rfl d_M_ear_33 rfl ?_
      obtain ⟨m18, m19⟩ := mm_ifE hf
      refine MM.icmp_ne (tgt := 43) d_M_ear_34 rfl rfl (fun c17 => ?_) (fun c17 => ?_)
      · replace hf := m19 c17
        exact MM.sub [0, 1, 2, 3] (by rfl) (K9 _ hf)
      · replace hf := m18 c17
        refine MM.aload_n (i := 0) rfl rfl d_M_ear_37 rfl ?_
        refine MM.iload_n (i := 3) rfl rfl d_M_ear_38 rfl ?_
        obtain ⟨v16, e15, hf⟩ := mm_bind hf
        refine MM.callV1 (T_M_chanceOf V l s3 h1 _ e15) (fun _ _ q => q) cal_M_chanceOf rfl tg_261 ct_9 ww_84 ww_1839 ww_1837 (by decide) (by simp [Value.category]) d_M_ear_39 rfl ⟨rfl, rfl⟩ rfl ?_
        obtain rfl := Option.some.inj hf
        replace hf := mm_wxR hx5
        obtain rfl := Option.some.inj hf
        subst hZ
        exact MM.iret rfl d_M_ear_42 ⟨rfl, rfl⟩
theorem d_M_keeps_0 : decode cX12_keeps 0 = .ok (.aload_n 0, 1) := by decide +kernel
theorem d_M_keeps_1 : decode cX12_keeps 1 = .ok (.getfield 398, 3) := by decide +kernel
theorem d_M_keeps_4 : decode cX12_keeps 4 = .ok (.bipush 16, 2) := by decide +kernel
theorem d_M_keeps_6 : decode cX12_keeps 6 = .ok (.if_icmp .ne 43, 3) := by decide +kernel
theorem d_M_keeps_9 : decode cX12_keeps 9 = .ok (.iconst 0, 1) := by decide +kernel
theorem d_M_keeps_10 : decode cX12_keeps 10 = .ok (.istore_n 1, 1) := by decide +kernel
theorem d_M_keeps_11 : decode cX12_keeps 11 = .ok (.iload_n 1, 1) := by decide +kernel
theorem d_M_keeps_12 : decode cX12_keeps 12 = .ok (.sipush 1845, 3) := by decide +kernel
theorem d_M_keeps_15 : decode cX12_keeps 15 = .ok (.if_icmp .ge 24, 3) := by decide +kernel
theorem d_M_keeps_18 : decode cX12_keeps 18 = .ok (.aload_n 0, 1) := by decide +kernel
theorem d_M_keeps_19 : decode cX12_keeps 19 = .ok (.getfield 138, 3) := by decide +kernel
theorem d_M_keeps_22 : decode cX12_keeps 22 = .ok (.iload_n 1, 1) := by decide +kernel
theorem d_M_keeps_23 : decode cX12_keeps 23 = .ok (.aload_n 0, 1) := by decide +kernel
theorem d_M_keeps_24 : decode cX12_keeps 24 = .ok (.getfield 138, 3) := by decide +kernel
theorem d_M_keeps_27 : decode cX12_keeps 27 = .ok (.iload_n 1, 1) := by decide +kernel
theorem d_M_keeps_28 : decode cX12_keeps 28 = .ok (.bipush 123, 2) := by decide +kernel
theorem d_M_keeps_30 : decode cX12_keeps 30 = .ok (.iadd, 1) := by decide +kernel
theorem d_M_keeps_31 : decode cX12_keeps 31 = .ok (.iaload, 1) := by decide +kernel
theorem d_M_keeps_32 : decode cX12_keeps 32 = .ok (.iastore, 1) := by decide +kernel
theorem d_M_keeps_33 : decode cX12_keeps 33 = .ok (.iinc 1 1, 3) := by decide +kernel
theorem d_M_keeps_36 : decode cX12_keeps 36 = .ok (.goto (-25), 3) := by decide +kernel
theorem d_M_keeps_39 : decode cX12_keeps 39 = .ok (.aload_n 0, 1) := by decide +kernel
theorem d_M_keeps_40 : decode cX12_keeps 40 = .ok (.dup, 1) := by decide +kernel
theorem d_M_keeps_41 : decode cX12_keeps 41 = .ok (.getfield 398, 3) := by decide +kernel
theorem d_M_keeps_44 : decode cX12_keeps 44 = .ok (.iconst 1, 1) := by decide +kernel
theorem d_M_keeps_45 : decode cX12_keeps 45 = .ok (.isub, 1) := by decide +kernel
theorem d_M_keeps_46 : decode cX12_keeps 46 = .ok (.putfield 398, 3) := by decide +kernel
theorem d_M_keeps_49 : decode cX12_keeps 49 = .ok (.aload_n 0, 1) := by decide +kernel
theorem d_M_keeps_50 : decode cX12_keeps 50 = .ok (.getfield 129, 3) := by decide +kernel
theorem d_M_keeps_53 : decode cX12_keeps 53 = .ok (.iconst 0, 1) := by decide +kernel
theorem d_M_keeps_54 : decode cX12_keeps 54 = .ok (.aload_n 0, 1) := by decide +kernel
theorem d_M_keeps_55 : decode cX12_keeps 55 = .ok (.getfield 138, 3) := by decide +kernel
theorem d_M_keeps_58 : decode cX12_keeps 58 = .ok (.bipush 123, 2) := by decide +kernel
theorem d_M_keeps_60 : decode cX12_keeps 60 = .ok (.aload_n 0, 1) := by decide +kernel
theorem d_M_keeps_61 : decode cX12_keeps 61 = .ok (.getfield 398, 3) := by decide +kernel
theorem d_M_keeps_64 : decode cX12_keeps 64 = .ok (.imul, 1) := by decide +kernel
theorem d_M_keeps_65 : decode cX12_keeps 65 = .ok (.invokestatic 457, 3) := by decide +kernel
theorem d_M_keeps_68 : decode cX12_keeps 68 = .ok (.aload_n 0, 1) := by decide +kernel
theorem d_M_keeps_69 : decode cX12_keeps 69 = .ok (.dup, 1) := by decide +kernel
theorem d_M_keeps_70 : decode cX12_keeps 70 = .ok (.getfield 398, 3) := by decide +kernel
theorem d_M_keeps_73 : decode cX12_keeps 73 = .ok (.iconst 1, 1) := by decide +kernel
theorem d_M_keeps_74 : decode cX12_keeps 74 = .ok (.iadd, 1) := by decide +kernel
theorem d_M_keeps_75 : decode cX12_keeps 75 = .ok (.putfield 398, 3) := by decide +kernel
theorem d_M_keeps_78 : decode cX12_keeps 78 = .ok (.return_, 1) := by decide +kernel
noncomputable def f_M_keeps (h : mm_H) : Option mm_H := (if (h.1 261 55) = 16 then ((mm_while (σ := (Int32 × mm_H)) (ρ := mm_H) (fun s3 => if 1845 ≤ s3.1 then (some (Sum.inr s3.2)) else ((mm_ix (s3.1 + 123) 1968).bind fun k9 => (mm_ix s3.1 1968).bind fun k11 => mm_let (mm_pI s3.2 304 k11 (s3.2.1 304 k9)) fun h13 => mm_let (s3.1 + 1) fun y15 => some (Sum.inl (y15, h13)))) (0, h)).bind fun v6 => mm_let (mm_pI v6 261 55 ((v6.1 261 55) - 1)) fun h20 => some h20) else (some h) : Option mm_H).bind fun j1 => (f_M_copies 301 0 304 (123 * (j1.1 261 55)) j1).bind fun v26 => mm_let (mm_pI v26 261 55 ((v26.1 261 55) + 1)) fun h27 => some h27
theorem T_M_keeps (V : mm_V) (l : Launch) (h : mm_H) (r : mm_H) (hf : f_M_keeps h = some r) : MT V l Y_M_keeps 2 [.ref 261] (fun r1 h1 => r1 = none ∧ h1 = r) h := by
  unfold f_M_keeps at hf
  refine MT.intro (pn_M rfl) [(0, .ref 261)] rfl (Nat.le_of_ble_eq_true rfl) ?_
  generalize hZ : mm_Z V _ = Z0
  refine MM.aload_n (i := 0) rfl rfl d_M_keeps_0 rfl ?_
  refine MM.getI 9 tg_261 lays_9 gq_9_55 ww_1413 d_M_keeps_1 rfl ?_
  refine MM.bipush bp_16 d_M_keeps_4 rfl ?_
  obtain ⟨j1, e29, hf⟩ := mm_bind hf
  have K2 : MM V l Y_M_keeps 2 0 0 Z0 49 [(0, .ref 261)] [] j1 := by
    refine MM.aload_n (i := 0) rfl rfl d_M_keeps_49 rfl ?_
    refine MM.gR 9 40 tg_261 rq_9_50 rfl lays_9 ww_1408 d_M_keeps_50 rfl ?_
    refine MM.iconst ic_0 d_M_keeps_53 rfl ?_
    refine MM.aload_n (i := 0) rfl rfl d_M_keeps_54 rfl ?_
    refine MM.gR 9 43 tg_261 rq_9_53 rfl lays_9 ww_1411 d_M_keeps_55 rfl ?_
    refine MM.bipush bp_123 d_M_keeps_58 rfl ?_
    refine MM.aload_n (i := 0) rfl rfl d_M_keeps_60 rfl ?_
    refine MM.getI 9 tg_261 lays_9 gq_9_55 ww_1413 d_M_keeps_61 rfl ?_
    refine MM.imul d_M_keeps_64 rfl ?_
    obtain ⟨v26, e25, hf⟩ := mm_bind hf
    refine MM.callS0 (T_M_copies V l 301 0 304 (123 * (j1.1 261 55)) j1 _ e25) (fun _ _ q => q) cal_M_copies rfl ww_1859 ww_1858 (by decide) (by simp [Value.category]) d_M_keeps_65 rfl ⟨rfl, rfl⟩ rfl ?_
    refine MM.aload_n (i := 0) rfl rfl d_M_keeps_68 rfl ?_
    refine MM.dup rfl d_M_keeps_69 rfl ?_
    refine MM.getI 9 tg_261 lays_9 gq_9_55 ww_1413 d_M_keeps_70 rfl ?_
    refine MM.iconst ic_1 d_M_keeps_73 rfl ?_
    refine MM.iadd d_M_keeps_74 rfl ?_
    obtain ⟨h27, e28, hf⟩ := mm_letE hf
    refine MM.putI e28 9 tg_261 lays_9 toks_9 pq_9_55 ww_1413 d_M_keeps_75 rfl ?_
    obtain rfl := Option.some.inj hf
    subst hZ
    exact MM.vret rfl d_M_keeps_78 ⟨rfl, rfl⟩
  clear hf
  have hf := e29
  clear e29
  obtain ⟨m23, m24⟩ := mm_ifE hf
  refine MM.icmp_ne (tgt := 49) d_M_keeps_6 rfl rfl (fun c22 => ?_) (fun c22 => ?_)
  · replace hf := m24 c22
    obtain rfl := Option.some.inj hf
    exact MM.sub [0] (by rfl) K2
  · replace hf := m23 c22
    refine MM.iconst ic_0 d_M_keeps_9 rfl ?_
    refine MM.istore_n (i := 1) (lv' := [(1, .int 0), (0, .ref 261)]) rfl rfl (Nat.le_of_ble_eq_true rfl) rfl d_M_keeps_10 rfl ?_
    obtain ⟨v6, e8, hf⟩ := mm_bind hf
    have K7 : MM V l Y_M_keeps 2 0 0 Z0 39 [(0, .ref 261)] [] v6 := by
      refine MM.aload_n (i := 0) rfl rfl d_M_keeps_39 rfl ?_
      refine MM.dup rfl d_M_keeps_40 rfl ?_
      refine MM.getI 9 tg_261 lays_9 gq_9_55 ww_1413 d_M_keeps_41 rfl ?_
      refine MM.iconst ic_1 d_M_keeps_44 rfl ?_
      refine MM.isub d_M_keeps_45 rfl ?_
      obtain ⟨h20, e21, hf⟩ := mm_letE hf
      refine MM.putI e21 9 tg_261 lays_9 toks_9 pq_9_55 ww_1413 d_M_keeps_46 rfl ?_
      obtain rfl := Option.some.inj hf
      exact MM.sub [0] (by rfl) K2
    clear hf
    refine MM.sub [1, 0] (by rfl) (mm_while_ind (fun s3 => MM V l Y_M_keeps 2 0 0 Z0 11 [(0, .ref 261), (1, .int s3.1)] [] s3.2) e8 (fun s3 q4 hf hx5 => ?_))
    refine MM.iload_n (i := 1) rfl rfl d_M_keeps_11 rfl ?_
    refine MM.sipush sp_1845 d_M_keeps_12 rfl ?_
    obtain ⟨m18, m19⟩ := mm_ifE hf
    refine MM.icmp_ge (tgt := 39) d_M_keeps_15 rfl rfl (fun c17 => ?_) (fun c17 => ?_)
    · replace hf := m18 c17
      obtain rfl := Option.some.inj hf
      obtain rfl := Option.some.inj (mm_wxR hx5)
      exact MM.sub [0] (by rfl) K7
    · replace hf := m19 c17
      refine MM.aload_n (i := 0) rfl rfl d_M_keeps_18 rfl ?_
      refine MM.gR 9 43 tg_261 rq_9_53 rfl lays_9 ww_1411 d_M_keeps_19 rfl ?_
      refine MM.iload_n (i := 1) rfl rfl d_M_keeps_22 rfl ?_
      refine MM.aload_n (i := 0) rfl rfl d_M_keeps_23 rfl ?_
      refine MM.gR 9 43 tg_261 rq_9_53 rfl lays_9 ww_1411 d_M_keeps_24 rfl ?_
      refine MM.iload_n (i := 1) rfl rfl d_M_keeps_27 rfl ?_
      refine MM.bipush bp_123 d_M_keeps_28 rfl ?_
      refine MM.iadd d_M_keeps_30 rfl ?_
      obtain ⟨k9, e10, hf⟩ := mm_bind hf
      refine MM.gI e10 al_304 d_M_keeps_31 rfl ?_
      obtain ⟨k11, e12, hf⟩ := mm_bind hf
      obtain ⟨h13, e14, hf⟩ := mm_letE hf
      refine MM.sI e12 e14 al_304 d_M_keeps_32 rfl ?_
      obtain ⟨y15, e16, hf⟩ := mm_letE hf
      refine MM.iinc (k0 := 1) (lv' := [(1, .int y15), (0, .ref 261)]) (by rw [ic_1]; exact e16) rfl (Nat.le_of_ble_eq_true rfl) rfl d_M_keeps_33 rfl ?_
      refine MM.goto (tgt := 11) d_M_keeps_36 rfl ?_
      obtain rfl := Option.some.inj hf
      have h9 := mm_wxL hx5
      exact MM.sub [1, 0] (by rfl) h9
theorem d_M_speaks_0 : decode cX12_speaks 0 = .ok (.aload_n 0, 1) := by decide +kernel
theorem d_M_speaks_1 : decode cX12_speaks 1 = .ok (.getfield 23, 3) := by decide +kernel
theorem d_M_speaks_4 : decode cX12_speaks 4 = .ok (.iload_n 1, 1) := by decide +kernel
theorem d_M_speaks_5 : decode cX12_speaks 5 = .ok (.iaload, 1) := by decide +kernel
theorem d_M_speaks_6 : decode cX12_speaks 6 = .ok (.iconst 2, 1) := by decide +kernel
theorem d_M_speaks_7 : decode cX12_speaks 7 = .ok (.if_icmp .eq 17, 3) := by decide +kernel
theorem d_M_speaks_10 : decode cX12_speaks 10 = .ok (.aload_n 0, 1) := by decide +kernel
theorem d_M_speaks_11 : decode cX12_speaks 11 = .ok (.getfield 23, 3) := by decide +kernel
theorem d_M_speaks_14 : decode cX12_speaks 14 = .ok (.iload_n 1, 1) := by decide +kernel
theorem d_M_speaks_15 : decode cX12_speaks 15 = .ok (.iaload, 1) := by decide +kernel
theorem d_M_speaks_16 : decode cX12_speaks 16 = .ok (.iconst 3, 1) := by decide +kernel
theorem d_M_speaks_17 : decode cX12_speaks 17 = .ok (.if_icmp .eq 7, 3) := by decide +kernel
theorem d_M_speaks_20 : decode cX12_speaks 20 = .ok (.iconst 1, 1) := by decide +kernel
theorem d_M_speaks_21 : decode cX12_speaks 21 = .ok (.goto 4, 3) := by decide +kernel
theorem d_M_speaks_24 : decode cX12_speaks 24 = .ok (.iconst 0, 1) := by decide +kernel
theorem d_M_speaks_25 : decode cX12_speaks 25 = .ok (.ireturn, 1) := by decide +kernel
noncomputable def f_M_speaks (x1 : Int32) (h : mm_H) : Option Int32 := (mm_ix x1 12).bind fun k1 => if (h.1 266 k1) = 2 then (some 0) else ((mm_ix x1 12).bind fun k3 => if (h.1 266 k3) = 3 then (some 0) else (some 1))
theorem T_M_speaks (V : mm_V) (l : Launch) (x1 : Int32) (h : mm_H) (r : Int32) (hf : f_M_speaks x1 h = some r) : MT V l Y_M_speaks 1 [.ref 261, .int x1] (fun r1 h1 => r1 = some (.int r) ∧ h1 = h) h := by
  unfold f_M_speaks at hf
  refine MT.intro (pn_M rfl) [(0, .ref 261), (1, .int x1)] rfl (Nat.le_of_ble_eq_true rfl) ?_
  generalize hZ : mm_Z V _ = Z0
  refine MM.aload_n (i := 0) rfl rfl d_M_speaks_0 rfl ?_
  refine MM.gR 9 5 tg_261 rq_9_13 rfl lays_9 ww_1371 d_M_speaks_1 rfl ?_
  refine MM.iload_n (i := 1) rfl rfl d_M_speaks_4 rfl ?_
  obtain ⟨k1, e2, hf⟩ := mm_bind hf
  refine MM.gI e2 al_266 d_M_speaks_5 rfl ?_
  refine MM.iconst ic_2 d_M_speaks_6 rfl ?_
  obtain ⟨m9, m10⟩ := mm_ifE hf
  refine MM.icmp_eq (tgt := 24) d_M_speaks_7 rfl rfl (fun c8 => ?_) (fun c8 => ?_)
  · replace hf := m9 c8
    refine MM.iconst ic_0 d_M_speaks_24 rfl ?_
    obtain rfl := Option.some.inj hf
    subst hZ
    exact MM.zret (Or.inl rfl) rfl d_M_speaks_25 ⟨rfl, rfl⟩
  · replace hf := m10 c8
    refine MM.aload_n (i := 0) rfl rfl d_M_speaks_10 rfl ?_
    refine MM.gR 9 5 tg_261 rq_9_13 rfl lays_9 ww_1371 d_M_speaks_11 rfl ?_
    refine MM.iload_n (i := 1) rfl rfl d_M_speaks_14 rfl ?_
    obtain ⟨k3, e4, hf⟩ := mm_bind hf
    refine MM.gI e4 al_266 d_M_speaks_15 rfl ?_
    refine MM.iconst ic_3 d_M_speaks_16 rfl ?_
    obtain ⟨m6, m7⟩ := mm_ifE hf
    refine MM.icmp_eq (tgt := 24) d_M_speaks_17 rfl rfl (fun c5 => ?_) (fun c5 => ?_)
    · replace hf := m6 c5
      refine MM.iconst ic_0 d_M_speaks_24 rfl ?_
      obtain rfl := Option.some.inj hf
      subst hZ
      exact MM.zret (Or.inl rfl) rfl d_M_speaks_25 ⟨rfl, rfl⟩
    · replace hf := m7 c5
      refine MM.iconst ic_1 d_M_speaks_20 rfl ?_
      refine MM.goto (tgt := 25) d_M_speaks_21 rfl ?_
      obtain rfl := Option.some.inj hf
      subst hZ
      exact MM.zret (Or.inr rfl) rfl d_M_speaks_25 ⟨rfl, rfl⟩
theorem d_M_canTell_0 : decode cX12_canTell 0 = .ok (.aload_n 0, 1) := by decide +kernel
theorem d_M_canTell_1 : decode cX12_canTell 1 = .ok (.getfield 129, 3) := by decide +kernel
theorem d_M_canTell_4 : decode cX12_canTell 4 = .ok (.iload_n 3, 1) := by decide +kernel
theorem d_M_canTell_5 : decode cX12_canTell 5 = .ok (.iaload, 1) := by decide +kernel
theorem d_M_canTell_6 : decode cX12_canTell 6 = .ok (.iload_n 1, 1) := by decide +kernel
theorem d_M_canTell_7 : decode cX12_canTell 7 = .ok (.ishr, 1) := by decide +kernel
theorem d_M_canTell_8 : decode cX12_canTell 8 = .ok (.iconst 1, 1) := by decide +kernel
theorem d_M_canTell_9 : decode cX12_canTell 9 = .ok (.iand, 1) := by decide +kernel
theorem d_M_canTell_10 : decode cX12_canTell 10 = .ok (.iconst 1, 1) := by decide +kernel
theorem d_M_canTell_11 : decode cX12_canTell 11 = .ok (.if_icmp .ne 28, 3) := by decide +kernel
theorem d_M_canTell_14 : decode cX12_canTell 14 = .ok (.aload_n 0, 1) := by decide +kernel
theorem d_M_canTell_15 : decode cX12_canTell 15 = .ok (.iload_n 1, 1) := by decide +kernel
theorem d_M_canTell_16 : decode cX12_canTell 16 = .ok (.invokevirtual 461, 3) := by decide +kernel
theorem d_M_canTell_19 : decode cX12_canTell 19 = .ok (.ifCond .eq 20, 3) := by decide +kernel
theorem d_M_canTell_22 : decode cX12_canTell 22 = .ok (.aload_n 0, 1) := by decide +kernel
theorem d_M_canTell_23 : decode cX12_canTell 23 = .ok (.getfield 129, 3) := by decide +kernel
theorem d_M_canTell_26 : decode cX12_canTell 26 = .ok (.iload_n 3, 1) := by decide +kernel
theorem d_M_canTell_27 : decode cX12_canTell 27 = .ok (.iaload, 1) := by decide +kernel
theorem d_M_canTell_28 : decode cX12_canTell 28 = .ok (.iload_n 2, 1) := by decide +kernel
theorem d_M_canTell_29 : decode cX12_canTell 29 = .ok (.ishr, 1) := by decide +kernel
theorem d_M_canTell_30 : decode cX12_canTell 30 = .ok (.iconst 1, 1) := by decide +kernel
theorem d_M_canTell_31 : decode cX12_canTell 31 = .ok (.iand, 1) := by decide +kernel
theorem d_M_canTell_32 : decode cX12_canTell 32 = .ok (.ifCond .ne 7, 3) := by decide +kernel
theorem d_M_canTell_35 : decode cX12_canTell 35 = .ok (.iconst 1, 1) := by decide +kernel
theorem d_M_canTell_36 : decode cX12_canTell 36 = .ok (.goto 4, 3) := by decide +kernel
theorem d_M_canTell_39 : decode cX12_canTell 39 = .ok (.iconst 0, 1) := by decide +kernel
theorem d_M_canTell_40 : decode cX12_canTell 40 = .ok (.ireturn, 1) := by decide +kernel
noncomputable def f_M_canTell (x1 : Int32) (x2 : Int32) (x3 : Int32) (h : mm_H) : Option Int32 := (mm_ix x3 123).bind fun k1 => if (((h.1 301 k1) >>> (x1 &&& 31)) &&& 1) = 1 then ((f_M_speaks x1 h).bind fun v4 => if v4 = 0 then (some 0) else ((mm_ix x3 123).bind fun k5 => if (((h.1 301 k5) >>> (x2 &&& 31)) &&& 1) = 0 then (some 1) else (some 0))) else (some 0)
theorem T_M_canTell (V : mm_V) (l : Launch) (x1 : Int32) (x2 : Int32) (x3 : Int32) (h : mm_H) (r : Int32) (hf : f_M_canTell x1 x2 x3 h = some r) : MT V l Y_M_canTell 2 [.ref 261, .int x1, .int x2, .int x3] (fun r1 h1 => r1 = some (.int r) ∧ h1 = h) h := by
  unfold f_M_canTell at hf
  refine MT.intro (pn_M rfl) [(0, .ref 261), (1, .int x1), (2, .int x2), (3, .int x3)] rfl (Nat.le_of_ble_eq_true rfl) ?_
  generalize hZ : mm_Z V _ = Z0
  refine MM.aload_n (i := 0) rfl rfl d_M_canTell_0 rfl ?_
  refine MM.gR 9 40 tg_261 rq_9_50 rfl lays_9 ww_1408 d_M_canTell_1 rfl ?_
  refine MM.iload_n (i := 3) rfl rfl d_M_canTell_4 rfl ?_
  obtain ⟨k1, e2, hf⟩ := mm_bind hf
  refine MM.gI e2 al_301 d_M_canTell_5 rfl ?_
  refine MM.iload_n (i := 1) rfl rfl d_M_canTell_6 rfl ?_
  refine MM.ishr d_M_canTell_7 rfl ?_
  refine MM.iconst ic_1 d_M_canTell_8 rfl ?_
  refine MM.iand d_M_canTell_9 rfl ?_
  refine MM.iconst ic_1 d_M_canTell_10 rfl ?_
  obtain ⟨m14, m15⟩ := mm_ifE hf
  refine MM.icmp_ne (tgt := 39) d_M_canTell_11 rfl rfl (fun c13 => ?_) (fun c13 => ?_)
  · replace hf := m15 c13
    refine MM.iconst ic_0 d_M_canTell_39 rfl ?_
    obtain rfl := Option.some.inj hf
    subst hZ
    exact MM.zret (Or.inl rfl) rfl d_M_canTell_40 ⟨rfl, rfl⟩
  · replace hf := m14 c13
    refine MM.aload_n (i := 0) rfl rfl d_M_canTell_14 rfl ?_
    refine MM.iload_n (i := 1) rfl rfl d_M_canTell_15 rfl ?_
    obtain ⟨v4, e3, hf⟩ := mm_bind hf
    refine MM.callV1 (T_M_speaks V l x1 h _ e3) (fun _ _ q => q) cal_M_speaks rfl tg_261 ct_9 ww_86 ww_1852 ww_1850 (by decide) (by simp [Value.category]) d_M_canTell_16 rfl ⟨rfl, rfl⟩ rfl ?_
    obtain ⟨m11, m12⟩ := mm_ifE hf
    refine MM.if_eq (tgt := 39) d_M_canTell_19 rfl rfl (fun c10 => ?_) (fun c10 => ?_)
    · replace hf := m11 c10
      refine MM.iconst ic_0 d_M_canTell_39 rfl ?_
      obtain rfl := Option.some.inj hf
      subst hZ
      exact MM.zret (Or.inl rfl) rfl d_M_canTell_40 ⟨rfl, rfl⟩
    · replace hf := m12 c10
      refine MM.aload_n (i := 0) rfl rfl d_M_canTell_22 rfl ?_
      refine MM.gR 9 40 tg_261 rq_9_50 rfl lays_9 ww_1408 d_M_canTell_23 rfl ?_
      refine MM.iload_n (i := 3) rfl rfl d_M_canTell_26 rfl ?_
      obtain ⟨k5, e6, hf⟩ := mm_bind hf
      refine MM.gI e6 al_301 d_M_canTell_27 rfl ?_
      refine MM.iload_n (i := 2) rfl rfl d_M_canTell_28 rfl ?_
      refine MM.ishr d_M_canTell_29 rfl ?_
      refine MM.iconst ic_1 d_M_canTell_30 rfl ?_
      refine MM.iand d_M_canTell_31 rfl ?_
      obtain ⟨m8, m9⟩ := mm_ifE hf
      refine MM.if_ne (tgt := 39) d_M_canTell_32 rfl rfl (fun c7 => ?_) (fun c7 => ?_)
      · replace hf := m9 c7
        refine MM.iconst ic_0 d_M_canTell_39 rfl ?_
        obtain rfl := Option.some.inj hf
        subst hZ
        exact MM.zret (Or.inl rfl) rfl d_M_canTell_40 ⟨rfl, rfl⟩
      · replace hf := m8 c7
        refine MM.iconst ic_1 d_M_canTell_35 rfl ?_
        refine MM.goto (tgt := 40) d_M_canTell_36 rfl ?_
        obtain rfl := Option.some.inj hf
        subst hZ
        exact MM.zret (Or.inr rfl) rfl d_M_canTell_40 ⟨rfl, rfl⟩
theorem d_M_tells_0 : decode cX12_tells 0 = .ok (.aload_n 0, 1) := by decide +kernel
theorem d_M_tells_1 : decode cX12_tells 1 = .ok (.getfield 129, 3) := by decide +kernel
theorem d_M_tells_4 : decode cX12_tells 4 = .ok (.iload_n 3, 1) := by decide +kernel
theorem d_M_tells_5 : decode cX12_tells 5 = .ok (.dup2, 1) := by decide +kernel
theorem d_M_tells_6 : decode cX12_tells 6 = .ok (.iaload, 1) := by decide +kernel
theorem d_M_tells_7 : decode cX12_tells 7 = .ok (.iconst 1, 1) := by decide +kernel
theorem d_M_tells_8 : decode cX12_tells 8 = .ok (.iload_n 2, 1) := by decide +kernel
theorem d_M_tells_9 : decode cX12_tells 9 = .ok (.ishl, 1) := by decide +kernel
theorem d_M_tells_10 : decode cX12_tells 10 = .ok (.ior, 1) := by decide +kernel
theorem d_M_tells_11 : decode cX12_tells 11 = .ok (.iastore, 1) := by decide +kernel
theorem d_M_tells_12 : decode cX12_tells 12 = .ok (.aload_n 0, 1) := by decide +kernel
theorem d_M_tells_13 : decode cX12_tells 13 = .ok (.getfield 129, 3) := by decide +kernel
theorem d_M_tells_16 : decode cX12_tells 16 = .ok (.bipush 10, 2) := by decide +kernel
theorem d_M_tells_18 : decode cX12_tells 18 = .ok (.bipush 10, 2) := by decide +kernel
theorem d_M_tells_20 : decode cX12_tells 20 = .ok (.iload_n 1, 1) := by decide +kernel
theorem d_M_tells_21 : decode cX12_tells 21 = .ok (.imul, 1) := by decide +kernel
theorem d_M_tells_22 : decode cX12_tells 22 = .ok (.iadd, 1) := by decide +kernel
theorem d_M_tells_23 : decode cX12_tells 23 = .ok (.iload_n 3, 1) := by decide +kernel
theorem d_M_tells_24 : decode cX12_tells 24 = .ok (.iadd, 1) := by decide +kernel
theorem d_M_tells_25 : decode cX12_tells 25 = .ok (.dup2, 1) := by decide +kernel
theorem d_M_tells_26 : decode cX12_tells 26 = .ok (.iaload, 1) := by decide +kernel
theorem d_M_tells_27 : decode cX12_tells 27 = .ok (.iconst 1, 1) := by decide +kernel
theorem d_M_tells_28 : decode cX12_tells 28 = .ok (.iload_n 2, 1) := by decide +kernel
theorem d_M_tells_29 : decode cX12_tells 29 = .ok (.ishl, 1) := by decide +kernel
theorem d_M_tells_30 : decode cX12_tells 30 = .ok (.ior, 1) := by decide +kernel
theorem d_M_tells_31 : decode cX12_tells 31 = .ok (.iastore, 1) := by decide +kernel
theorem d_M_tells_32 : decode cX12_tells 32 = .ok (.aload_n 0, 1) := by decide +kernel
theorem d_M_tells_33 : decode cX12_tells 33 = .ok (.getfield 129, 3) := by decide +kernel
theorem d_M_tells_36 : decode cX12_tells 36 = .ok (.bipush 10, 2) := by decide +kernel
theorem d_M_tells_38 : decode cX12_tells 38 = .ok (.bipush 10, 2) := by decide +kernel
theorem d_M_tells_40 : decode cX12_tells 40 = .ok (.iload_n 2, 1) := by decide +kernel
theorem d_M_tells_41 : decode cX12_tells 41 = .ok (.imul, 1) := by decide +kernel
theorem d_M_tells_42 : decode cX12_tells 42 = .ok (.iadd, 1) := by decide +kernel
theorem d_M_tells_43 : decode cX12_tells 43 = .ok (.iload_n 3, 1) := by decide +kernel
theorem d_M_tells_44 : decode cX12_tells 44 = .ok (.iadd, 1) := by decide +kernel
theorem d_M_tells_45 : decode cX12_tells 45 = .ok (.dup2, 1) := by decide +kernel
theorem d_M_tells_46 : decode cX12_tells 46 = .ok (.iaload, 1) := by decide +kernel
theorem d_M_tells_47 : decode cX12_tells 47 = .ok (.iconst 1, 1) := by decide +kernel
theorem d_M_tells_48 : decode cX12_tells 48 = .ok (.iload_n 1, 1) := by decide +kernel
theorem d_M_tells_49 : decode cX12_tells 49 = .ok (.ishl, 1) := by decide +kernel
theorem d_M_tells_50 : decode cX12_tells 50 = .ok (.ior, 1) := by decide +kernel
theorem d_M_tells_51 : decode cX12_tells 51 = .ok (.iastore, 1) := by decide +kernel
theorem d_M_tells_52 : decode cX12_tells 52 = .ok (.aload_n 0, 1) := by decide +kernel
theorem d_M_tells_53 : decode cX12_tells 53 = .ok (.getfield 32, 3) := by decide +kernel
theorem d_M_tells_56 : decode cX12_tells 56 = .ok (.iload_n 3, 1) := by decide +kernel
theorem d_M_tells_57 : decode cX12_tells 57 = .ok (.iaload, 1) := by decide +kernel
theorem d_M_tells_58 : decode cX12_tells 58 = .ok (.iconst 1, 1) := by decide +kernel
theorem d_M_tells_59 : decode cX12_tells 59 = .ok (.if_icmp .ne 26, 3) := by decide +kernel
theorem d_M_tells_62 : decode cX12_tells 62 = .ok (.aload_n 0, 1) := by decide +kernel
theorem d_M_tells_63 : decode cX12_tells 63 = .ok (.getfield 35, 3) := by decide +kernel
theorem d_M_tells_66 : decode cX12_tells 66 = .ok (.iload_n 3, 1) := by decide +kernel
theorem d_M_tells_67 : decode cX12_tells 67 = .ok (.iaload, 1) := by decide +kernel
theorem d_M_tells_68 : decode cX12_tells 68 = .ok (.iload_n 2, 1) := by decide +kernel
theorem d_M_tells_69 : decode cX12_tells 69 = .ok (.if_icmp .ne 16, 3) := by decide +kernel
theorem d_M_tells_72 : decode cX12_tells 72 = .ok (.aload_n 0, 1) := by decide +kernel
theorem d_M_tells_73 : decode cX12_tells 73 = .ok (.getfield 129, 3) := by decide +kernel
theorem d_M_tells_76 : decode cX12_tells 76 = .ok (.bipush 76, 2) := by decide +kernel
theorem d_M_tells_78 : decode cX12_tells 78 = .ok (.dup2, 1) := by decide +kernel
theorem d_M_tells_79 : decode cX12_tells 79 = .ok (.iaload, 1) := by decide +kernel
theorem d_M_tells_80 : decode cX12_tells 80 = .ok (.iconst 1, 1) := by decide +kernel
theorem d_M_tells_81 : decode cX12_tells 81 = .ok (.iload_n 3, 1) := by decide +kernel
theorem d_M_tells_82 : decode cX12_tells 82 = .ok (.ishl, 1) := by decide +kernel
theorem d_M_tells_83 : decode cX12_tells 83 = .ok (.ior, 1) := by decide +kernel
theorem d_M_tells_84 : decode cX12_tells 84 = .ok (.iastore, 1) := by decide +kernel
theorem d_M_tells_85 : decode cX12_tells 85 = .ok (.return_, 1) := by decide +kernel
noncomputable def f_M_tells (x1 : Int32) (x2 : Int32) (x3 : Int32) (h : mm_H) : Option mm_H := (mm_ix x3 123).bind fun k1 => (mm_ix x3 123).bind fun k3 => mm_let (mm_pI h 301 k3 ((h.1 301 k1) ||| ((1 : Int32) <<< (x2 &&& 31)))) fun h5 => (mm_ix ((10 + (10 * x1)) + x3) 123).bind fun k7 => (mm_ix ((10 + (10 * x1)) + x3) 123).bind fun k9 => mm_let (mm_pI h5 301 k9 ((h5.1 301 k7) ||| ((1 : Int32) <<< (x2 &&& 31)))) fun h11 => (mm_ix ((10 + (10 * x2)) + x3) 123).bind fun k13 => (mm_ix ((10 + (10 * x2)) + x3) 123).bind fun k15 => mm_let (mm_pI h11 301 k15 ((h11.1 301 k13) ||| ((1 : Int32) <<< (x1 &&& 31)))) fun h17 => (mm_ix x3 20).bind fun k19 => if (h17.1 269 k19) = 1 then ((mm_ix x3 20).bind fun k21 => if (h17.1 270 k21) = x2 then (mm_let (mm_pI h17 301 76 ((h17.1 301 76) ||| ((1 : Int32) <<< (x3 &&& 31)))) fun h23 => some h23) else (some h17)) else (some h17)
theorem T_M_tells (V : mm_V) (l : Launch) (x1 : Int32) (x2 : Int32) (x3 : Int32) (h : mm_H) (r : mm_H) (hf : f_M_tells x1 x2 x3 h = some r) : MT V l Y_M_tells 1 [.ref 261, .int x1, .int x2, .int x3] (fun r1 h1 => r1 = none ∧ h1 = r) h := by
  unfold f_M_tells at hf
  refine MT.intro (pn_M rfl) [(0, .ref 261), (1, .int x1), (2, .int x2), (3, .int x3)] rfl (Nat.le_of_ble_eq_true rfl) ?_
  generalize hZ : mm_Z V _ = Z0
  refine MM.aload_n (i := 0) rfl rfl d_M_tells_0 rfl ?_
  refine MM.gR 9 40 tg_261 rq_9_50 rfl lays_9 ww_1408 d_M_tells_1 rfl ?_
  refine MM.iload_n (i := 3) rfl rfl d_M_tells_4 rfl ?_
  refine MM.dup2 rfl rfl d_M_tells_5 rfl ?_
  obtain ⟨k1, e2, hf⟩ := mm_bind hf
  refine MM.gI e2 al_301 d_M_tells_6 rfl ?_
  refine MM.iconst ic_1 d_M_tells_7 rfl ?_
  refine MM.iload_n (i := 2) rfl rfl d_M_tells_8 rfl ?_
  refine MM.ishl d_M_tells_9 rfl ?_
  refine MM.ior d_M_tells_10 rfl ?_
  obtain ⟨k3, e4, hf⟩ := mm_bind hf
  obtain ⟨h5, e6, hf⟩ := mm_letE hf
  refine MM.sI e4 e6 al_301 d_M_tells_11 rfl ?_
  refine MM.aload_n (i := 0) rfl rfl d_M_tells_12 rfl ?_
  refine MM.gR 9 40 tg_261 rq_9_50 rfl lays_9 ww_1408 d_M_tells_13 rfl ?_
  refine MM.bipush bp_10 d_M_tells_16 rfl ?_
  refine MM.bipush bp_10 d_M_tells_18 rfl ?_
  refine MM.iload_n (i := 1) rfl rfl d_M_tells_20 rfl ?_
  refine MM.imul d_M_tells_21 rfl ?_
  refine MM.iadd d_M_tells_22 rfl ?_
  refine MM.iload_n (i := 3) rfl rfl d_M_tells_23 rfl ?_
  refine MM.iadd d_M_tells_24 rfl ?_
  refine MM.dup2 rfl rfl d_M_tells_25 rfl ?_
  obtain ⟨k7, e8, hf⟩ := mm_bind hf
  refine MM.gI e8 al_301 d_M_tells_26 rfl ?_
  refine MM.iconst ic_1 d_M_tells_27 rfl ?_
  refine MM.iload_n (i := 2) rfl rfl d_M_tells_28 rfl ?_
  refine MM.ishl d_M_tells_29 rfl ?_
  refine MM.ior d_M_tells_30 rfl ?_
  obtain ⟨k9, e10, hf⟩ := mm_bind hf
  obtain ⟨h11, e12, hf⟩ := mm_letE hf
  refine MM.sI e10 e12 al_301 d_M_tells_31 rfl ?_
  refine MM.aload_n (i := 0) rfl rfl d_M_tells_32 rfl ?_
  refine MM.gR 9 40 tg_261 rq_9_50 rfl lays_9 ww_1408 d_M_tells_33 rfl ?_
  refine MM.bipush bp_10 d_M_tells_36 rfl ?_
  refine MM.bipush bp_10 d_M_tells_38 rfl ?_
  refine MM.iload_n (i := 2) rfl rfl d_M_tells_40 rfl ?_
  refine MM.imul d_M_tells_41 rfl ?_
  refine MM.iadd d_M_tells_42 rfl ?_
  refine MM.iload_n (i := 3) rfl rfl d_M_tells_43 rfl ?_
  refine MM.iadd d_M_tells_44 rfl ?_
  refine MM.dup2 rfl rfl d_M_tells_45 rfl ?_
  obtain ⟨k13, e14, hf⟩ := mm_bind hf
  refine MM.gI e14 al_301 d_M_tells_46 rfl ?_
  refine MM.iconst ic_1 d_M_tells_47 rfl ?_
  refine MM.iload_n (i := 1) rfl rfl d_M_tells_48 rfl ?_
  refine MM.ishl d_M_tells_49 rfl ?_
  refine MM.ior d_M_tells_50 rfl ?_
  obtain ⟨k15, e16, hf⟩ := mm_bind hf
  obtain ⟨h17, e18, hf⟩ := mm_letE hf
  refine MM.sI e16 e18 al_301 d_M_tells_51 rfl ?_
  refine MM.aload_n (i := 0) rfl rfl d_M_tells_52 rfl ?_
  refine MM.gR 9 8 tg_261 rq_9_16 rfl lays_9 ww_1374 d_M_tells_53 rfl ?_
  refine MM.iload_n (i := 3) rfl rfl d_M_tells_56 rfl ?_
  obtain ⟨k19, e20, hf⟩ := mm_bind hf
  refine MM.gI e20 al_269 d_M_tells_57 rfl ?_
  refine MM.iconst ic_1 d_M_tells_58 rfl ?_
  obtain ⟨m29, m30⟩ := mm_ifE hf
  refine MM.icmp_ne (tgt := 85) d_M_tells_59 rfl rfl (fun c28 => ?_) (fun c28 => ?_)
  · replace hf := m30 c28
    obtain rfl := Option.some.inj hf
    subst hZ
    exact MM.vret rfl d_M_tells_85 ⟨rfl, rfl⟩
  · replace hf := m29 c28
    refine MM.aload_n (i := 0) rfl rfl d_M_tells_62 rfl ?_
    refine MM.gR 9 9 tg_261 rq_9_17 rfl lays_9 ww_1375 d_M_tells_63 rfl ?_
    refine MM.iload_n (i := 3) rfl rfl d_M_tells_66 rfl ?_
    obtain ⟨k21, e22, hf⟩ := mm_bind hf
    refine MM.gI e22 al_270 d_M_tells_67 rfl ?_
    refine MM.iload_n (i := 2) rfl rfl d_M_tells_68 rfl ?_
    obtain ⟨m26, m27⟩ := mm_ifE hf
    refine MM.icmp_ne (tgt := 85) d_M_tells_69 rfl rfl (fun c25 => ?_) (fun c25 => ?_)
    · replace hf := m27 c25
      obtain rfl := Option.some.inj hf
      subst hZ
      exact MM.vret rfl d_M_tells_85 ⟨rfl, rfl⟩
    · replace hf := m26 c25
      refine MM.aload_n (i := 0) rfl rfl d_M_tells_72 rfl ?_
      refine MM.gR 9 40 tg_261 rq_9_50 rfl lays_9 ww_1408 d_M_tells_73 rfl ?_
      refine MM.bipush bp_76 d_M_tells_76 rfl ?_
      refine MM.dup2 rfl rfl d_M_tells_78 rfl ?_
      refine MM.gI ix_76_123 al_301 d_M_tells_79 rfl ?_
      refine MM.iconst ic_1 d_M_tells_80 rfl ?_
      refine MM.iload_n (i := 3) rfl rfl d_M_tells_81 rfl ?_
      refine MM.ishl d_M_tells_82 rfl ?_
      refine MM.ior d_M_tells_83 rfl ?_
      obtain ⟨h23, e24, hf⟩ := mm_letE hf
      refine MM.sI ix_76_123 e24 al_301 d_M_tells_84 rfl ?_
      obtain rfl := Option.some.inj hf
      subst hZ
      exact MM.vret rfl d_M_tells_85 ⟨rfl, rfl⟩
theorem d_M_tell_0 : decode cX12_tell 0 = .ok (.aload_n 0, 1) := by decide +kernel
theorem d_M_tell_1 : decode cX12_tell 1 = .ok (.iconst 0, 1) := by decide +kernel
theorem d_M_tell_2 : decode cX12_tell 2 = .ok (.putfield 175, 3) := by decide +kernel
theorem d_M_tell_5 : decode cX12_tell 5 = .ok (.aload_n 0, 1) := by decide +kernel
theorem d_M_tell_6 : decode cX12_tell 6 = .ok (.iload_n 1, 1) := by decide +kernel
theorem d_M_tell_7 : decode cX12_tell 7 = .ok (.iload_n 2, 1) := by decide +kernel
theorem d_M_tell_8 : decode cX12_tell 8 = .ok (.invokevirtual 448, 3) := by decide +kernel
theorem d_M_tell_11 : decode cX12_tell 11 = .ok (.ifCond .eq 21, 3) := by decide +kernel
theorem d_M_tell_14 : decode cX12_tell 14 = .ok (.aload_n 0, 1) := by decide +kernel
theorem d_M_tell_15 : decode cX12_tell 15 = .ok (.iload_n 3, 1) := by decide +kernel
theorem d_M_tell_16 : decode cX12_tell 16 = .ok (.invokevirtual 445, 3) := by decide +kernel
theorem d_M_tell_19 : decode cX12_tell 19 = .ok (.ifCond .eq 13, 3) := by decide +kernel
theorem d_M_tell_22 : decode cX12_tell 22 = .ok (.aload_n 0, 1) := by decide +kernel
theorem d_M_tell_23 : decode cX12_tell 23 = .ok (.iload_n 1, 1) := by decide +kernel
theorem d_M_tell_24 : decode cX12_tell 24 = .ok (.iload_n 2, 1) := by decide +kernel
theorem d_M_tell_25 : decode cX12_tell 25 = .ok (.iload_n 3, 1) := by decide +kernel
theorem d_M_tell_26 : decode cX12_tell 26 = .ok (.invokevirtual 464, 3) := by decide +kernel
theorem d_M_tell_29 : decode cX12_tell 29 = .ok (.ifCond .ne 5, 3) := by decide +kernel
theorem d_M_tell_32 : decode cX12_tell 32 = .ok (.iconst (-1), 1) := by decide +kernel
theorem d_M_tell_33 : decode cX12_tell 33 = .ok (.ireturn, 1) := by decide +kernel
theorem d_M_tell_34 : decode cX12_tell 34 = .ok (.aload_n 0, 1) := by decide +kernel
theorem d_M_tell_35 : decode cX12_tell 35 = .ok (.invokevirtual 467, 3) := by decide +kernel
theorem d_M_tell_38 : decode cX12_tell 38 = .ok (.aload_n 0, 1) := by decide +kernel
theorem d_M_tell_39 : decode cX12_tell 39 = .ok (.iload_n 1, 1) := by decide +kernel
theorem d_M_tell_40 : decode cX12_tell 40 = .ok (.iload_n 2, 1) := by decide +kernel
theorem d_M_tell_41 : decode cX12_tell 41 = .ok (.iload_n 3, 1) := by decide +kernel
theorem d_M_tell_42 : decode cX12_tell 42 = .ok (.invokevirtual 470, 3) := by decide +kernel
theorem d_M_tell_45 : decode cX12_tell 45 = .ok (.aload_n 0, 1) := by decide +kernel
theorem d_M_tell_46 : decode cX12_tell 46 = .ok (.iload_n 3, 1) := by decide +kernel
theorem d_M_tell_47 : decode cX12_tell 47 = .ok (.invokevirtual 427, 3) := by decide +kernel
theorem d_M_tell_50 : decode cX12_tell 50 = .ok (.ireturn, 1) := by decide +kernel
noncomputable def f_M_tell (x1 : Int32) (x2 : Int32) (x3 : Int32) (h : mm_H) : Option (Int32 × mm_H) := mm_let (mm_pI h 261 0 0) fun h1 => (f_M_areTwo x1 x2 h1).bind fun v4 => if v4 = 0 then (some ((-1), h1)) else ((f_M_isSecret x3 h1).bind fun v6 => if v6 = 0 then (some ((-1), h1)) else ((f_M_canTell x1 x2 x3 h1).bind fun v8 => if v8 = 0 then (some ((-1), h1)) else ((f_M_keeps h1).bind fun v10 => (f_M_tells x1 x2 x3 v10).bind fun v12 => (f_M_worthOf x3 v12).bind fun v14 => some (v14.1, v14.2))))
theorem T_M_tell (V : mm_V) (l : Launch) (x1 : Int32) (x2 : Int32) (x3 : Int32) (h : mm_H) (r : (Int32 × mm_H)) (hf : f_M_tell x1 x2 x3 h = some r) : MT V l Y_M_tell 18 [.ref 261, .int x1, .int x2, .int x3] (fun r1 h1 => r1 = some (.int r.1) ∧ h1 = r.2) h := by
  unfold f_M_tell at hf
  refine MT.intro (pn_M rfl) [(0, .ref 261), (1, .int x1), (2, .int x2), (3, .int x3)] rfl (Nat.le_of_ble_eq_true rfl) ?_
  generalize hZ : mm_Z V _ = Z0
  refine MM.aload_n (i := 0) rfl rfl d_M_tell_0 rfl ?_
  refine MM.iconst ic_0 d_M_tell_1 rfl ?_
  obtain ⟨h1, e2, hf⟩ := mm_letE hf
  refine MM.putI e2 9 tg_261 lays_9 toks_9 pq_9_0 ww_1358 d_M_tell_2 rfl ?_
  refine MM.aload_n (i := 0) rfl rfl d_M_tell_5 rfl ?_
  refine MM.iload_n (i := 1) rfl rfl d_M_tell_6 rfl ?_
  refine MM.iload_n (i := 2) rfl rfl d_M_tell_7 rfl ?_
  obtain ⟨v4, e3, hf⟩ := mm_bind hf
  refine MM.callV1 (T_M_areTwo V l x1 x2 h1 _ e3) (fun _ _ q => q) cal_M_areTwo rfl tg_261 ct_9 ww_83 ww_1831 ww_1829 (by decide) (by simp [Value.category]) d_M_tell_8 rfl ⟨rfl, rfl⟩ rfl ?_
  obtain ⟨m22, m23⟩ := mm_ifE hf
  refine MM.if_eq (tgt := 32) d_M_tell_11 rfl rfl (fun c21 => ?_) (fun c21 => ?_)
  · replace hf := m22 c21
    refine MM.iconst ic_m1 d_M_tell_32 rfl ?_
    obtain rfl := Option.some.inj hf
    subst hZ
    exact MM.iret rfl d_M_tell_33 ⟨rfl, rfl⟩
  · replace hf := m23 c21
    refine MM.aload_n (i := 0) rfl rfl d_M_tell_14 rfl ?_
    refine MM.iload_n (i := 3) rfl rfl d_M_tell_15 rfl ?_
    obtain ⟨v6, e5, hf⟩ := mm_bind hf
    refine MM.callV1 (T_M_isSecret V l x3 h1 _ e5) (fun _ _ q => q) cal_M_isSecret rfl tg_261 ct_9 ww_82 ww_1823 ww_1821 (by decide) (by simp [Value.category]) d_M_tell_16 rfl ⟨rfl, rfl⟩ rfl ?_
    obtain ⟨m19, m20⟩ := mm_ifE hf
    refine MM.if_eq (tgt := 32) d_M_tell_19 rfl rfl (fun c18 => ?_) (fun c18 => ?_)
    · replace hf := m19 c18
      refine MM.iconst ic_m1 d_M_tell_32 rfl ?_
      obtain rfl := Option.some.inj hf
      subst hZ
      exact MM.iret rfl d_M_tell_33 ⟨rfl, rfl⟩
    · replace hf := m20 c18
      refine MM.aload_n (i := 0) rfl rfl d_M_tell_22 rfl ?_
      refine MM.iload_n (i := 1) rfl rfl d_M_tell_23 rfl ?_
      refine MM.iload_n (i := 2) rfl rfl d_M_tell_24 rfl ?_
      refine MM.iload_n (i := 3) rfl rfl d_M_tell_25 rfl ?_
      obtain ⟨v8, e7, hf⟩ := mm_bind hf
      refine MM.callV1 (T_M_canTell V l x1 x2 x3 h1 _ e7) (fun _ _ q => q) cal_M_canTell rfl tg_261 ct_9 ww_85 ww_1848 ww_1846 (by decide) (by simp [Value.category]) d_M_tell_26 rfl ⟨rfl, rfl⟩ rfl ?_
      obtain ⟨m16, m17⟩ := mm_ifE hf
      refine MM.if_ne (tgt := 34) d_M_tell_29 rfl rfl (fun c15 => ?_) (fun c15 => ?_)
      · replace hf := m17 c15
        refine MM.aload_n (i := 0) rfl rfl d_M_tell_34 rfl ?_
        obtain ⟨v10, e9, hf⟩ := mm_bind hf
        refine MM.callV0 (T_M_keeps V l  h1 _ e9) (fun _ _ q => q) cal_M_keeps rfl tg_261 ct_9 ww_87 ww_1856 ww_1854 (by decide) (by simp [Value.category]) d_M_tell_35 rfl ⟨rfl, rfl⟩ rfl ?_
        refine MM.aload_n (i := 0) rfl rfl d_M_tell_38 rfl ?_
        refine MM.iload_n (i := 1) rfl rfl d_M_tell_39 rfl ?_
        refine MM.iload_n (i := 2) rfl rfl d_M_tell_40 rfl ?_
        refine MM.iload_n (i := 3) rfl rfl d_M_tell_41 rfl ?_
        obtain ⟨v12, e11, hf⟩ := mm_bind hf
        refine MM.callV0 (T_M_tells V l x1 x2 x3 v10 _ e11) (fun _ _ q => q) cal_M_tells rfl tg_261 ct_9 ww_88 ww_1863 ww_1861 (by decide) (by simp [Value.category]) d_M_tell_42 rfl ⟨rfl, rfl⟩ rfl ?_
        refine MM.aload_n (i := 0) rfl rfl d_M_tell_45 rfl ?_
        refine MM.iload_n (i := 3) rfl rfl d_M_tell_46 rfl ?_
        obtain ⟨v14, e13, hf⟩ := mm_bind hf
        refine MM.callV1 (T_M_worthOf V l x3 v12 _ e13) (fun _ _ q => q) cal_M_worthOf rfl tg_261 ct_9 ww_74 ww_1783 ww_1781 (by decide) (by simp [Value.category]) d_M_tell_47 rfl ⟨rfl, rfl⟩ rfl ?_
        obtain rfl := Option.some.inj hf
        subst hZ
        exact MM.iret rfl d_M_tell_50 ⟨rfl, rfl⟩
      · replace hf := m16 c15
        refine MM.iconst ic_m1 d_M_tell_32 rfl ?_
        obtain rfl := Option.some.inj hf
        subst hZ
        exact MM.iret rfl d_M_tell_33 ⟨rfl, rfl⟩
theorem d_M_canPay_0 : decode cX12_canPay 0 = .ok (.aload_n 0, 1) := by decide +kernel
theorem d_M_canPay_1 : decode cX12_canPay 1 = .ok (.getfield 129, 3) := by decide +kernel
theorem d_M_canPay_4 : decode cX12_canPay 4 = .ok (.bipush 78, 2) := by decide +kernel
theorem d_M_canPay_6 : decode cX12_canPay 6 = .ok (.iaload, 1) := by decide +kernel
theorem d_M_canPay_7 : decode cX12_canPay 7 = .ok (.iload_n 1, 1) := by decide +kernel
theorem d_M_canPay_8 : decode cX12_canPay 8 = .ok (.ishr, 1) := by decide +kernel
theorem d_M_canPay_9 : decode cX12_canPay 9 = .ok (.iconst 1, 1) := by decide +kernel
theorem d_M_canPay_10 : decode cX12_canPay 10 = .ok (.iand, 1) := by decide +kernel
theorem d_M_canPay_11 : decode cX12_canPay 11 = .ok (.ifCond .ne 47, 3) := by decide +kernel
theorem d_M_canPay_14 : decode cX12_canPay 14 = .ok (.iload_n 2, 1) := by decide +kernel
theorem d_M_canPay_15 : decode cX12_canPay 15 = .ok (.ifCond .le 43, 3) := by decide +kernel
theorem d_M_canPay_18 : decode cX12_canPay 18 = .ok (.iload_n 2, 1) := by decide +kernel
theorem d_M_canPay_19 : decode cX12_canPay 19 = .ok (.aload_n 0, 1) := by decide +kernel
theorem d_M_canPay_20 : decode cX12_canPay 20 = .ok (.iload_n 1, 1) := by decide +kernel
theorem d_M_canPay_21 : decode cX12_canPay 21 = .ok (.invokevirtual 430, 3) := by decide +kernel
theorem d_M_canPay_24 : decode cX12_canPay 24 = .ok (.aload_n 0, 1) := by decide +kernel
theorem d_M_canPay_25 : decode cX12_canPay 25 = .ok (.getfield 129, 3) := by decide +kernel
theorem d_M_canPay_28 : decode cX12_canPay 28 = .ok (.bipush 77, 2) := by decide +kernel
theorem d_M_canPay_30 : decode cX12_canPay 30 = .ok (.iaload, 1) := by decide +kernel
theorem d_M_canPay_31 : decode cX12_canPay 31 = .ok (.iconst (-1), 1) := by decide +kernel
theorem d_M_canPay_32 : decode cX12_canPay 32 = .ok (.ixor, 1) := by decide +kernel
theorem d_M_canPay_33 : decode cX12_canPay 33 = .ok (.iand, 1) := by decide +kernel
theorem d_M_canPay_34 : decode cX12_canPay 34 = .ok (.iconst (-1), 1) := by decide +kernel
theorem d_M_canPay_35 : decode cX12_canPay 35 = .ok (.ixor, 1) := by decide +kernel
theorem d_M_canPay_36 : decode cX12_canPay 36 = .ok (.iand, 1) := by decide +kernel
theorem d_M_canPay_37 : decode cX12_canPay 37 = .ok (.ifCond .ne 21, 3) := by decide +kernel
theorem d_M_canPay_40 : decode cX12_canPay 40 = .ok (.aload_n 0, 1) := by decide +kernel
theorem d_M_canPay_41 : decode cX12_canPay 41 = .ok (.iload_n 2, 1) := by decide +kernel
theorem d_M_canPay_42 : decode cX12_canPay 42 = .ok (.invokevirtual 433, 3) := by decide +kernel
theorem d_M_canPay_45 : decode cX12_canPay 45 = .ok (.aload_n 0, 1) := by decide +kernel
theorem d_M_canPay_46 : decode cX12_canPay 46 = .ok (.getfield 29, 3) := by decide +kernel
theorem d_M_canPay_49 : decode cX12_canPay 49 = .ok (.iload_n 1, 1) := by decide +kernel
theorem d_M_canPay_50 : decode cX12_canPay 50 = .ok (.iaload, 1) := by decide +kernel
theorem d_M_canPay_51 : decode cX12_canPay 51 = .ok (.if_icmp .lt 7, 3) := by decide +kernel
theorem d_M_canPay_54 : decode cX12_canPay 54 = .ok (.iconst 1, 1) := by decide +kernel
theorem d_M_canPay_55 : decode cX12_canPay 55 = .ok (.goto 4, 3) := by decide +kernel
theorem d_M_canPay_58 : decode cX12_canPay 58 = .ok (.iconst 0, 1) := by decide +kernel
theorem d_M_canPay_59 : decode cX12_canPay 59 = .ok (.ireturn, 1) := by decide +kernel
noncomputable def f_M_canPay (x1 : Int32) (x2 : Int32) (h : mm_H) : Option (Int32 × mm_H) := if (((h.1 301 78) >>> (x1 &&& 31)) &&& 1) = 0 then (if x2 ≤ 0 then (some (0, h)) else ((f_M_knownBy x1 h).bind fun v2 => if (x2 &&& ((v2 &&& ((h.1 301 77) ^^^ (-1))) ^^^ (-1))) = 0 then ((f_M_worthsOf x2 h).bind fun v4 => (mm_ix x1 12).bind fun k5 => if v4.1 < (v4.2.1 268 k5) then (some (0, v4.2)) else (some (1, v4.2))) else (some (0, h)))) else (some (0, h))
theorem T_M_canPay (V : mm_V) (l : Launch) (x1 : Int32) (x2 : Int32) (h : mm_H) (r : (Int32 × mm_H)) (hf : f_M_canPay x1 x2 h = some r) : MT V l Y_M_canPay 19 [.ref 261, .int x1, .int x2] (fun r1 h1 => r1 = some (.int r.1) ∧ h1 = r.2) h := by
  unfold f_M_canPay at hf
  refine MT.intro (pn_M rfl) [(0, .ref 261), (1, .int x1), (2, .int x2)] rfl (Nat.le_of_ble_eq_true rfl) ?_
  generalize hZ : mm_Z V _ = Z0
  refine MM.aload_n (i := 0) rfl rfl d_M_canPay_0 rfl ?_
  refine MM.gR 9 40 tg_261 rq_9_50 rfl lays_9 ww_1408 d_M_canPay_1 rfl ?_
  refine MM.bipush bp_78 d_M_canPay_4 rfl ?_
  refine MM.gI ix_78_123 al_301 d_M_canPay_6 rfl ?_
  refine MM.iload_n (i := 1) rfl rfl d_M_canPay_7 rfl ?_
  refine MM.ishr d_M_canPay_8 rfl ?_
  refine MM.iconst ic_1 d_M_canPay_9 rfl ?_
  refine MM.iand d_M_canPay_10 rfl ?_
  obtain ⟨m17, m18⟩ := mm_ifE hf
  refine MM.if_ne (tgt := 58) d_M_canPay_11 rfl rfl (fun c16 => ?_) (fun c16 => ?_)
  · replace hf := m18 c16
    refine MM.iconst ic_0 d_M_canPay_58 rfl ?_
    obtain rfl := Option.some.inj hf
    subst hZ
    exact MM.zret (Or.inl rfl) rfl d_M_canPay_59 ⟨rfl, rfl⟩
  · replace hf := m17 c16
    refine MM.iload_n (i := 2) rfl rfl d_M_canPay_14 rfl ?_
    obtain ⟨m14, m15⟩ := mm_ifE hf
    refine MM.if_le (tgt := 58) d_M_canPay_15 rfl rfl (fun c13 => ?_) (fun c13 => ?_)
    · replace hf := m14 c13
      refine MM.iconst ic_0 d_M_canPay_58 rfl ?_
      obtain rfl := Option.some.inj hf
      subst hZ
      exact MM.zret (Or.inl rfl) rfl d_M_canPay_59 ⟨rfl, rfl⟩
    · replace hf := m15 c13
      refine MM.iload_n (i := 2) rfl rfl d_M_canPay_18 rfl ?_
      refine MM.aload_n (i := 0) rfl rfl d_M_canPay_19 rfl ?_
      refine MM.iload_n (i := 1) rfl rfl d_M_canPay_20 rfl ?_
      obtain ⟨v2, e1, hf⟩ := mm_bind hf
      refine MM.callV1 (T_M_knownBy V l x1 h _ e1) (fun _ _ q => q) cal_M_knownBy rfl tg_261 ct_9 ww_71 ww_1771 ww_1769 (by decide) (by simp [Value.category]) d_M_canPay_21 rfl ⟨rfl, rfl⟩ rfl ?_
      refine MM.aload_n (i := 0) rfl rfl d_M_canPay_24 rfl ?_
      refine MM.gR 9 40 tg_261 rq_9_50 rfl lays_9 ww_1408 d_M_canPay_25 rfl ?_
      refine MM.bipush bp_77 d_M_canPay_28 rfl ?_
      refine MM.gI ix_77_123 al_301 d_M_canPay_30 rfl ?_
      refine MM.iconst ic_m1 d_M_canPay_31 rfl ?_
      refine MM.ixor d_M_canPay_32 rfl ?_
      refine MM.iand d_M_canPay_33 rfl ?_
      refine MM.iconst ic_m1 d_M_canPay_34 rfl ?_
      refine MM.ixor d_M_canPay_35 rfl ?_
      refine MM.iand d_M_canPay_36 rfl ?_
      obtain ⟨m11, m12⟩ := mm_ifE hf
      refine MM.if_ne (tgt := 58) d_M_canPay_37 rfl rfl (fun c10 => ?_) (fun c10 => ?_)
      · replace hf := m12 c10
        refine MM.iconst ic_0 d_M_canPay_58 rfl ?_
        obtain rfl := Option.some.inj hf
        subst hZ
        exact MM.zret (Or.inl rfl) rfl d_M_canPay_59 ⟨rfl, rfl⟩
      · replace hf := m11 c10
        refine MM.aload_n (i := 0) rfl rfl d_M_canPay_40 rfl ?_
        refine MM.iload_n (i := 2) rfl rfl d_M_canPay_41 rfl ?_
        obtain ⟨v4, e3, hf⟩ := mm_bind hf
        refine MM.callV1 (T_M_worthsOf V l x2 h _ e3) (fun _ _ q => q) cal_M_worthsOf rfl tg_261 ct_9 ww_73 ww_1779 ww_1777 (by decide) (by simp [Value.category]) d_M_canPay_42 rfl ⟨rfl, rfl⟩ rfl ?_
        refine MM.aload_n (i := 0) rfl rfl d_M_canPay_45 rfl ?_
        refine MM.gR 9 7 tg_261 rq_9_15 rfl lays_9 ww_1373 d_M_canPay_46 rfl ?_
        refine MM.iload_n (i := 1) rfl rfl d_M_canPay_49 rfl ?_
        obtain ⟨k5, e6, hf⟩ := mm_bind hf
        refine MM.gI e6 al_268 d_M_canPay_50 rfl ?_
        obtain ⟨m8, m9⟩ := mm_ifE hf
        refine MM.icmp_lt (tgt := 58) d_M_canPay_51 rfl rfl (fun c7 => ?_) (fun c7 => ?_)
        · replace hf := m8 c7
          refine MM.iconst ic_0 d_M_canPay_58 rfl ?_
          obtain rfl := Option.some.inj hf
          subst hZ
          exact MM.zret (Or.inl rfl) rfl d_M_canPay_59 ⟨rfl, rfl⟩
        · replace hf := m9 c7
          refine MM.iconst ic_1 d_M_canPay_54 rfl ?_
          refine MM.goto (tgt := 59) d_M_canPay_55 rfl ?_
          obtain rfl := Option.some.inj hf
          subst hZ
          exact MM.zret (Or.inr rfl) rfl d_M_canPay_59 ⟨rfl, rfl⟩
theorem d_M_pays_0 : decode cX12_pays 0 = .ok (.aload_n 0, 1) := by decide +kernel
theorem d_M_pays_1 : decode cX12_pays 1 = .ok (.getfield 129, 3) := by decide +kernel
theorem d_M_pays_4 : decode cX12_pays 4 = .ok (.bipush 77, 2) := by decide +kernel
theorem d_M_pays_6 : decode cX12_pays 6 = .ok (.dup2, 1) := by decide +kernel
theorem d_M_pays_7 : decode cX12_pays 7 = .ok (.iaload, 1) := by decide +kernel
theorem d_M_pays_8 : decode cX12_pays 8 = .ok (.iload_n 2, 1) := by decide +kernel
theorem d_M_pays_9 : decode cX12_pays 9 = .ok (.ior, 1) := by decide +kernel
theorem d_M_pays_10 : decode cX12_pays 10 = .ok (.iastore, 1) := by decide +kernel
theorem d_M_pays_11 : decode cX12_pays 11 = .ok (.aload_n 0, 1) := by decide +kernel
theorem d_M_pays_12 : decode cX12_pays 12 = .ok (.getfield 129, 3) := by decide +kernel
theorem d_M_pays_15 : decode cX12_pays 15 = .ok (.bipush 78, 2) := by decide +kernel
theorem d_M_pays_17 : decode cX12_pays 17 = .ok (.dup2, 1) := by decide +kernel
theorem d_M_pays_18 : decode cX12_pays 18 = .ok (.iaload, 1) := by decide +kernel
theorem d_M_pays_19 : decode cX12_pays 19 = .ok (.iconst 1, 1) := by decide +kernel
theorem d_M_pays_20 : decode cX12_pays 20 = .ok (.iload_n 1, 1) := by decide +kernel
theorem d_M_pays_21 : decode cX12_pays 21 = .ok (.ishl, 1) := by decide +kernel
theorem d_M_pays_22 : decode cX12_pays 22 = .ok (.ior, 1) := by decide +kernel
theorem d_M_pays_23 : decode cX12_pays 23 = .ok (.iastore, 1) := by decide +kernel
theorem d_M_pays_24 : decode cX12_pays 24 = .ok (.return_, 1) := by decide +kernel
noncomputable def f_M_pays (x1 : Int32) (x2 : Int32) (h : mm_H) : Option mm_H := mm_let (mm_pI h 301 77 ((h.1 301 77) ||| x2)) fun h1 => mm_let (mm_pI h1 301 78 ((h1.1 301 78) ||| ((1 : Int32) <<< (x1 &&& 31)))) fun h3 => some h3
theorem T_M_pays (V : mm_V) (l : Launch) (x1 : Int32) (x2 : Int32) (h : mm_H) (r : mm_H) (hf : f_M_pays x1 x2 h = some r) : MT V l Y_M_pays 1 [.ref 261, .int x1, .int x2] (fun r1 h1 => r1 = none ∧ h1 = r) h := by
  unfold f_M_pays at hf
  refine MT.intro (pn_M rfl) [(0, .ref 261), (1, .int x1), (2, .int x2)] rfl (Nat.le_of_ble_eq_true rfl) ?_
  generalize hZ : mm_Z V _ = Z0
  refine MM.aload_n (i := 0) rfl rfl d_M_pays_0 rfl ?_
  refine MM.gR 9 40 tg_261 rq_9_50 rfl lays_9 ww_1408 d_M_pays_1 rfl ?_
  refine MM.bipush bp_77 d_M_pays_4 rfl ?_
  refine MM.dup2 rfl rfl d_M_pays_6 rfl ?_
  refine MM.gI ix_77_123 al_301 d_M_pays_7 rfl ?_
  refine MM.iload_n (i := 2) rfl rfl d_M_pays_8 rfl ?_
  refine MM.ior d_M_pays_9 rfl ?_
  obtain ⟨h1, e2, hf⟩ := mm_letE hf
  refine MM.sI ix_77_123 e2 al_301 d_M_pays_10 rfl ?_
  refine MM.aload_n (i := 0) rfl rfl d_M_pays_11 rfl ?_
  refine MM.gR 9 40 tg_261 rq_9_50 rfl lays_9 ww_1408 d_M_pays_12 rfl ?_
  refine MM.bipush bp_78 d_M_pays_15 rfl ?_
  refine MM.dup2 rfl rfl d_M_pays_17 rfl ?_
  refine MM.gI ix_78_123 al_301 d_M_pays_18 rfl ?_
  refine MM.iconst ic_1 d_M_pays_19 rfl ?_
  refine MM.iload_n (i := 1) rfl rfl d_M_pays_20 rfl ?_
  refine MM.ishl d_M_pays_21 rfl ?_
  refine MM.ior d_M_pays_22 rfl ?_
  obtain ⟨h3, e4, hf⟩ := mm_letE hf
  refine MM.sI ix_78_123 e4 al_301 d_M_pays_23 rfl ?_
  obtain rfl := Option.some.inj hf
  subst hZ
  exact MM.vret rfl d_M_pays_24 ⟨rfl, rfl⟩
theorem d_M_pay_0 : decode cX12_pay 0 = .ok (.aload_n 0, 1) := by decide +kernel
theorem d_M_pay_1 : decode cX12_pay 1 = .ok (.iconst 0, 1) := by decide +kernel
theorem d_M_pay_2 : decode cX12_pay 2 = .ok (.putfield 175, 3) := by decide +kernel
theorem d_M_pay_5 : decode cX12_pay 5 = .ok (.aload_n 0, 1) := by decide +kernel
theorem d_M_pay_6 : decode cX12_pay 6 = .ok (.iload_n 1, 1) := by decide +kernel
theorem d_M_pay_7 : decode cX12_pay 7 = .ok (.invokevirtual 436, 3) := by decide +kernel
theorem d_M_pay_10 : decode cX12_pay 10 = .ok (.ifCond .eq 12, 3) := by decide +kernel
theorem d_M_pay_13 : decode cX12_pay 13 = .ok (.aload_n 0, 1) := by decide +kernel
theorem d_M_pay_14 : decode cX12_pay 14 = .ok (.iload_n 1, 1) := by decide +kernel
theorem d_M_pay_15 : decode cX12_pay 15 = .ok (.iload_n 2, 1) := by decide +kernel
theorem d_M_pay_16 : decode cX12_pay 16 = .ok (.invokevirtual 474, 3) := by decide +kernel
theorem d_M_pay_19 : decode cX12_pay 19 = .ok (.ifCond .ne 5, 3) := by decide +kernel
theorem d_M_pay_22 : decode cX12_pay 22 = .ok (.iconst (-1), 1) := by decide +kernel
theorem d_M_pay_23 : decode cX12_pay 23 = .ok (.ireturn, 1) := by decide +kernel
theorem d_M_pay_24 : decode cX12_pay 24 = .ok (.aload_n 0, 1) := by decide +kernel
theorem d_M_pay_25 : decode cX12_pay 25 = .ok (.invokevirtual 467, 3) := by decide +kernel
theorem d_M_pay_28 : decode cX12_pay 28 = .ok (.aload_n 0, 1) := by decide +kernel
theorem d_M_pay_29 : decode cX12_pay 29 = .ok (.iload_n 1, 1) := by decide +kernel
theorem d_M_pay_30 : decode cX12_pay 30 = .ok (.iload_n 2, 1) := by decide +kernel
theorem d_M_pay_31 : decode cX12_pay 31 = .ok (.invokevirtual 477, 3) := by decide +kernel
theorem d_M_pay_34 : decode cX12_pay 34 = .ok (.aload_n 0, 1) := by decide +kernel
theorem d_M_pay_35 : decode cX12_pay 35 = .ok (.iload_n 2, 1) := by decide +kernel
theorem d_M_pay_36 : decode cX12_pay 36 = .ok (.invokevirtual 433, 3) := by decide +kernel
theorem d_M_pay_39 : decode cX12_pay 39 = .ok (.ireturn, 1) := by decide +kernel
noncomputable def f_M_pay (x1 : Int32) (x2 : Int32) (h : mm_H) : Option (Int32 × mm_H) := mm_let (mm_pI h 261 0 0) fun h1 => (f_M_isPerson x1 h1).bind fun v4 => if v4 = 0 then (some ((-1), h1)) else ((f_M_canPay x1 x2 h1).bind fun v6 => if v6.1 = 0 then (some ((-1), v6.2)) else ((f_M_keeps v6.2).bind fun v8 => (f_M_pays x1 x2 v8).bind fun v10 => (f_M_worthsOf x2 v10).bind fun v12 => some (v12.1, v12.2)))
theorem T_M_pay (V : mm_V) (l : Launch) (x1 : Int32) (x2 : Int32) (h : mm_H) (r : (Int32 × mm_H)) (hf : f_M_pay x1 x2 h = some r) : MT V l Y_M_pay 20 [.ref 261, .int x1, .int x2] (fun r1 h1 => r1 = some (.int r.1) ∧ h1 = r.2) h := by
  unfold f_M_pay at hf
  refine MT.intro (pn_M rfl) [(0, .ref 261), (1, .int x1), (2, .int x2)] rfl (Nat.le_of_ble_eq_true rfl) ?_
  generalize hZ : mm_Z V _ = Z0
  refine MM.aload_n (i := 0) rfl rfl d_M_pay_0 rfl ?_
  refine MM.iconst ic_0 d_M_pay_1 rfl ?_
  obtain ⟨h1, e2, hf⟩ := mm_letE hf
  refine MM.putI e2 9 tg_261 lays_9 toks_9 pq_9_0 ww_1358 d_M_pay_2 rfl ?_
  refine MM.aload_n (i := 0) rfl rfl d_M_pay_5 rfl ?_
  refine MM.iload_n (i := 1) rfl rfl d_M_pay_6 rfl ?_
  obtain ⟨v4, e3, hf⟩ := mm_bind hf
  refine MM.callV1 (T_M_isPerson V l x1 h1 _ e3) (fun _ _ q => q) cal_M_isPerson rfl tg_261 ct_9 ww_70 ww_1767 ww_1765 (by decide) (by simp [Value.category]) d_M_pay_7 rfl ⟨rfl, rfl⟩ rfl ?_
  obtain ⟨m17, m18⟩ := mm_ifE hf
  refine MM.if_eq (tgt := 22) d_M_pay_10 rfl rfl (fun c16 => ?_) (fun c16 => ?_)
  · replace hf := m17 c16
    refine MM.iconst ic_m1 d_M_pay_22 rfl ?_
    obtain rfl := Option.some.inj hf
    subst hZ
    exact MM.iret rfl d_M_pay_23 ⟨rfl, rfl⟩
  · replace hf := m18 c16
    refine MM.aload_n (i := 0) rfl rfl d_M_pay_13 rfl ?_
    refine MM.iload_n (i := 1) rfl rfl d_M_pay_14 rfl ?_
    refine MM.iload_n (i := 2) rfl rfl d_M_pay_15 rfl ?_
    obtain ⟨v6, e5, hf⟩ := mm_bind hf
    refine MM.callV1 (T_M_canPay V l x1 x2 h1 _ e5) (fun _ _ q => q) cal_M_canPay rfl tg_261 ct_9 ww_89 ww_1871 ww_1869 (by decide) (by simp [Value.category]) d_M_pay_16 rfl ⟨rfl, rfl⟩ rfl ?_
    obtain ⟨m14, m15⟩ := mm_ifE hf
    refine MM.if_ne (tgt := 24) d_M_pay_19 rfl rfl (fun c13 => ?_) (fun c13 => ?_)
    · replace hf := m15 c13
      refine MM.aload_n (i := 0) rfl rfl d_M_pay_24 rfl ?_
      obtain ⟨v8, e7, hf⟩ := mm_bind hf
      refine MM.callV0 (T_M_keeps V l  v6.2 _ e7) (fun _ _ q => q) cal_M_keeps rfl tg_261 ct_9 ww_87 ww_1856 ww_1854 (by decide) (by simp [Value.category]) d_M_pay_25 rfl ⟨rfl, rfl⟩ rfl ?_
      refine MM.aload_n (i := 0) rfl rfl d_M_pay_28 rfl ?_
      refine MM.iload_n (i := 1) rfl rfl d_M_pay_29 rfl ?_
      refine MM.iload_n (i := 2) rfl rfl d_M_pay_30 rfl ?_
      obtain ⟨v10, e9, hf⟩ := mm_bind hf
      refine MM.callV0 (T_M_pays V l x1 x2 v8 _ e9) (fun _ _ q => q) cal_M_pays rfl tg_261 ct_9 ww_90 ww_1875 ww_1873 (by decide) (by simp [Value.category]) d_M_pay_31 rfl ⟨rfl, rfl⟩ rfl ?_
      refine MM.aload_n (i := 0) rfl rfl d_M_pay_34 rfl ?_
      refine MM.iload_n (i := 2) rfl rfl d_M_pay_35 rfl ?_
      obtain ⟨v12, e11, hf⟩ := mm_bind hf
      refine MM.callV1 (T_M_worthsOf V l x2 v10 _ e11) (fun _ _ q => q) cal_M_worthsOf rfl tg_261 ct_9 ww_73 ww_1779 ww_1777 (by decide) (by simp [Value.category]) d_M_pay_36 rfl ⟨rfl, rfl⟩ rfl ?_
      obtain rfl := Option.some.inj hf
      subst hZ
      exact MM.iret rfl d_M_pay_39 ⟨rfl, rfl⟩
    · replace hf := m14 c13
      refine MM.iconst ic_m1 d_M_pay_22 rfl ?_
      obtain rfl := Option.some.inj hf
      subst hZ
      exact MM.iret rfl d_M_pay_23 ⟨rfl, rfl⟩
theorem d_M_rise_0 : decode cX12_rise 0 = .ok (.aload_n 0, 1) := by decide +kernel
theorem d_M_rise_1 : decode cX12_rise 1 = .ok (.iconst 0, 1) := by decide +kernel
theorem d_M_rise_2 : decode cX12_rise 2 = .ok (.putfield 175, 3) := by decide +kernel
theorem d_M_rise_5 : decode cX12_rise 5 = .ok (.aload_n 0, 1) := by decide +kernel
theorem d_M_rise_6 : decode cX12_rise 6 = .ok (.iload_n 1, 1) := by decide +kernel
theorem d_M_rise_7 : decode cX12_rise 7 = .ok (.invokevirtual 436, 3) := by decide +kernel
theorem d_M_rise_10 : decode cX12_rise 10 = .ok (.ifCond .eq 17, 3) := by decide +kernel
theorem d_M_rise_13 : decode cX12_rise 13 = .ok (.aload_n 0, 1) := by decide +kernel
theorem d_M_rise_14 : decode cX12_rise 14 = .ok (.getfield 129, 3) := by decide +kernel
theorem d_M_rise_17 : decode cX12_rise 17 = .ok (.bipush 70, 2) := by decide +kernel
theorem d_M_rise_19 : decode cX12_rise 19 = .ok (.iload_n 1, 1) := by decide +kernel
theorem d_M_rise_20 : decode cX12_rise 20 = .ok (.iadd, 1) := by decide +kernel
theorem d_M_rise_21 : decode cX12_rise 21 = .ok (.iaload, 1) := by decide +kernel
theorem d_M_rise_22 : decode cX12_rise 22 = .ok (.bipush 9, 2) := by decide +kernel
theorem d_M_rise_24 : decode cX12_rise 24 = .ok (.if_icmp .ne 5, 3) := by decide +kernel
theorem d_M_rise_27 : decode cX12_rise 27 = .ok (.iconst (-1), 1) := by decide +kernel
theorem d_M_rise_28 : decode cX12_rise 28 = .ok (.ireturn, 1) := by decide +kernel
theorem d_M_rise_29 : decode cX12_rise 29 = .ok (.aload_n 0, 1) := by decide +kernel
theorem d_M_rise_30 : decode cX12_rise 30 = .ok (.invokevirtual 467, 3) := by decide +kernel
theorem d_M_rise_33 : decode cX12_rise 33 = .ok (.aload_n 0, 1) := by decide +kernel
theorem d_M_rise_34 : decode cX12_rise 34 = .ok (.getfield 129, 3) := by decide +kernel
theorem d_M_rise_37 : decode cX12_rise 37 = .ok (.bipush 70, 2) := by decide +kernel
theorem d_M_rise_39 : decode cX12_rise 39 = .ok (.iload_n 1, 1) := by decide +kernel
theorem d_M_rise_40 : decode cX12_rise 40 = .ok (.iadd, 1) := by decide +kernel
theorem d_M_rise_41 : decode cX12_rise 41 = .ok (.dup2, 1) := by decide +kernel
theorem d_M_rise_42 : decode cX12_rise 42 = .ok (.iaload, 1) := by decide +kernel
theorem d_M_rise_43 : decode cX12_rise 43 = .ok (.iconst 1, 1) := by decide +kernel
theorem d_M_rise_44 : decode cX12_rise 44 = .ok (.iadd, 1) := by decide +kernel
theorem d_M_rise_45 : decode cX12_rise 45 = .ok (.iastore, 1) := by decide +kernel
theorem d_M_rise_46 : decode cX12_rise 46 = .ok (.aload_n 0, 1) := by decide +kernel
theorem d_M_rise_47 : decode cX12_rise 47 = .ok (.getfield 129, 3) := by decide +kernel
theorem d_M_rise_50 : decode cX12_rise 50 = .ok (.bipush 70, 2) := by decide +kernel
theorem d_M_rise_52 : decode cX12_rise 52 = .ok (.iload_n 1, 1) := by decide +kernel
theorem d_M_rise_53 : decode cX12_rise 53 = .ok (.iadd, 1) := by decide +kernel
theorem d_M_rise_54 : decode cX12_rise 54 = .ok (.iaload, 1) := by decide +kernel
theorem d_M_rise_55 : decode cX12_rise 55 = .ok (.ireturn, 1) := by decide +kernel
noncomputable def f_M_rise (x1 : Int32) (h : mm_H) : Option (Int32 × mm_H) := mm_let (mm_pI h 261 0 0) fun h1 => (f_M_isPerson x1 h1).bind fun v4 => if v4 = 0 then (some ((-1), h1)) else ((mm_ix (70 + x1) 123).bind fun k5 => if (h1.1 301 k5) = 9 then (some ((-1), h1)) else ((f_M_keeps h1).bind fun v8 => (mm_ix (70 + x1) 123).bind fun k9 => (mm_ix (70 + x1) 123).bind fun k11 => mm_let (mm_pI v8 301 k11 ((v8.1 301 k9) + 1)) fun h13 => (mm_ix (70 + x1) 123).bind fun k15 => some ((h13.1 301 k15), h13)))
theorem T_M_rise (V : mm_V) (l : Launch) (x1 : Int32) (h : mm_H) (r : (Int32 × mm_H)) (hf : f_M_rise x1 h = some r) : MT V l Y_M_rise 3 [.ref 261, .int x1] (fun r1 h1 => r1 = some (.int r.1) ∧ h1 = r.2) h := by
  unfold f_M_rise at hf
  refine MT.intro (pn_M rfl) [(0, .ref 261), (1, .int x1)] rfl (Nat.le_of_ble_eq_true rfl) ?_
  generalize hZ : mm_Z V _ = Z0
  refine MM.aload_n (i := 0) rfl rfl d_M_rise_0 rfl ?_
  refine MM.iconst ic_0 d_M_rise_1 rfl ?_
  obtain ⟨h1, e2, hf⟩ := mm_letE hf
  refine MM.putI e2 9 tg_261 lays_9 toks_9 pq_9_0 ww_1358 d_M_rise_2 rfl ?_
  refine MM.aload_n (i := 0) rfl rfl d_M_rise_5 rfl ?_
  refine MM.iload_n (i := 1) rfl rfl d_M_rise_6 rfl ?_
  obtain ⟨v4, e3, hf⟩ := mm_bind hf
  refine MM.callV1 (T_M_isPerson V l x1 h1 _ e3) (fun _ _ q => q) cal_M_isPerson rfl tg_261 ct_9 ww_70 ww_1767 ww_1765 (by decide) (by simp [Value.category]) d_M_rise_7 rfl ⟨rfl, rfl⟩ rfl ?_
  obtain ⟨m21, m22⟩ := mm_ifE hf
  refine MM.if_eq (tgt := 27) d_M_rise_10 rfl rfl (fun c20 => ?_) (fun c20 => ?_)
  · replace hf := m21 c20
    refine MM.iconst ic_m1 d_M_rise_27 rfl ?_
    obtain rfl := Option.some.inj hf
    subst hZ
    exact MM.iret rfl d_M_rise_28 ⟨rfl, rfl⟩
  · replace hf := m22 c20
    refine MM.aload_n (i := 0) rfl rfl d_M_rise_13 rfl ?_
    refine MM.gR 9 40 tg_261 rq_9_50 rfl lays_9 ww_1408 d_M_rise_14 rfl ?_
    refine MM.bipush bp_70 d_M_rise_17 rfl ?_
    refine MM.iload_n (i := 1) rfl rfl d_M_rise_19 rfl ?_
    refine MM.iadd d_M_rise_20 rfl ?_
    obtain ⟨k5, e6, hf⟩ := mm_bind hf
    refine MM.gI e6 al_301 d_M_rise_21 rfl ?_
    refine MM.bipush bp_9 d_M_rise_22 rfl ?_
    obtain ⟨m18, m19⟩ := mm_ifE hf
    refine MM.icmp_ne (tgt := 29) d_M_rise_24 rfl rfl (fun c17 => ?_) (fun c17 => ?_)
    · replace hf := m19 c17
      refine MM.aload_n (i := 0) rfl rfl d_M_rise_29 rfl ?_
      obtain ⟨v8, e7, hf⟩ := mm_bind hf
      refine MM.callV0 (T_M_keeps V l  h1 _ e7) (fun _ _ q => q) cal_M_keeps rfl tg_261 ct_9 ww_87 ww_1856 ww_1854 (by decide) (by simp [Value.category]) d_M_rise_30 rfl ⟨rfl, rfl⟩ rfl ?_
      refine MM.aload_n (i := 0) rfl rfl d_M_rise_33 rfl ?_
      refine MM.gR 9 40 tg_261 rq_9_50 rfl lays_9 ww_1408 d_M_rise_34 rfl ?_
      refine MM.bipush bp_70 d_M_rise_37 rfl ?_
      refine MM.iload_n (i := 1) rfl rfl d_M_rise_39 rfl ?_
      refine MM.iadd d_M_rise_40 rfl ?_
      refine MM.dup2 rfl rfl d_M_rise_41 rfl ?_
      obtain ⟨k9, e10, hf⟩ := mm_bind hf
      refine MM.gI e10 al_301 d_M_rise_42 rfl ?_
      refine MM.iconst ic_1 d_M_rise_43 rfl ?_
      refine MM.iadd d_M_rise_44 rfl ?_
      obtain ⟨k11, e12, hf⟩ := mm_bind hf
      obtain ⟨h13, e14, hf⟩ := mm_letE hf
      refine MM.sI e12 e14 al_301 d_M_rise_45 rfl ?_
      refine MM.aload_n (i := 0) rfl rfl d_M_rise_46 rfl ?_
      refine MM.gR 9 40 tg_261 rq_9_50 rfl lays_9 ww_1408 d_M_rise_47 rfl ?_
      refine MM.bipush bp_70 d_M_rise_50 rfl ?_
      refine MM.iload_n (i := 1) rfl rfl d_M_rise_52 rfl ?_
      refine MM.iadd d_M_rise_53 rfl ?_
      obtain ⟨k15, e16, hf⟩ := mm_bind hf
      refine MM.gI e16 al_301 d_M_rise_54 rfl ?_
      obtain rfl := Option.some.inj hf
      subst hZ
      exact MM.iret rfl d_M_rise_55 ⟨rfl, rfl⟩
    · replace hf := m18 c17
      refine MM.iconst ic_m1 d_M_rise_27 rfl ?_
      obtain rfl := Option.some.inj hf
      subst hZ
      exact MM.iret rfl d_M_rise_28 ⟨rfl, rfl⟩
theorem d_M_passes_0 : decode cX12_passes 0 = .ok (.iconst 0, 1) := by decide +kernel
theorem d_M_passes_1 : decode cX12_passes 1 = .ok (.istore_n 1, 1) := by decide +kernel
theorem d_M_passes_2 : decode cX12_passes 2 = .ok (.iconst 0, 1) := by decide +kernel
theorem d_M_passes_3 : decode cX12_passes 3 = .ok (.istore_n 2, 1) := by decide +kernel
theorem d_M_passes_4 : decode cX12_passes 4 = .ok (.iload_n 2, 1) := by decide +kernel
theorem d_M_passes_5 : decode cX12_passes 5 = .ok (.aload_n 0, 1) := by decide +kernel
theorem d_M_passes_6 : decode cX12_passes 6 = .ok (.getfield 13, 3) := by decide +kernel
theorem d_M_passes_9 : decode cX12_passes 9 = .ok (.iconst 0, 1) := by decide +kernel
theorem d_M_passes_10 : decode cX12_passes 10 = .ok (.iaload, 1) := by decide +kernel
theorem d_M_passes_11 : decode cX12_passes 11 = .ok (.if_icmp .ge 55, 3) := by decide +kernel
theorem d_M_passes_14 : decode cX12_passes 14 = .ok (.aload_n 0, 1) := by decide +kernel
theorem d_M_passes_15 : decode cX12_passes 15 = .ok (.getfield 29, 3) := by decide +kernel
theorem d_M_passes_18 : decode cX12_passes 18 = .ok (.iload_n 2, 1) := by decide +kernel
theorem d_M_passes_19 : decode cX12_passes 19 = .ok (.iaload, 1) := by decide +kernel
theorem d_M_passes_20 : decode cX12_passes 20 = .ok (.ifCond .eq 40, 3) := by decide +kernel
theorem d_M_passes_23 : decode cX12_passes 23 = .ok (.aload_n 0, 1) := by decide +kernel
theorem d_M_passes_24 : decode cX12_passes 24 = .ok (.getfield 129, 3) := by decide +kernel
theorem d_M_passes_27 : decode cX12_passes 27 = .ok (.bipush 78, 2) := by decide +kernel
theorem d_M_passes_29 : decode cX12_passes 29 = .ok (.iaload, 1) := by decide +kernel
theorem d_M_passes_30 : decode cX12_passes 30 = .ok (.iload_n 2, 1) := by decide +kernel
theorem d_M_passes_31 : decode cX12_passes 31 = .ok (.ishr, 1) := by decide +kernel
theorem d_M_passes_32 : decode cX12_passes 32 = .ok (.iconst 1, 1) := by decide +kernel
theorem d_M_passes_33 : decode cX12_passes 33 = .ok (.iand, 1) := by decide +kernel
theorem d_M_passes_34 : decode cX12_passes 34 = .ok (.iconst 1, 1) := by decide +kernel
theorem d_M_passes_35 : decode cX12_passes 35 = .ok (.if_icmp .ne 6, 3) := by decide +kernel
theorem d_M_passes_38 : decode cX12_passes 38 = .ok (.goto 22, 3) := by decide +kernel
theorem d_M_passes_41 : decode cX12_passes 41 = .ok (.aload_n 0, 1) := by decide +kernel
theorem d_M_passes_42 : decode cX12_passes 42 = .ok (.getfield 129, 3) := by decide +kernel
theorem d_M_passes_45 : decode cX12_passes 45 = .ok (.bipush 79, 2) := by decide +kernel
theorem d_M_passes_47 : decode cX12_passes 47 = .ok (.iload_n 2, 1) := by decide +kernel
theorem d_M_passes_48 : decode cX12_passes 48 = .ok (.iadd, 1) := by decide +kernel
theorem d_M_passes_49 : decode cX12_passes 49 = .ok (.dup2, 1) := by decide +kernel
theorem d_M_passes_50 : decode cX12_passes 50 = .ok (.iaload, 1) := by decide +kernel
theorem d_M_passes_51 : decode cX12_passes 51 = .ok (.iconst 1, 1) := by decide +kernel
theorem d_M_passes_52 : decode cX12_passes 52 = .ok (.iadd, 1) := by decide +kernel
theorem d_M_passes_53 : decode cX12_passes 53 = .ok (.iastore, 1) := by decide +kernel
theorem d_M_passes_54 : decode cX12_passes 54 = .ok (.iload_n 1, 1) := by decide +kernel
theorem d_M_passes_55 : decode cX12_passes 55 = .ok (.iconst 1, 1) := by decide +kernel
theorem d_M_passes_56 : decode cX12_passes 56 = .ok (.iload_n 2, 1) := by decide +kernel
theorem d_M_passes_57 : decode cX12_passes 57 = .ok (.ishl, 1) := by decide +kernel
theorem d_M_passes_58 : decode cX12_passes 58 = .ok (.ior, 1) := by decide +kernel
theorem d_M_passes_59 : decode cX12_passes 59 = .ok (.istore_n 1, 1) := by decide +kernel
theorem d_M_passes_60 : decode cX12_passes 60 = .ok (.iinc 2 1, 3) := by decide +kernel
theorem d_M_passes_63 : decode cX12_passes 63 = .ok (.goto (-59), 3) := by decide +kernel
theorem d_M_passes_66 : decode cX12_passes 66 = .ok (.aload_n 0, 1) := by decide +kernel
theorem d_M_passes_67 : decode cX12_passes 67 = .ok (.getfield 129, 3) := by decide +kernel
theorem d_M_passes_70 : decode cX12_passes 70 = .ok (.bipush 77, 2) := by decide +kernel
theorem d_M_passes_72 : decode cX12_passes 72 = .ok (.iconst 0, 1) := by decide +kernel
theorem d_M_passes_73 : decode cX12_passes 73 = .ok (.iastore, 1) := by decide +kernel
theorem d_M_passes_74 : decode cX12_passes 74 = .ok (.aload_n 0, 1) := by decide +kernel
theorem d_M_passes_75 : decode cX12_passes 75 = .ok (.getfield 129, 3) := by decide +kernel
theorem d_M_passes_78 : decode cX12_passes 78 = .ok (.bipush 78, 2) := by decide +kernel
theorem d_M_passes_80 : decode cX12_passes 80 = .ok (.iconst 0, 1) := by decide +kernel
theorem d_M_passes_81 : decode cX12_passes 81 = .ok (.iastore, 1) := by decide +kernel
theorem d_M_passes_82 : decode cX12_passes 82 = .ok (.aload_n 0, 1) := by decide +kernel
theorem d_M_passes_83 : decode cX12_passes 83 = .ok (.getfield 129, 3) := by decide +kernel
theorem d_M_passes_86 : decode cX12_passes 86 = .ok (.bipush 85, 2) := by decide +kernel
theorem d_M_passes_88 : decode cX12_passes 88 = .ok (.dup2, 1) := by decide +kernel
theorem d_M_passes_89 : decode cX12_passes 89 = .ok (.iaload, 1) := by decide +kernel
theorem d_M_passes_90 : decode cX12_passes 90 = .ok (.iconst 1, 1) := by decide +kernel
theorem d_M_passes_91 : decode cX12_passes 91 = .ok (.iadd, 1) := by decide +kernel
theorem d_M_passes_92 : decode cX12_passes 92 = .ok (.iastore, 1) := by decide +kernel
theorem d_M_passes_93 : decode cX12_passes 93 = .ok (.iload_n 1, 1) := by decide +kernel
theorem d_M_passes_94 : decode cX12_passes 94 = .ok (.ireturn, 1) := by decide +kernel
noncomputable def f_M_passes (h : mm_H) : Option (Int32 × mm_H) := (mm_while (σ := (Int32 × Int32 × mm_H)) (ρ := (Int32 × mm_H)) (fun s1 => if (s1.2.2.1 263 0) ≤ s1.2.1 then (some (Sum.inr (s1.1, s1.2.2))) else ((mm_ix s1.2.1 12).bind fun k7 => (if (s1.2.2.1 268 k7) = 0 then (some (s1.1, s1.2.2)) else (if (((s1.2.2.1 301 78) >>> (s1.2.1 &&& 31)) &&& 1) = 1 then (some (s1.1, s1.2.2)) else ((mm_ix (79 + s1.2.1) 123).bind fun k11 => (mm_ix (79 + s1.2.1) 123).bind fun k13 => mm_let (mm_pI s1.2.2 301 k13 ((s1.2.2.1 301 k11) + 1)) fun h15 => mm_let (s1.1 ||| ((1 : Int32) <<< (s1.2.1 &&& 31))) fun y17 => some (y17, h15))) : Option (Int32 × mm_H)).bind fun j9 => mm_let (s1.2.1 + 1) fun y25 => some (Sum.inl (j9.1, y25, j9.2)))) (0, 0, h)).bind fun v4 => mm_let (mm_pI v4.2 301 77 0) fun h31 => mm_let (mm_pI h31 301 78 0) fun h33 => mm_let (mm_pI h33 301 85 ((h33.1 301 85) + 1)) fun h35 => some (v4.1, h35)
theorem T_M_passes (V : mm_V) (l : Launch) (h : mm_H) (r : (Int32 × mm_H)) (hf : f_M_passes h = some r) : MT V l Y_M_passes 1 [.ref 261] (fun r1 h1 => r1 = some (.int r.1) ∧ h1 = r.2) h := by
  unfold f_M_passes at hf
  refine MT.intro (pn_M rfl) [(0, .ref 261)] rfl (Nat.le_of_ble_eq_true rfl) ?_
  generalize hZ : mm_Z V _ = Z0
  refine MM.iconst ic_0 d_M_passes_0 rfl ?_
  refine MM.istore_n (i := 1) (lv' := [(1, .int 0), (0, .ref 261)]) rfl rfl (Nat.le_of_ble_eq_true rfl) rfl d_M_passes_1 rfl ?_
  refine MM.iconst ic_0 d_M_passes_2 rfl ?_
  refine MM.istore_n (i := 2) (lv' := [(2, .int 0), (1, .int 0), (0, .ref 261)]) rfl rfl (Nat.le_of_ble_eq_true rfl) rfl d_M_passes_3 rfl ?_
  obtain ⟨v4, e6, hf⟩ := mm_bind hf
  have K5 : MM V l Y_M_passes 1 0 0 Z0 66 [(0, .ref 261), (1, .int v4.1)] [] v4.2 := by
    refine MM.aload_n (i := 0) rfl rfl d_M_passes_66 rfl ?_
    refine MM.gR 9 40 tg_261 rq_9_50 rfl lays_9 ww_1408 d_M_passes_67 rfl ?_
    refine MM.bipush bp_77 d_M_passes_70 rfl ?_
    refine MM.iconst ic_0 d_M_passes_72 rfl ?_
    obtain ⟨h31, e32, hf⟩ := mm_letE hf
    refine MM.sI ix_77_123 e32 al_301 d_M_passes_73 rfl ?_
    refine MM.aload_n (i := 0) rfl rfl d_M_passes_74 rfl ?_
    refine MM.gR 9 40 tg_261 rq_9_50 rfl lays_9 ww_1408 d_M_passes_75 rfl ?_
    refine MM.bipush bp_78 d_M_passes_78 rfl ?_
    refine MM.iconst ic_0 d_M_passes_80 rfl ?_
    obtain ⟨h33, e34, hf⟩ := mm_letE hf
    refine MM.sI ix_78_123 e34 al_301 d_M_passes_81 rfl ?_
    refine MM.aload_n (i := 0) rfl rfl d_M_passes_82 rfl ?_
    refine MM.gR 9 40 tg_261 rq_9_50 rfl lays_9 ww_1408 d_M_passes_83 rfl ?_
    refine MM.bipush bp_85 d_M_passes_86 rfl ?_
    refine MM.dup2 rfl rfl d_M_passes_88 rfl ?_
    refine MM.gI ix_85_123 al_301 d_M_passes_89 rfl ?_
    refine MM.iconst ic_1 d_M_passes_90 rfl ?_
    refine MM.iadd d_M_passes_91 rfl ?_
    obtain ⟨h35, e36, hf⟩ := mm_letE hf
    refine MM.sI ix_85_123 e36 al_301 d_M_passes_92 rfl ?_
    refine MM.iload_n (i := 1) rfl rfl d_M_passes_93 rfl ?_
    obtain rfl := Option.some.inj hf
    subst hZ
    exact MM.iret rfl d_M_passes_94 ⟨rfl, rfl⟩
  clear hf
  refine MM.sub [2, 1, 0] (by rfl) (mm_while_ind (fun s1 => MM V l Y_M_passes 1 0 0 Z0 4 [(0, .ref 261), (1, .int s1.1), (2, .int s1.2.1)] [] s1.2.2) e6 (fun s1 q2 hf hx3 => ?_))
  refine MM.iload_n (i := 2) rfl rfl d_M_passes_4 rfl ?_
  refine MM.aload_n (i := 0) rfl rfl d_M_passes_5 rfl ?_
  refine MM.gR 9 2 tg_261 rq_9_10 rfl lays_9 ww_1368 d_M_passes_6 rfl ?_
  refine MM.iconst ic_0 d_M_passes_9 rfl ?_
  refine MM.gI ix_0_8 al_263 d_M_passes_10 rfl ?_
  obtain ⟨m29, m30⟩ := mm_ifE hf
  refine MM.icmp_ge (tgt := 66) d_M_passes_11 rfl rfl (fun c28 => ?_) (fun c28 => ?_)
  · replace hf := m29 c28
    obtain rfl := Option.some.inj hf
    obtain rfl := Option.some.inj (mm_wxR hx3)
    exact MM.sub [0, 1] (by rfl) K5
  · replace hf := m30 c28
    refine MM.aload_n (i := 0) rfl rfl d_M_passes_14 rfl ?_
    refine MM.gR 9 7 tg_261 rq_9_15 rfl lays_9 ww_1373 d_M_passes_15 rfl ?_
    refine MM.iload_n (i := 2) rfl rfl d_M_passes_18 rfl ?_
    obtain ⟨k7, e8, hf⟩ := mm_bind hf
    refine MM.gI e8 al_268 d_M_passes_19 rfl ?_
    obtain ⟨j9, e27, hf⟩ := mm_bind hf
    have K10 : MM V l Y_M_passes 1 0 0 Z0 60 [(0, .ref 261), (1, .int j9.1), (2, .int s1.2.1)] [] j9.2 := by
      obtain ⟨y25, e26, hf⟩ := mm_letE hf
      refine MM.iinc (k0 := 2) (lv' := [(2, .int y25), (0, .ref 261), (1, .int j9.1)]) (by rw [ic_1]; exact e26) rfl (Nat.le_of_ble_eq_true rfl) rfl d_M_passes_60 rfl ?_
      refine MM.goto (tgt := 4) d_M_passes_63 rfl ?_
      obtain rfl := Option.some.inj hf
      have h9 := mm_wxL hx3
      exact MM.sub [1, 2, 0] (by rfl) h9
    clear hf
    have hf := e27
    clear e27
    obtain ⟨m23, m24⟩ := mm_ifE hf
    refine MM.if_eq (tgt := 60) d_M_passes_20 rfl rfl (fun c22 => ?_) (fun c22 => ?_)
    · replace hf := m23 c22
      obtain rfl := Option.some.inj hf
      exact MM.sub [0, 1, 2] (by rfl) K10
    · replace hf := m24 c22
      refine MM.aload_n (i := 0) rfl rfl d_M_passes_23 rfl ?_
      refine MM.gR 9 40 tg_261 rq_9_50 rfl lays_9 ww_1408 d_M_passes_24 rfl ?_
      refine MM.bipush bp_78 d_M_passes_27 rfl ?_
      refine MM.gI ix_78_123 al_301 d_M_passes_29 rfl ?_
      refine MM.iload_n (i := 2) rfl rfl d_M_passes_30 rfl ?_
      refine MM.ishr d_M_passes_31 rfl ?_
      refine MM.iconst ic_1 d_M_passes_32 rfl ?_
      refine MM.iand d_M_passes_33 rfl ?_
      refine MM.iconst ic_1 d_M_passes_34 rfl ?_
      obtain ⟨m20, m21⟩ := mm_ifE hf
      refine MM.icmp_ne (tgt := 41) d_M_passes_35 rfl rfl (fun c19 => ?_) (fun c19 => ?_)
      · replace hf := m21 c19
        refine MM.aload_n (i := 0) rfl rfl d_M_passes_41 rfl ?_
        refine MM.gR 9 40 tg_261 rq_9_50 rfl lays_9 ww_1408 d_M_passes_42 rfl ?_
        refine MM.bipush bp_79 d_M_passes_45 rfl ?_
        refine MM.iload_n (i := 2) rfl rfl d_M_passes_47 rfl ?_
        refine MM.iadd d_M_passes_48 rfl ?_
        refine MM.dup2 rfl rfl d_M_passes_49 rfl ?_
        obtain ⟨k11, e12, hf⟩ := mm_bind hf
        refine MM.gI e12 al_301 d_M_passes_50 rfl ?_
        refine MM.iconst ic_1 d_M_passes_51 rfl ?_
        refine MM.iadd d_M_passes_52 rfl ?_
        obtain ⟨k13, e14, hf⟩ := mm_bind hf
        obtain ⟨h15, e16, hf⟩ := mm_letE hf
        refine MM.sI e14 e16 al_301 d_M_passes_53 rfl ?_
        refine MM.iload_n (i := 1) rfl rfl d_M_passes_54 rfl ?_
        refine MM.iconst ic_1 d_M_passes_55 rfl ?_
        refine MM.iload_n (i := 2) rfl rfl d_M_passes_56 rfl ?_
        refine MM.ishl d_M_passes_57 rfl ?_
        refine MM.ior d_M_passes_58 rfl ?_
        obtain ⟨y17, e18, hf⟩ := mm_letE hf
        refine MM.istore_n (i := 1) (lv' := [(1, .int y17), (0, .ref 261), (2, .int s1.2.1)]) e18 rfl (Nat.le_of_ble_eq_true rfl) rfl d_M_passes_59 rfl ?_
        obtain rfl := Option.some.inj hf
        exact MM.sub [1, 0, 2] (by rfl) K10
      · replace hf := m20 c19
        refine MM.goto (tgt := 60) d_M_passes_38 rfl ?_
        obtain rfl := Option.some.inj hf
        exact MM.sub [0, 1, 2] (by rfl) K10
theorem d_M_quarter_0 : decode cX12_quarter 0 = .ok (.aload_n 0, 1) := by decide +kernel
theorem d_M_quarter_1 : decode cX12_quarter 1 = .ok (.iconst 0, 1) := by decide +kernel
theorem d_M_quarter_2 : decode cX12_quarter 2 = .ok (.putfield 175, 3) := by decide +kernel
theorem d_M_quarter_5 : decode cX12_quarter 5 = .ok (.aload_n 0, 1) := by decide +kernel
theorem d_M_quarter_6 : decode cX12_quarter 6 = .ok (.invokevirtual 467, 3) := by decide +kernel
theorem d_M_quarter_9 : decode cX12_quarter 9 = .ok (.aload_n 0, 1) := by decide +kernel
theorem d_M_quarter_10 : decode cX12_quarter 10 = .ok (.invokevirtual 480, 3) := by decide +kernel
theorem d_M_quarter_13 : decode cX12_quarter 13 = .ok (.ireturn, 1) := by decide +kernel
noncomputable def f_M_quarter (h : mm_H) : Option (Int32 × mm_H) := mm_let (mm_pI h 261 0 0) fun h1 => (f_M_keeps h1).bind fun v4 => (f_M_passes v4).bind fun v6 => some (v6.1, v6.2)
theorem T_M_quarter (V : mm_V) (l : Launch) (h : mm_H) (r : (Int32 × mm_H)) (hf : f_M_quarter h = some r) : MT V l Y_M_quarter 3 [.ref 261] (fun r1 h1 => r1 = some (.int r.1) ∧ h1 = r.2) h := by
  unfold f_M_quarter at hf
  refine MT.intro (pn_M rfl) [(0, .ref 261)] rfl (Nat.le_of_ble_eq_true rfl) ?_
  generalize hZ : mm_Z V _ = Z0
  refine MM.aload_n (i := 0) rfl rfl d_M_quarter_0 rfl ?_
  refine MM.iconst ic_0 d_M_quarter_1 rfl ?_
  obtain ⟨h1, e2, hf⟩ := mm_letE hf
  refine MM.putI e2 9 tg_261 lays_9 toks_9 pq_9_0 ww_1358 d_M_quarter_2 rfl ?_
  refine MM.aload_n (i := 0) rfl rfl d_M_quarter_5 rfl ?_
  obtain ⟨v4, e3, hf⟩ := mm_bind hf
  refine MM.callV0 (T_M_keeps V l  h1 _ e3) (fun _ _ q => q) cal_M_keeps rfl tg_261 ct_9 ww_87 ww_1856 ww_1854 (by decide) (by simp [Value.category]) d_M_quarter_6 rfl ⟨rfl, rfl⟩ rfl ?_
  refine MM.aload_n (i := 0) rfl rfl d_M_quarter_9 rfl ?_
  obtain ⟨v6, e5, hf⟩ := mm_bind hf
  refine MM.callV1 (T_M_passes V l  v4 _ e5) (fun _ _ q => q) cal_M_passes rfl tg_261 ct_9 ww_91 ww_1887 ww_1885 (by decide) (by simp [Value.category]) d_M_quarter_10 rfl ⟨rfl, rfl⟩ rfl ?_
  obtain rfl := Option.some.inj hf
  subst hZ
  exact MM.iret rfl d_M_quarter_13 ⟨rfl, rfl⟩
theorem d_M_lend_0 : decode cX12_lend 0 = .ok (.aload_n 0, 1) := by decide +kernel
theorem d_M_lend_1 : decode cX12_lend 1 = .ok (.iconst 0, 1) := by decide +kernel
theorem d_M_lend_2 : decode cX12_lend 2 = .ok (.putfield 175, 3) := by decide +kernel
theorem d_M_lend_5 : decode cX12_lend 5 = .ok (.aload_n 0, 1) := by decide +kernel
theorem d_M_lend_6 : decode cX12_lend 6 = .ok (.iload_n 1, 1) := by decide +kernel
theorem d_M_lend_7 : decode cX12_lend 7 = .ok (.iload_n 2, 1) := by decide +kernel
theorem d_M_lend_8 : decode cX12_lend 8 = .ok (.invokevirtual 448, 3) := by decide +kernel
theorem d_M_lend_11 : decode cX12_lend 11 = .ok (.ifCond .eq 46, 3) := by decide +kernel
theorem d_M_lend_14 : decode cX12_lend 14 = .ok (.aload_n 0, 1) := by decide +kernel
theorem d_M_lend_15 : decode cX12_lend 15 = .ok (.iload_n 3, 1) := by decide +kernel
theorem d_M_lend_16 : decode cX12_lend 16 = .ok (.invokevirtual 445, 3) := by decide +kernel
theorem d_M_lend_19 : decode cX12_lend 19 = .ok (.ifCond .eq 38, 3) := by decide +kernel
theorem d_M_lend_22 : decode cX12_lend 22 = .ok (.aload_n 0, 1) := by decide +kernel
theorem d_M_lend_23 : decode cX12_lend 23 = .ok (.getfield 35, 3) := by decide +kernel
theorem d_M_lend_26 : decode cX12_lend 26 = .ok (.iload_n 3, 1) := by decide +kernel
theorem d_M_lend_27 : decode cX12_lend 27 = .ok (.iaload, 1) := by decide +kernel
theorem d_M_lend_28 : decode cX12_lend 28 = .ok (.iload_n 2, 1) := by decide +kernel
theorem d_M_lend_29 : decode cX12_lend 29 = .ok (.if_icmp .ne 28, 3) := by decide +kernel
theorem d_M_lend_32 : decode cX12_lend 32 = .ok (.aload_n 0, 1) := by decide +kernel
theorem d_M_lend_33 : decode cX12_lend 33 = .ok (.getfield 129, 3) := by decide +kernel
theorem d_M_lend_36 : decode cX12_lend 36 = .ok (.iload_n 3, 1) := by decide +kernel
theorem d_M_lend_37 : decode cX12_lend 37 = .ok (.iaload, 1) := by decide +kernel
theorem d_M_lend_38 : decode cX12_lend 38 = .ok (.iload_n 1, 1) := by decide +kernel
theorem d_M_lend_39 : decode cX12_lend 39 = .ok (.ishr, 1) := by decide +kernel
theorem d_M_lend_40 : decode cX12_lend 40 = .ok (.iconst 1, 1) := by decide +kernel
theorem d_M_lend_41 : decode cX12_lend 41 = .ok (.iand, 1) := by decide +kernel
theorem d_M_lend_42 : decode cX12_lend 42 = .ok (.ifCond .eq 15, 3) := by decide +kernel
theorem d_M_lend_45 : decode cX12_lend 45 = .ok (.aload_n 0, 1) := by decide +kernel
theorem d_M_lend_46 : decode cX12_lend 46 = .ok (.getfield 129, 3) := by decide +kernel
theorem d_M_lend_49 : decode cX12_lend 49 = .ok (.bipush 122, 2) := by decide +kernel
theorem d_M_lend_51 : decode cX12_lend 51 = .ok (.iaload, 1) := by decide +kernel
theorem d_M_lend_52 : decode cX12_lend 52 = .ok (.bipush 12, 2) := by decide +kernel
theorem d_M_lend_54 : decode cX12_lend 54 = .ok (.if_icmp .ne 5, 3) := by decide +kernel
theorem d_M_lend_57 : decode cX12_lend 57 = .ok (.iconst (-1), 1) := by decide +kernel
theorem d_M_lend_58 : decode cX12_lend 58 = .ok (.ireturn, 1) := by decide +kernel
theorem d_M_lend_59 : decode cX12_lend 59 = .ok (.aload_n 0, 1) := by decide +kernel
theorem d_M_lend_60 : decode cX12_lend 60 = .ok (.invokevirtual 467, 3) := by decide +kernel
theorem d_M_lend_63 : decode cX12_lend 63 = .ok (.aload_n 0, 1) := by decide +kernel
theorem d_M_lend_64 : decode cX12_lend 64 = .ok (.iload_n 3, 1) := by decide +kernel
theorem d_M_lend_65 : decode cX12_lend 65 = .ok (.invokevirtual 427, 3) := by decide +kernel
theorem d_M_lend_68 : decode cX12_lend 68 = .ok (.istore 4, 2) := by decide +kernel
theorem d_M_lend_70 : decode cX12_lend 70 = .ok (.aload_n 0, 1) := by decide +kernel
theorem d_M_lend_71 : decode cX12_lend 71 = .ok (.getfield 129, 3) := by decide +kernel
theorem d_M_lend_74 : decode cX12_lend 74 = .ok (.bipush 86, 2) := by decide +kernel
theorem d_M_lend_76 : decode cX12_lend 76 = .ok (.bipush 6, 2) := by decide +kernel
theorem d_M_lend_78 : decode cX12_lend 78 = .ok (.iload_n 2, 1) := by decide +kernel
theorem d_M_lend_79 : decode cX12_lend 79 = .ok (.imul, 1) := by decide +kernel
theorem d_M_lend_80 : decode cX12_lend 80 = .ok (.iadd, 1) := by decide +kernel
theorem d_M_lend_81 : decode cX12_lend 81 = .ok (.iload_n 1, 1) := by decide +kernel
theorem d_M_lend_82 : decode cX12_lend 82 = .ok (.iadd, 1) := by decide +kernel
theorem d_M_lend_83 : decode cX12_lend 83 = .ok (.dup2, 1) := by decide +kernel
theorem d_M_lend_84 : decode cX12_lend 84 = .ok (.iaload, 1) := by decide +kernel
theorem d_M_lend_85 : decode cX12_lend 85 = .ok (.iload 4, 2) := by decide +kernel
theorem d_M_lend_87 : decode cX12_lend 87 = .ok (.iadd, 1) := by decide +kernel
theorem d_M_lend_88 : decode cX12_lend 88 = .ok (.iastore, 1) := by decide +kernel
theorem d_M_lend_89 : decode cX12_lend 89 = .ok (.aload_n 0, 1) := by decide +kernel
theorem d_M_lend_90 : decode cX12_lend 90 = .ok (.getfield 129, 3) := by decide +kernel
theorem d_M_lend_93 : decode cX12_lend 93 = .ok (.bipush 122, 2) := by decide +kernel
theorem d_M_lend_95 : decode cX12_lend 95 = .ok (.dup2, 1) := by decide +kernel
theorem d_M_lend_96 : decode cX12_lend 96 = .ok (.iaload, 1) := by decide +kernel
theorem d_M_lend_97 : decode cX12_lend 97 = .ok (.iconst 1, 1) := by decide +kernel
theorem d_M_lend_98 : decode cX12_lend 98 = .ok (.iadd, 1) := by decide +kernel
theorem d_M_lend_99 : decode cX12_lend 99 = .ok (.iastore, 1) := by decide +kernel
theorem d_M_lend_100 : decode cX12_lend 100 = .ok (.iload 4, 2) := by decide +kernel
theorem d_M_lend_102 : decode cX12_lend 102 = .ok (.ireturn, 1) := by decide +kernel
noncomputable def f_M_lend (x1 : Int32) (x2 : Int32) (x3 : Int32) (h : mm_H) : Option (Int32 × mm_H) := mm_let (mm_pI h 261 0 0) fun h1 => (f_M_areTwo x1 x2 h1).bind fun v4 => if v4 = 0 then (some ((-1), h1)) else ((f_M_isSecret x3 h1).bind fun v6 => if v6 = 0 then (some ((-1), h1)) else ((mm_ix x3 20).bind fun k7 => if (h1.1 270 k7) = x2 then ((mm_ix x3 123).bind fun k9 => if (((h1.1 301 k9) >>> (x1 &&& 31)) &&& 1) = 0 then (some ((-1), h1)) else (if (h1.1 301 122) = 12 then (some ((-1), h1)) else ((f_M_keeps h1).bind fun v12 => (f_M_worthOf x3 v12).bind fun v14 => (mm_ix ((86 + (6 * x2)) + x1) 123).bind fun k15 => (mm_ix ((86 + (6 * x2)) + x1) 123).bind fun k17 => mm_let (mm_pI v14.2 301 k17 ((v14.2.1 301 k15) + v14.1)) fun h19 => mm_let (mm_pI h19 301 122 ((h19.1 301 122) + 1)) fun h21 => some (v14.1, h21)))) else (some ((-1), h1))))
theorem T_M_lend (V : mm_V) (l : Launch) (x1 : Int32) (x2 : Int32) (x3 : Int32) (h : mm_H) (r : (Int32 × mm_H)) (hf : f_M_lend x1 x2 x3 h = some r) : MT V l Y_M_lend 18 [.ref 261, .int x1, .int x2, .int x3] (fun r1 h1 => r1 = some (.int r.1) ∧ h1 = r.2) h := by
  unfold f_M_lend at hf
  refine MT.intro (pn_M rfl) [(0, .ref 261), (1, .int x1), (2, .int x2), (3, .int x3)] rfl (Nat.le_of_ble_eq_true rfl) ?_
  generalize hZ : mm_Z V _ = Z0
  refine MM.aload_n (i := 0) rfl rfl d_M_lend_0 rfl ?_
  refine MM.iconst ic_0 d_M_lend_1 rfl ?_
  obtain ⟨h1, e2, hf⟩ := mm_letE hf
  refine MM.putI e2 9 tg_261 lays_9 toks_9 pq_9_0 ww_1358 d_M_lend_2 rfl ?_
  refine MM.aload_n (i := 0) rfl rfl d_M_lend_5 rfl ?_
  refine MM.iload_n (i := 1) rfl rfl d_M_lend_6 rfl ?_
  refine MM.iload_n (i := 2) rfl rfl d_M_lend_7 rfl ?_
  obtain ⟨v4, e3, hf⟩ := mm_bind hf
  refine MM.callV1 (T_M_areTwo V l x1 x2 h1 _ e3) (fun _ _ q => q) cal_M_areTwo rfl tg_261 ct_9 ww_83 ww_1831 ww_1829 (by decide) (by simp [Value.category]) d_M_lend_8 rfl ⟨rfl, rfl⟩ rfl ?_
  obtain ⟨m36, m37⟩ := mm_ifE hf
  refine MM.if_eq (tgt := 57) d_M_lend_11 rfl rfl (fun c35 => ?_) (fun c35 => ?_)
  · replace hf := m36 c35
    refine MM.iconst ic_m1 d_M_lend_57 rfl ?_
    obtain rfl := Option.some.inj hf
    subst hZ
    exact MM.iret rfl d_M_lend_58 ⟨rfl, rfl⟩
  · replace hf := m37 c35
    refine MM.aload_n (i := 0) rfl rfl d_M_lend_14 rfl ?_
    refine MM.iload_n (i := 3) rfl rfl d_M_lend_15 rfl ?_
    obtain ⟨v6, e5, hf⟩ := mm_bind hf
    refine MM.callV1 (T_M_isSecret V l x3 h1 _ e5) (fun _ _ q => q) cal_M_isSecret rfl tg_261 ct_9 ww_82 ww_1823 ww_1821 (by decide) (by simp [Value.category]) d_M_lend_16 rfl ⟨rfl, rfl⟩ rfl ?_
    obtain ⟨m33, m34⟩ := mm_ifE hf
    refine MM.if_eq (tgt := 57) d_M_lend_19 rfl rfl (fun c32 => ?_) (fun c32 => ?_)
    · replace hf := m33 c32
      refine MM.iconst ic_m1 d_M_lend_57 rfl ?_
      obtain rfl := Option.some.inj hf
      subst hZ
      exact MM.iret rfl d_M_lend_58 ⟨rfl, rfl⟩
    · replace hf := m34 c32
      refine MM.aload_n (i := 0) rfl rfl d_M_lend_22 rfl ?_
      refine MM.gR 9 9 tg_261 rq_9_17 rfl lays_9 ww_1375 d_M_lend_23 rfl ?_
      refine MM.iload_n (i := 3) rfl rfl d_M_lend_26 rfl ?_
      obtain ⟨k7, e8, hf⟩ := mm_bind hf
      refine MM.gI e8 al_270 d_M_lend_27 rfl ?_
      refine MM.iload_n (i := 2) rfl rfl d_M_lend_28 rfl ?_
      obtain ⟨m30, m31⟩ := mm_ifE hf
      refine MM.icmp_ne (tgt := 57) d_M_lend_29 rfl rfl (fun c29 => ?_) (fun c29 => ?_)
      · replace hf := m31 c29
        refine MM.iconst ic_m1 d_M_lend_57 rfl ?_
        obtain rfl := Option.some.inj hf
        subst hZ
        exact MM.iret rfl d_M_lend_58 ⟨rfl, rfl⟩
      · replace hf := m30 c29
        refine MM.aload_n (i := 0) rfl rfl d_M_lend_32 rfl ?_
        refine MM.gR 9 40 tg_261 rq_9_50 rfl lays_9 ww_1408 d_M_lend_33 rfl ?_
        refine MM.iload_n (i := 3) rfl rfl d_M_lend_36 rfl ?_
        obtain ⟨k9, e10, hf⟩ := mm_bind hf
        refine MM.gI e10 al_301 d_M_lend_37 rfl ?_
        refine MM.iload_n (i := 1) rfl rfl d_M_lend_38 rfl ?_
        refine MM.ishr d_M_lend_39 rfl ?_
        refine MM.iconst ic_1 d_M_lend_40 rfl ?_
        refine MM.iand d_M_lend_41 rfl ?_
        obtain ⟨m27, m28⟩ := mm_ifE hf
        refine MM.if_eq (tgt := 57) d_M_lend_42 rfl rfl (fun c26 => ?_) (fun c26 => ?_)
        · replace hf := m27 c26
          refine MM.iconst ic_m1 d_M_lend_57 rfl ?_
          obtain rfl := Option.some.inj hf
          subst hZ
          exact MM.iret rfl d_M_lend_58 ⟨rfl, rfl⟩
        · replace hf := m28 c26
          refine MM.aload_n (i := 0) rfl rfl d_M_lend_45 rfl ?_
          refine MM.gR 9 40 tg_261 rq_9_50 rfl lays_9 ww_1408 d_M_lend_46 rfl ?_
          refine MM.bipush bp_122 d_M_lend_49 rfl ?_
          refine MM.gI ix_122_123 al_301 d_M_lend_51 rfl ?_
          refine MM.bipush bp_12 d_M_lend_52 rfl ?_
          obtain ⟨m24, m25⟩ := mm_ifE hf
          refine MM.icmp_ne (tgt := 59) d_M_lend_54 rfl rfl (fun c23 => ?_) (fun c23 => ?_)
          · replace hf := m25 c23
            refine MM.aload_n (i := 0) rfl rfl d_M_lend_59 rfl ?_
            obtain ⟨v12, e11, hf⟩ := mm_bind hf
            refine MM.callV0 (T_M_keeps V l  h1 _ e11) (fun _ _ q => q) cal_M_keeps rfl tg_261 ct_9 ww_87 ww_1856 ww_1854 (by decide) (by simp [Value.category]) d_M_lend_60 rfl ⟨rfl, rfl⟩ rfl ?_
            refine MM.aload_n (i := 0) rfl rfl d_M_lend_63 rfl ?_
            refine MM.iload_n (i := 3) rfl rfl d_M_lend_64 rfl ?_
            obtain ⟨v14, e13, hf⟩ := mm_bind hf
            refine MM.callV1 (T_M_worthOf V l x3 v12 _ e13) (fun _ _ q => q) cal_M_worthOf rfl tg_261 ct_9 ww_74 ww_1783 ww_1781 (by decide) (by simp [Value.category]) d_M_lend_65 rfl ⟨rfl, rfl⟩ rfl ?_
            refine MM.istore (lv' := [(4, .int v14.1), (0, .ref 261), (1, .int x1), (2, .int x2), (3, .int x3)]) rfl (Nat.le_of_ble_eq_true rfl) rfl d_M_lend_68 rfl ?_
            refine MM.aload_n (i := 0) rfl rfl d_M_lend_70 rfl ?_
            refine MM.gR 9 40 tg_261 rq_9_50 rfl lays_9 ww_1408 d_M_lend_71 rfl ?_
            refine MM.bipush bp_86 d_M_lend_74 rfl ?_
            refine MM.bipush bp_6 d_M_lend_76 rfl ?_
            refine MM.iload_n (i := 2) rfl rfl d_M_lend_78 rfl ?_
            refine MM.imul d_M_lend_79 rfl ?_
            refine MM.iadd d_M_lend_80 rfl ?_
            refine MM.iload_n (i := 1) rfl rfl d_M_lend_81 rfl ?_
            refine MM.iadd d_M_lend_82 rfl ?_
            refine MM.dup2 rfl rfl d_M_lend_83 rfl ?_
            obtain ⟨k15, e16, hf⟩ := mm_bind hf
            refine MM.gI e16 al_301 d_M_lend_84 rfl ?_
            refine MM.iload rfl d_M_lend_85 rfl ?_
            refine MM.iadd d_M_lend_87 rfl ?_
            obtain ⟨k17, e18, hf⟩ := mm_bind hf
            obtain ⟨h19, e20, hf⟩ := mm_letE hf
            refine MM.sI e18 e20 al_301 d_M_lend_88 rfl ?_
            refine MM.aload_n (i := 0) rfl rfl d_M_lend_89 rfl ?_
            refine MM.gR 9 40 tg_261 rq_9_50 rfl lays_9 ww_1408 d_M_lend_90 rfl ?_
            refine MM.bipush bp_122 d_M_lend_93 rfl ?_
            refine MM.dup2 rfl rfl d_M_lend_95 rfl ?_
            refine MM.gI ix_122_123 al_301 d_M_lend_96 rfl ?_
            refine MM.iconst ic_1 d_M_lend_97 rfl ?_
            refine MM.iadd d_M_lend_98 rfl ?_
            obtain ⟨h21, e22, hf⟩ := mm_letE hf
            refine MM.sI ix_122_123 e22 al_301 d_M_lend_99 rfl ?_
            refine MM.iload rfl d_M_lend_100 rfl ?_
            obtain rfl := Option.some.inj hf
            subst hZ
            exact MM.iret rfl d_M_lend_102 ⟨rfl, rfl⟩
          · replace hf := m24 c23
            refine MM.iconst ic_m1 d_M_lend_57 rfl ?_
            obtain rfl := Option.some.inj hf
            subst hZ
            exact MM.iret rfl d_M_lend_58 ⟨rfl, rfl⟩
theorem d_M_undo_0 : decode cX12_undo 0 = .ok (.aload_n 0, 1) := by decide +kernel
theorem d_M_undo_1 : decode cX12_undo 1 = .ok (.iconst 0, 1) := by decide +kernel
theorem d_M_undo_2 : decode cX12_undo 2 = .ok (.putfield 175, 3) := by decide +kernel
theorem d_M_undo_5 : decode cX12_undo 5 = .ok (.aload_n 0, 1) := by decide +kernel
theorem d_M_undo_6 : decode cX12_undo 6 = .ok (.getfield 398, 3) := by decide +kernel
theorem d_M_undo_9 : decode cX12_undo 9 = .ok (.ifCond .ne 5, 3) := by decide +kernel
theorem d_M_undo_12 : decode cX12_undo 12 = .ok (.iconst 0, 1) := by decide +kernel
theorem d_M_undo_13 : decode cX12_undo 13 = .ok (.ireturn, 1) := by decide +kernel
theorem d_M_undo_14 : decode cX12_undo 14 = .ok (.aload_n 0, 1) := by decide +kernel
theorem d_M_undo_15 : decode cX12_undo 15 = .ok (.dup, 1) := by decide +kernel
theorem d_M_undo_16 : decode cX12_undo 16 = .ok (.getfield 398, 3) := by decide +kernel
theorem d_M_undo_19 : decode cX12_undo 19 = .ok (.iconst 1, 1) := by decide +kernel
theorem d_M_undo_20 : decode cX12_undo 20 = .ok (.isub, 1) := by decide +kernel
theorem d_M_undo_21 : decode cX12_undo 21 = .ok (.putfield 398, 3) := by decide +kernel
theorem d_M_undo_24 : decode cX12_undo 24 = .ok (.aload_n 0, 1) := by decide +kernel
theorem d_M_undo_25 : decode cX12_undo 25 = .ok (.getfield 138, 3) := by decide +kernel
theorem d_M_undo_28 : decode cX12_undo 28 = .ok (.bipush 123, 2) := by decide +kernel
theorem d_M_undo_30 : decode cX12_undo 30 = .ok (.aload_n 0, 1) := by decide +kernel
theorem d_M_undo_31 : decode cX12_undo 31 = .ok (.getfield 398, 3) := by decide +kernel
theorem d_M_undo_34 : decode cX12_undo 34 = .ok (.imul, 1) := by decide +kernel
theorem d_M_undo_35 : decode cX12_undo 35 = .ok (.aload_n 0, 1) := by decide +kernel
theorem d_M_undo_36 : decode cX12_undo 36 = .ok (.getfield 129, 3) := by decide +kernel
theorem d_M_undo_39 : decode cX12_undo 39 = .ok (.iconst 0, 1) := by decide +kernel
theorem d_M_undo_40 : decode cX12_undo 40 = .ok (.invokestatic 457, 3) := by decide +kernel
theorem d_M_undo_43 : decode cX12_undo 43 = .ok (.iconst 1, 1) := by decide +kernel
theorem d_M_undo_44 : decode cX12_undo 44 = .ok (.ireturn, 1) := by decide +kernel
noncomputable def f_M_undo (h : mm_H) : Option (Int32 × mm_H) := mm_let (mm_pI h 261 0 0) fun h1 => if (h1.1 261 55) = 0 then (some (0, h1)) else (mm_let (mm_pI h1 261 55 ((h1.1 261 55) - 1)) fun h3 => (f_M_copies 304 (123 * (h3.1 261 55)) 301 0 h3).bind fun v6 => some (1, v6))
theorem T_M_undo (V : mm_V) (l : Launch) (h : mm_H) (r : (Int32 × mm_H)) (hf : f_M_undo h = some r) : MT V l Y_M_undo 2 [.ref 261] (fun r1 h1 => r1 = some (.int r.1) ∧ h1 = r.2) h := by
  unfold f_M_undo at hf
  refine MT.intro (pn_M rfl) [(0, .ref 261)] rfl (Nat.le_of_ble_eq_true rfl) ?_
  generalize hZ : mm_Z V _ = Z0
  refine MM.aload_n (i := 0) rfl rfl d_M_undo_0 rfl ?_
  refine MM.iconst ic_0 d_M_undo_1 rfl ?_
  obtain ⟨h1, e2, hf⟩ := mm_letE hf
  refine MM.putI e2 9 tg_261 lays_9 toks_9 pq_9_0 ww_1358 d_M_undo_2 rfl ?_
  refine MM.aload_n (i := 0) rfl rfl d_M_undo_5 rfl ?_
  refine MM.getI 9 tg_261 lays_9 gq_9_55 ww_1413 d_M_undo_6 rfl ?_
  obtain ⟨m8, m9⟩ := mm_ifE hf
  refine MM.if_ne (tgt := 14) d_M_undo_9 rfl rfl (fun c7 => ?_) (fun c7 => ?_)
  · replace hf := m9 c7
    refine MM.aload_n (i := 0) rfl rfl d_M_undo_14 rfl ?_
    refine MM.dup rfl d_M_undo_15 rfl ?_
    refine MM.getI 9 tg_261 lays_9 gq_9_55 ww_1413 d_M_undo_16 rfl ?_
    refine MM.iconst ic_1 d_M_undo_19 rfl ?_
    refine MM.isub d_M_undo_20 rfl ?_
    obtain ⟨h3, e4, hf⟩ := mm_letE hf
    refine MM.putI e4 9 tg_261 lays_9 toks_9 pq_9_55 ww_1413 d_M_undo_21 rfl ?_
    refine MM.aload_n (i := 0) rfl rfl d_M_undo_24 rfl ?_
    refine MM.gR 9 43 tg_261 rq_9_53 rfl lays_9 ww_1411 d_M_undo_25 rfl ?_
    refine MM.bipush bp_123 d_M_undo_28 rfl ?_
    refine MM.aload_n (i := 0) rfl rfl d_M_undo_30 rfl ?_
    refine MM.getI 9 tg_261 lays_9 gq_9_55 ww_1413 d_M_undo_31 rfl ?_
    refine MM.imul d_M_undo_34 rfl ?_
    refine MM.aload_n (i := 0) rfl rfl d_M_undo_35 rfl ?_
    refine MM.gR 9 40 tg_261 rq_9_50 rfl lays_9 ww_1408 d_M_undo_36 rfl ?_
    refine MM.iconst ic_0 d_M_undo_39 rfl ?_
    obtain ⟨v6, e5, hf⟩ := mm_bind hf
    refine MM.callS0 (T_M_copies V l 304 (123 * (h3.1 261 55)) 301 0 h3 _ e5) (fun _ _ q => q) cal_M_copies rfl ww_1859 ww_1858 (by decide) (by simp [Value.category]) d_M_undo_40 rfl ⟨rfl, rfl⟩ rfl ?_
    refine MM.iconst ic_1 d_M_undo_43 rfl ?_
    obtain rfl := Option.some.inj hf
    subst hZ
    exact MM.zret (Or.inr rfl) rfl d_M_undo_44 ⟨rfl, rfl⟩
  · replace hf := m8 c7
    refine MM.iconst ic_0 d_M_undo_12 rfl ?_
    obtain rfl := Option.some.inj hf
    subst hZ
    exact MM.zret (Or.inl rfl) rfl d_M_undo_13 ⟨rfl, rfl⟩
