/-! methods: St_owe, X_lend, JM_floorMod, X_undo, X_tryLine, To_allSecrets, X_judge, X_judged, Co_weighSets, Co_isLesser, Co_fewest, X_least, Co_admit, Co_mostAtOnce, X_payers -/
theorem d_St_owe_0 : decode cX5_owe 0 = .ok (.aload_n 0, 1) := by decide +kernel
theorem d_St_owe_1 : decode cX5_owe 1 = .ok (.getfield 25, 3) := by decide +kernel
theorem d_St_owe_4 : decode cX5_owe 4 = .ok (.iload_n 1, 1) := by decide +kernel
theorem d_St_owe_5 : decode cX5_owe 5 = .ok (.dup2, 1) := by decide +kernel
theorem d_St_owe_6 : decode cX5_owe 6 = .ok (.iaload, 1) := by decide +kernel
theorem d_St_owe_7 : decode cX5_owe 7 = .ok (.iload_n 3, 1) := by decide +kernel
theorem d_St_owe_8 : decode cX5_owe 8 = .ok (.iadd, 1) := by decide +kernel
theorem d_St_owe_9 : decode cX5_owe 9 = .ok (.iastore, 1) := by decide +kernel
theorem d_St_owe_10 : decode cX5_owe 10 = .ok (.aload_n 0, 1) := by decide +kernel
theorem d_St_owe_11 : decode cX5_owe 11 = .ok (.getfield 25, 3) := by decide +kernel
theorem d_St_owe_14 : decode cX5_owe 14 = .ok (.iload_n 2, 1) := by decide +kernel
theorem d_St_owe_15 : decode cX5_owe 15 = .ok (.dup2, 1) := by decide +kernel
theorem d_St_owe_16 : decode cX5_owe 16 = .ok (.iaload, 1) := by decide +kernel
theorem d_St_owe_17 : decode cX5_owe 17 = .ok (.iload_n 3, 1) := by decide +kernel
theorem d_St_owe_18 : decode cX5_owe 18 = .ok (.isub, 1) := by decide +kernel
theorem d_St_owe_19 : decode cX5_owe 19 = .ok (.iastore, 1) := by decide +kernel
theorem d_St_owe_20 : decode cX5_owe 20 = .ok (.aload_n 0, 1) := by decide +kernel
theorem d_St_owe_21 : decode cX5_owe 21 = .ok (.dup, 1) := by decide +kernel
theorem d_St_owe_22 : decode cX5_owe 22 = .ok (.getfield 38, 3) := by decide +kernel
theorem d_St_owe_25 : decode cX5_owe 25 = .ok (.iconst 1, 1) := by decide +kernel
theorem d_St_owe_26 : decode cX5_owe 26 = .ok (.iadd, 1) := by decide +kernel
theorem d_St_owe_27 : decode cX5_owe 27 = .ok (.putfield 38, 3) := by decide +kernel
theorem d_St_owe_30 : decode cX5_owe 30 = .ok (.return_, 1) := by decide +kernel
noncomputable def f_St_owe (a0 : Nat) (x1 : Int32) (x2 : Int32) (x3 : Int32) (h : mm_H) : Option mm_H := if mm_tg a0 = 4 then ((mm_ix x1 6).bind fun k1 => (mm_ix x1 6).bind fun k3 => mm_let (mm_pI h (a0 + 5) k3 ((h.1 (a0 + 5) k1) + x3)) fun h5 => (mm_ix x2 6).bind fun k7 => (mm_ix x2 6).bind fun k9 => mm_let (mm_pI h5 (a0 + 5) k9 ((h5.1 (a0 + 5) k7) - x3)) fun h11 => mm_let (mm_pI h11 a0 8 ((h11.1 a0 8) + 1)) fun h13 => some h13) else none
theorem T_St_owe (V : mm_V) (l : Launch) (a0 : Nat) (x1 : Int32) (x2 : Int32) (x3 : Int32) (h : mm_H) (r : mm_H) (hf : f_St_owe a0 x1 x2 x3 h = some r) : MT V l Y_St_owe 1 [.ref a0, .int x1, .int x2, .int x3] (fun r1 h1 => r1 = none ∧ h1 = r) h := by
  unfold f_St_owe at hf
  obtain ⟨t_a0, hf⟩ := mm_chkE hf
  refine MT.intro (pn_St rfl) [(0, .ref a0), (1, .int x1), (2, .int x2), (3, .int x3)] rfl (Nat.le_of_ble_eq_true rfl) ?_
  generalize hZ : mm_Z V _ = Z0
  refine MM.aload_n (i := 0) rfl rfl d_St_owe_0 rfl ?_
  refine MM.gR 4 5 t_a0 rq_4_4 rfl lays_4 ww_208 d_St_owe_1 rfl ?_
  refine MM.iload_n (i := 1) rfl rfl d_St_owe_4 rfl ?_
  refine MM.dup2 rfl rfl d_St_owe_5 rfl ?_
  obtain ⟨k1, e2, hf⟩ := mm_bind hf
  refine MM.gI e2 (al_4_4f t_a0) d_St_owe_6 rfl ?_
  refine MM.iload_n (i := 3) rfl rfl d_St_owe_7 rfl ?_
  refine MM.iadd d_St_owe_8 rfl ?_
  obtain ⟨k3, e4, hf⟩ := mm_bind hf
  obtain ⟨h5, e6, hf⟩ := mm_letE hf
  refine MM.sI e4 e6 (al_4_4f t_a0) d_St_owe_9 rfl ?_
  refine MM.aload_n (i := 0) rfl rfl d_St_owe_10 rfl ?_
  refine MM.gR 4 5 t_a0 rq_4_4 rfl lays_4 ww_208 d_St_owe_11 rfl ?_
  refine MM.iload_n (i := 2) rfl rfl d_St_owe_14 rfl ?_
  refine MM.dup2 rfl rfl d_St_owe_15 rfl ?_
  obtain ⟨k7, e8, hf⟩ := mm_bind hf
  refine MM.gI e8 (al_4_4f t_a0) d_St_owe_16 rfl ?_
  refine MM.iload_n (i := 3) rfl rfl d_St_owe_17 rfl ?_
  refine MM.isub d_St_owe_18 rfl ?_
  obtain ⟨k9, e10, hf⟩ := mm_bind hf
  obtain ⟨h11, e12, hf⟩ := mm_letE hf
  refine MM.sI e10 e12 (al_4_4f t_a0) d_St_owe_19 rfl ?_
  refine MM.aload_n (i := 0) rfl rfl d_St_owe_20 rfl ?_
  refine MM.dup rfl d_St_owe_21 rfl ?_
  refine MM.getI 4 t_a0 lays_4 gq_4_8 ww_218 d_St_owe_22 rfl ?_
  refine MM.iconst ic_1 d_St_owe_25 rfl ?_
  refine MM.iadd d_St_owe_26 rfl ?_
  obtain ⟨h13, e14, hf⟩ := mm_letE hf
  refine MM.putI e14 4 t_a0 lays_4 toks_4 pq_4_8 ww_218 d_St_owe_27 rfl ?_
  obtain rfl := Option.some.inj hf
  subst hZ
  exact MM.vret rfl d_St_owe_30 ⟨rfl, rfl⟩
theorem d_X_lend_0 : decode cX11_lend 0 = .ok (.aload_n 0, 1) := by decide +kernel
theorem d_X_lend_1 : decode cX11_lend 1 = .ok (.getfield 19, 3) := by decide +kernel
theorem d_X_lend_4 : decode cX11_lend 4 = .ok (.aload_n 0, 1) := by decide +kernel
theorem d_X_lend_5 : decode cX11_lend 5 = .ok (.getfield 81, 3) := by decide +kernel
theorem d_X_lend_8 : decode cX11_lend 8 = .ok (.iload_n 1, 1) := by decide +kernel
theorem d_X_lend_9 : decode cX11_lend 9 = .ok (.iload_n 2, 1) := by decide +kernel
theorem d_X_lend_10 : decode cX11_lend 10 = .ok (.iload_n 3, 1) := by decide +kernel
theorem d_X_lend_11 : decode cX11_lend 11 = .ok (.invokevirtual 239, 3) := by decide +kernel
theorem d_X_lend_14 : decode cX11_lend 14 = .ok (.ifCond .ne 5, 3) := by decide +kernel
theorem d_X_lend_17 : decode cX11_lend 17 = .ok (.iconst (-1), 1) := by decide +kernel
theorem d_X_lend_18 : decode cX11_lend 18 = .ok (.ireturn, 1) := by decide +kernel
theorem d_X_lend_19 : decode cX11_lend 19 = .ok (.aload_n 0, 1) := by decide +kernel
theorem d_X_lend_20 : decode cX11_lend 20 = .ok (.invokevirtual 220, 3) := by decide +kernel
theorem d_X_lend_23 : decode cX11_lend 23 = .ok (.aload_n 0, 1) := by decide +kernel
theorem d_X_lend_24 : decode cX11_lend 24 = .ok (.aload_n 0, 1) := by decide +kernel
theorem d_X_lend_25 : decode cX11_lend 25 = .ok (.getfield 19, 3) := by decide +kernel
theorem d_X_lend_28 : decode cX11_lend 28 = .ok (.invokevirtual 153, 3) := by decide +kernel
theorem d_X_lend_31 : decode cX11_lend 31 = .ok (.iload_n 3, 1) := by decide +kernel
theorem d_X_lend_32 : decode cX11_lend 32 = .ok (.iaload, 1) := by decide +kernel
theorem d_X_lend_33 : decode cX11_lend 33 = .ok (.istore 4, 2) := by decide +kernel
theorem d_X_lend_35 : decode cX11_lend 35 = .ok (.aload_n 0, 1) := by decide +kernel
theorem d_X_lend_36 : decode cX11_lend 36 = .ok (.getfield 19, 3) := by decide +kernel
theorem d_X_lend_39 : decode cX11_lend 39 = .ok (.iload_n 1, 1) := by decide +kernel
theorem d_X_lend_40 : decode cX11_lend 40 = .ok (.iload_n 2, 1) := by decide +kernel
theorem d_X_lend_41 : decode cX11_lend 41 = .ok (.iload 4, 2) := by decide +kernel
theorem d_X_lend_43 : decode cX11_lend 43 = .ok (.invokevirtual 242, 3) := by decide +kernel
theorem d_X_lend_46 : decode cX11_lend 46 = .ok (.iload 4, 2) := by decide +kernel
theorem d_X_lend_48 : decode cX11_lend 48 = .ok (.ireturn, 1) := by decide +kernel
noncomputable def f_X_lend (x1 : Int32) (x2 : Int32) (x3 : Int32) (h : mm_H) : Option (Int32 × mm_H) := (mm_gT h 14).bind fun t1 => (f_St_mayLend 35 t1 x1 x2 x3 h).bind fun v4 => if v4 = 0 then (some ((-1), h)) else ((f_X_remember h).bind fun v6 => (f_X_weighed 35 v6).bind fun v8 => (mm_ix x3 10).bind fun k9 => mm_let (v8.1 76 k9) fun y11 => (f_St_owe 35 x1 x2 y11 v8).bind fun v14 => some (y11, v14))
theorem T_X_lend (V : mm_V) (l : Launch) (x1 : Int32) (x2 : Int32) (x3 : Int32) (h : mm_H) (r : (Int32 × mm_H)) (hf : f_X_lend x1 x2 x3 h = some r) : MT V l Y_X_lend 6 [.ref 32, .int x1, .int x2, .int x3] (fun r1 h1 => r1 = some (.int r.1) ∧ h1 = r.2) h := by
  unfold f_X_lend at hf
  refine MT.intro (pn_X rfl) [(0, .ref 32), (1, .int x1), (2, .int x2), (3, .int x3)] rfl (Nat.le_of_ble_eq_true rfl) ?_
  generalize hZ : mm_Z V _ = Z0
  refine MM.aload_n (i := 0) rfl rfl d_X_lend_0 rfl ?_
  refine MM.gR 8 3 tg_32 rq_8_1 rfl lays_8 ww_473 d_X_lend_1 rfl ?_
  refine MM.aload_n (i := 0) rfl rfl d_X_lend_4 rfl ?_
  obtain ⟨t1, e2, hf⟩ := mm_bind hf
  obtain ⟨e2, t_t1⟩ := mm_gTE e2
  refine MM.gT e2 tg_32 tq_14 lays_8 ww_486 d_X_lend_5 rfl ?_
  refine MM.iload_n (i := 1) rfl rfl d_X_lend_8 rfl ?_
  refine MM.iload_n (i := 2) rfl rfl d_X_lend_9 rfl ?_
  refine MM.iload_n (i := 3) rfl rfl d_X_lend_10 rfl ?_
  obtain ⟨v4, e3, hf⟩ := mm_bind hf
  refine MM.callV1 (T_St_mayLend V l 35 t1 x1 x2 x3 h _ e3) (fun _ _ q => q) cal_St_mayLend rfl tg_35 ct_4 ww_1019 ww_1018 ww_1017 (by decide) (by simp [Value.category]) d_X_lend_11 rfl ⟨rfl, rfl⟩ rfl ?_
  obtain ⟨m16, m17⟩ := mm_ifE hf
  refine MM.if_ne (tgt := 19) d_X_lend_14 rfl rfl (fun c15 => ?_) (fun c15 => ?_)
  · replace hf := m17 c15
    refine MM.aload_n (i := 0) rfl rfl d_X_lend_19 rfl ?_
    obtain ⟨v6, e5, hf⟩ := mm_bind hf
    refine MM.callV0 (T_X_remember V l  h _ e5) (fun _ _ q => q) cal_X_remember rfl tg_32 ct_8 ww_9 ww_965 ww_963 (by decide) (by simp [Value.category]) d_X_lend_20 rfl ⟨rfl, rfl⟩ rfl ?_
    refine MM.aload_n (i := 0) rfl rfl d_X_lend_23 rfl ?_
    refine MM.aload_n (i := 0) rfl rfl d_X_lend_24 rfl ?_
    refine MM.gR 8 3 tg_32 rq_8_1 rfl lays_8 ww_473 d_X_lend_25 rfl ?_
    obtain ⟨v8, e7, hf⟩ := mm_bind hf
    refine MM.callV1 (T_X_weighed V l 35 v6 _ e7) (fun _ _ q => q) cal_X_weighed rfl tg_32 ct_8 ww_8 ww_900 ww_898 (by decide) (by simp [Value.category]) d_X_lend_28 rfl ⟨rfl, rfl⟩ rfl ?_
    refine MM.iload_n (i := 3) rfl rfl d_X_lend_31 rfl ?_
    obtain ⟨k9, e10, hf⟩ := mm_bind hf
    refine MM.gI e10 al_76 d_X_lend_32 rfl ?_
    obtain ⟨y11, e12, hf⟩ := mm_letE hf
    refine MM.istore (lv' := [(4, .int y11), (0, .ref 32), (1, .int x1), (2, .int x2), (3, .int x3)]) e12 (Nat.le_of_ble_eq_true rfl) rfl d_X_lend_33 rfl ?_
    refine MM.aload_n (i := 0) rfl rfl d_X_lend_35 rfl ?_
    refine MM.gR 8 3 tg_32 rq_8_1 rfl lays_8 ww_473 d_X_lend_36 rfl ?_
    refine MM.iload_n (i := 1) rfl rfl d_X_lend_39 rfl ?_
    refine MM.iload_n (i := 2) rfl rfl d_X_lend_40 rfl ?_
    refine MM.iload rfl d_X_lend_41 rfl ?_
    obtain ⟨v14, e13, hf⟩ := mm_bind hf
    refine MM.callV0 (T_St_owe V l 35 x1 x2 y11 v8 _ e13) (fun _ _ q => q) cal_St_owe rfl tg_35 ct_4 ww_1023 ww_1022 ww_1021 (by decide) (by simp [Value.category]) d_X_lend_43 rfl ⟨rfl, rfl⟩ rfl ?_
    refine MM.iload rfl d_X_lend_46 rfl ?_
    obtain rfl := Option.some.inj hf
    subst hZ
    exact MM.iret rfl d_X_lend_48 ⟨rfl, rfl⟩
  · replace hf := m16 c15
    refine MM.iconst ic_m1 d_X_lend_17 rfl ?_
    obtain rfl := Option.some.inj hf
    subst hZ
    exact MM.iret rfl d_X_lend_18 ⟨rfl, rfl⟩
theorem d_JM_floorMod_0 : decode cJ9_floorMod_7cf53 0 = .ok (.iload_n 0, 1) := by decide +kernel
theorem d_JM_floorMod_1 : decode cJ9_floorMod_7cf53 1 = .ok (.iload_n 1, 1) := by decide +kernel
theorem d_JM_floorMod_2 : decode cJ9_floorMod_7cf53 2 = .ok (.irem, 1) := by decide +kernel
theorem d_JM_floorMod_3 : decode cJ9_floorMod_7cf53 3 = .ok (.istore_n 2, 1) := by decide +kernel
theorem d_JM_floorMod_4 : decode cJ9_floorMod_7cf53 4 = .ok (.iload_n 0, 1) := by decide +kernel
theorem d_JM_floorMod_5 : decode cJ9_floorMod_7cf53 5 = .ok (.iload_n 1, 1) := by decide +kernel
theorem d_JM_floorMod_6 : decode cJ9_floorMod_7cf53 6 = .ok (.ixor, 1) := by decide +kernel
theorem d_JM_floorMod_7 : decode cJ9_floorMod_7cf53 7 = .ok (.ifCond .ge 11, 3) := by decide +kernel
theorem d_JM_floorMod_10 : decode cJ9_floorMod_7cf53 10 = .ok (.iload_n 2, 1) := by decide +kernel
theorem d_JM_floorMod_11 : decode cJ9_floorMod_7cf53 11 = .ok (.ifCond .eq 7, 3) := by decide +kernel
theorem d_JM_floorMod_14 : decode cJ9_floorMod_7cf53 14 = .ok (.iload_n 2, 1) := by decide +kernel
theorem d_JM_floorMod_15 : decode cJ9_floorMod_7cf53 15 = .ok (.iload_n 1, 1) := by decide +kernel
theorem d_JM_floorMod_16 : decode cJ9_floorMod_7cf53 16 = .ok (.iadd, 1) := by decide +kernel
theorem d_JM_floorMod_17 : decode cJ9_floorMod_7cf53 17 = .ok (.ireturn, 1) := by decide +kernel
theorem d_JM_floorMod_18 : decode cJ9_floorMod_7cf53 18 = .ok (.iload_n 2, 1) := by decide +kernel
theorem d_JM_floorMod_19 : decode cJ9_floorMod_7cf53 19 = .ok (.ireturn, 1) := by decide +kernel
noncomputable def f_JM_floorMod (x0 : Int32) (x1 : Int32) : Option Int32 := (mm_nzI x1).bind fun _ => mm_let (x0 - x0 / x1 * x1) fun y3 => if 0 ≤ (x0 ^^^ x1) then (some y3) else (if y3 = 0 then (some y3) else (some (y3 + x1)))
theorem T_JM_floorMod (V : mm_V) (l : Launch) (x0 : Int32) (x1 : Int32) (h : mm_H) (r : Int32) (hf : f_JM_floorMod x0 x1 = some r) : MT V l Y_JM_floorMod 1 [.int x0, .int x1] (fun r1 h1 => r1 = some (.int r) ∧ h1 = h) h := by
  unfold f_JM_floorMod at hf
  refine MT.intro (pn_JM_floorMod) [(0, .int x0), (1, .int x1)] rfl (Nat.le_of_ble_eq_true rfl) ?_
  generalize hZ : mm_Z V _ = Z0
  refine MM.iload_n (i := 0) rfl rfl d_JM_floorMod_0 rfl ?_
  refine MM.iload_n (i := 1) rfl rfl d_JM_floorMod_1 rfl ?_
  obtain ⟨u1, e2, hf⟩ := mm_bind hf
  refine MM.irem (mm_nzIE e2) d_JM_floorMod_2 rfl ?_
  obtain ⟨y3, e4, hf⟩ := mm_letE hf
  refine MM.istore_n (i := 2) (lv' := [(2, .int y3), (0, .int x0), (1, .int x1)]) e4 rfl (Nat.le_of_ble_eq_true rfl) rfl d_JM_floorMod_3 rfl ?_
  refine MM.iload_n (i := 0) rfl rfl d_JM_floorMod_4 rfl ?_
  refine MM.iload_n (i := 1) rfl rfl d_JM_floorMod_5 rfl ?_
  refine MM.ixor d_JM_floorMod_6 rfl ?_
  obtain ⟨m9, m10⟩ := mm_ifE hf
  refine MM.if_ge (tgt := 18) d_JM_floorMod_7 rfl rfl (fun c8 => ?_) (fun c8 => ?_)
  · replace hf := m9 c8
    refine MM.iload_n (i := 2) rfl rfl d_JM_floorMod_18 rfl ?_
    obtain rfl := Option.some.inj hf
    subst hZ
    exact MM.iret rfl d_JM_floorMod_19 ⟨rfl, rfl⟩
  · replace hf := m10 c8
    refine MM.iload_n (i := 2) rfl rfl d_JM_floorMod_10 rfl ?_
    obtain ⟨m6, m7⟩ := mm_ifE hf
    refine MM.if_eq (tgt := 18) d_JM_floorMod_11 rfl rfl (fun c5 => ?_) (fun c5 => ?_)
    · replace hf := m6 c5
      refine MM.iload_n (i := 2) rfl rfl d_JM_floorMod_18 rfl ?_
      obtain rfl := Option.some.inj hf
      subst hZ
      exact MM.iret rfl d_JM_floorMod_19 ⟨rfl, rfl⟩
    · replace hf := m7 c5
      refine MM.iload_n (i := 2) rfl rfl d_JM_floorMod_14 rfl ?_
      refine MM.iload_n (i := 1) rfl rfl d_JM_floorMod_15 rfl ?_
      refine MM.iadd d_JM_floorMod_16 rfl ?_
      obtain rfl := Option.some.inj hf
      subst hZ
      exact MM.iret rfl d_JM_floorMod_17 ⟨rfl, rfl⟩
theorem d_X_undo_0 : decode cX11_undo 0 = .ok (.aload_n 0, 1) := by decide +kernel
theorem d_X_undo_1 : decode cX11_undo 1 = .ok (.getfield 88, 3) := by decide +kernel
theorem d_X_undo_4 : decode cX11_undo 4 = .ok (.ifCond .gt 5, 3) := by decide +kernel
theorem d_X_undo_7 : decode cX11_undo 7 = .ok (.iconst 0, 1) := by decide +kernel
theorem d_X_undo_8 : decode cX11_undo 8 = .ok (.ireturn, 1) := by decide +kernel
theorem d_X_undo_9 : decode cX11_undo 9 = .ok (.aload_n 0, 1) := by decide +kernel
theorem d_X_undo_10 : decode cX11_undo 10 = .ok (.dup, 1) := by decide +kernel
theorem d_X_undo_11 : decode cX11_undo 11 = .ok (.getfield 88, 3) := by decide +kernel
theorem d_X_undo_14 : decode cX11_undo 14 = .ok (.iconst 1, 1) := by decide +kernel
theorem d_X_undo_15 : decode cX11_undo 15 = .ok (.isub, 1) := by decide +kernel
theorem d_X_undo_16 : decode cX11_undo 16 = .ok (.putfield 88, 3) := by decide +kernel
theorem d_X_undo_19 : decode cX11_undo 19 = .ok (.aload_n 0, 1) := by decide +kernel
theorem d_X_undo_20 : decode cX11_undo 20 = .ok (.aload_n 0, 1) := by decide +kernel
theorem d_X_undo_21 : decode cX11_undo 21 = .ok (.getfield 92, 3) := by decide +kernel
theorem d_X_undo_24 : decode cX11_undo 24 = .ok (.iconst 1, 1) := by decide +kernel
theorem d_X_undo_25 : decode cX11_undo 25 = .ok (.isub, 1) := by decide +kernel
theorem d_X_undo_26 : decode cX11_undo 26 = .ok (.bipush 16, 2) := by decide +kernel
theorem d_X_undo_28 : decode cX11_undo 28 = .ok (.invokestatic 246, 3) := by decide +kernel
theorem d_X_undo_31 : decode cX11_undo 31 = .ok (.putfield 92, 3) := by decide +kernel
theorem d_X_undo_34 : decode cX11_undo 34 = .ok (.aload_n 0, 1) := by decide +kernel
theorem d_X_undo_35 : decode cX11_undo 35 = .ok (.getfield 19, 3) := by decide +kernel
theorem d_X_undo_38 : decode cX11_undo 38 = .ok (.aload_n 0, 1) := by decide +kernel
theorem d_X_undo_39 : decode cX11_undo 39 = .ok (.getfield 36, 3) := by decide +kernel
theorem d_X_undo_42 : decode cX11_undo 42 = .ok (.aload_n 0, 1) := by decide +kernel
theorem d_X_undo_43 : decode cX11_undo 43 = .ok (.getfield 92, 3) := by decide +kernel
theorem d_X_undo_46 : decode cX11_undo 46 = .ok (.aaload, 1) := by decide +kernel
theorem d_X_undo_47 : decode cX11_undo 47 = .ok (.invokevirtual 251, 3) := by decide +kernel
theorem d_X_undo_50 : decode cX11_undo 50 = .ok (.iconst 1, 1) := by decide +kernel
theorem d_X_undo_51 : decode cX11_undo 51 = .ok (.ireturn, 1) := by decide +kernel
noncomputable def f_X_undo (h : mm_H) : Option (Int32 × mm_H) := if 0 < (h.1 32 16) then (mm_let (mm_pI h 32 16 ((h.1 32 16) - 1)) fun h1 => (f_JM_floorMod ((h1.1 32 17) - 1) 16).bind fun v4 => mm_let (mm_pI h1 32 17 v4) fun h5 => (mm_ix (h5.1 32 17) 16).bind fun k7 => (f_St_copyFrom 35 (113 + 6 * k7) h5).bind fun v12 => some (1, v12)) else (some (0, h))
theorem T_X_undo (V : mm_V) (l : Launch) (h : mm_H) (r : (Int32 × mm_H)) (hf : f_X_undo h = some r) : MT V l Y_X_undo 2 [.ref 32] (fun r1 h1 => r1 = some (.int r.1) ∧ h1 = r.2) h := by
  unfold f_X_undo at hf
  refine MT.intro (pn_X rfl) [(0, .ref 32)] rfl (Nat.le_of_ble_eq_true rfl) ?_
  generalize hZ : mm_Z V _ = Z0
  refine MM.aload_n (i := 0) rfl rfl d_X_undo_0 rfl ?_
  refine MM.getI 8 tg_32 lays_8 gq_8_16 ww_488 d_X_undo_1 rfl ?_
  obtain ⟨m14, m15⟩ := mm_ifE hf
  refine MM.if_gt (tgt := 9) d_X_undo_4 rfl rfl (fun c13 => ?_) (fun c13 => ?_)
  · replace hf := m14 c13
    refine MM.aload_n (i := 0) rfl rfl d_X_undo_9 rfl ?_
    refine MM.dup rfl d_X_undo_10 rfl ?_
    refine MM.getI 8 tg_32 lays_8 gq_8_16 ww_488 d_X_undo_11 rfl ?_
    refine MM.iconst ic_1 d_X_undo_14 rfl ?_
    refine MM.isub d_X_undo_15 rfl ?_
    obtain ⟨h1, e2, hf⟩ := mm_letE hf
    refine MM.putI e2 8 tg_32 lays_8 toks_8 pq_8_16 ww_488 d_X_undo_16 rfl ?_
    refine MM.aload_n (i := 0) rfl rfl d_X_undo_19 rfl ?_
    refine MM.aload_n (i := 0) rfl rfl d_X_undo_20 rfl ?_
    refine MM.getI 8 tg_32 lays_8 gq_8_17 ww_489 d_X_undo_21 rfl ?_
    refine MM.iconst ic_1 d_X_undo_24 rfl ?_
    refine MM.isub d_X_undo_25 rfl ?_
    refine MM.bipush bp_16 d_X_undo_26 rfl ?_
    obtain ⟨v4, e3, hf⟩ := mm_bind hf
    refine MM.callS1 (T_JM_floorMod V l ((h1.1 32 17) - 1) 16 h1 _ e3) (fun _ _ q => q) cal_JM_floorMod rfl ww_1030 ww_1029 (by decide) (by simp [Value.category]) d_X_undo_28 rfl ⟨rfl, rfl⟩ rfl ?_
    obtain ⟨h5, e6, hf⟩ := mm_letE hf
    refine MM.putI e6 8 tg_32 lays_8 toks_8 pq_8_17 ww_489 d_X_undo_31 rfl ?_
    refine MM.aload_n (i := 0) rfl rfl d_X_undo_34 rfl ?_
    refine MM.gR 8 3 tg_32 rq_8_1 rfl lays_8 ww_473 d_X_undo_35 rfl ?_
    refine MM.aload_n (i := 0) rfl rfl d_X_undo_38 rfl ?_
    refine MM.gR 8 29 tg_32 rq_8_5 rfl lays_8 ww_477 d_X_undo_39 rfl ?_
    refine MM.aload_n (i := 0) rfl rfl d_X_undo_42 rfl ?_
    refine MM.getI 8 tg_32 lays_8 gq_8_17 ww_489 d_X_undo_43 rfl ?_
    obtain ⟨k7, e8, hf⟩ := mm_bind hf
    refine MM.gS61 e8 (rfl : (113 + 6 * k7) = (113 + 6 * k7)) d_X_undo_46 rfl ?_
    obtain ⟨v12, e11, hf⟩ := mm_bind hf
    refine MM.callV0 (T_St_copyFrom V l 35 (113 + 6 * k7) h5 _ e11) (fun _ _ q => q) cal_St_copyFrom rfl tg_35 ct_4 ww_969 ww_968 ww_967 (by decide) (by simp [Value.category]) d_X_undo_47 rfl ⟨rfl, rfl⟩ rfl ?_
    refine MM.iconst ic_1 d_X_undo_50 rfl ?_
    obtain rfl := Option.some.inj hf
    subst hZ
    exact MM.zret (Or.inr rfl) rfl d_X_undo_51 ⟨rfl, rfl⟩
  · replace hf := m15 c13
    refine MM.iconst ic_0 d_X_undo_7 rfl ?_
    obtain rfl := Option.some.inj hf
    subst hZ
    exact MM.zret (Or.inl rfl) rfl d_X_undo_8 ⟨rfl, rfl⟩
theorem d_X_tryLine_0 : decode cX11_tryLine 0 = .ok (.aload_n 0, 1) := by decide +kernel
theorem d_X_tryLine_1 : decode cX11_tryLine 1 = .ok (.getfield 29, 3) := by decide +kernel
theorem d_X_tryLine_4 : decode cX11_tryLine 4 = .ok (.getfield 356, 3) := by decide +kernel
theorem d_X_tryLine_7 : decode cX11_tryLine 7 = .ok (.iload_n 1, 1) := by decide +kernel
theorem d_X_tryLine_8 : decode cX11_tryLine 8 = .ok (.iaload, 1) := by decide +kernel
theorem d_X_tryLine_9 : decode cX11_tryLine 9 = .ok (.istore_n 2, 1) := by decide +kernel
theorem d_X_tryLine_10 : decode cX11_tryLine 10 = .ok (.aload_n 0, 1) := by decide +kernel
theorem d_X_tryLine_11 : decode cX11_tryLine 11 = .ok (.getfield 29, 3) := by decide +kernel
theorem d_X_tryLine_14 : decode cX11_tryLine 14 = .ok (.getfield 359, 3) := by decide +kernel
theorem d_X_tryLine_17 : decode cX11_tryLine 17 = .ok (.iload_n 1, 1) := by decide +kernel
theorem d_X_tryLine_18 : decode cX11_tryLine 18 = .ok (.iaload, 1) := by decide +kernel
theorem d_X_tryLine_19 : decode cX11_tryLine 19 = .ok (.istore_n 3, 1) := by decide +kernel
theorem d_X_tryLine_20 : decode cX11_tryLine 20 = .ok (.aload_n 0, 1) := by decide +kernel
theorem d_X_tryLine_21 : decode cX11_tryLine 21 = .ok (.getfield 29, 3) := by decide +kernel
theorem d_X_tryLine_24 : decode cX11_tryLine 24 = .ok (.getfield 362, 3) := by decide +kernel
theorem d_X_tryLine_27 : decode cX11_tryLine 27 = .ok (.iload_n 1, 1) := by decide +kernel
theorem d_X_tryLine_28 : decode cX11_tryLine 28 = .ok (.iaload, 1) := by decide +kernel
theorem d_X_tryLine_29 : decode cX11_tryLine 29 = .ok (.istore 4, 2) := by decide +kernel
theorem d_X_tryLine_31 : decode cX11_tryLine 31 = .ok (.aload_n 0, 1) := by decide +kernel
theorem d_X_tryLine_32 : decode cX11_tryLine 32 = .ok (.getfield 29, 3) := by decide +kernel
theorem d_X_tryLine_35 : decode cX11_tryLine 35 = .ok (.getfield 350, 3) := by decide +kernel
theorem d_X_tryLine_38 : decode cX11_tryLine 38 = .ok (.iload_n 1, 1) := by decide +kernel
theorem d_X_tryLine_39 : decode cX11_tryLine 39 = .ok (.iaload, 1) := by decide +kernel
theorem d_X_tryLine_40 : decode cX11_tryLine 40 = .ok (.ifCond .ne 40, 3) := by decide +kernel
theorem d_X_tryLine_43 : decode cX11_tryLine 43 = .ok (.aload_n 0, 1) := by decide +kernel
theorem d_X_tryLine_44 : decode cX11_tryLine 44 = .ok (.getfield 23, 3) := by decide +kernel
theorem d_X_tryLine_47 : decode cX11_tryLine 47 = .ok (.aload_n 0, 1) := by decide +kernel
theorem d_X_tryLine_48 : decode cX11_tryLine 48 = .ok (.getfield 81, 3) := by decide +kernel
theorem d_X_tryLine_51 : decode cX11_tryLine 51 = .ok (.iload_n 2, 1) := by decide +kernel
theorem d_X_tryLine_52 : decode cX11_tryLine 52 = .ok (.iload_n 3, 1) := by decide +kernel
theorem d_X_tryLine_53 : decode cX11_tryLine 53 = .ok (.iload 4, 2) := by decide +kernel
theorem d_X_tryLine_55 : decode cX11_tryLine 55 = .ok (.invokevirtual 216, 3) := by decide +kernel
theorem d_X_tryLine_58 : decode cX11_tryLine 58 = .ok (.ifCond .ne 5, 3) := by decide +kernel
theorem d_X_tryLine_61 : decode cX11_tryLine 61 = .ok (.iconst 0, 1) := by decide +kernel
theorem d_X_tryLine_62 : decode cX11_tryLine 62 = .ok (.ireturn, 1) := by decide +kernel
theorem d_X_tryLine_63 : decode cX11_tryLine 63 = .ok (.aload_n 0, 1) := by decide +kernel
theorem d_X_tryLine_64 : decode cX11_tryLine 64 = .ok (.getfield 23, 3) := by decide +kernel
theorem d_X_tryLine_67 : decode cX11_tryLine 67 = .ok (.aload_n 0, 1) := by decide +kernel
theorem d_X_tryLine_68 : decode cX11_tryLine 68 = .ok (.getfield 81, 3) := by decide +kernel
theorem d_X_tryLine_71 : decode cX11_tryLine 71 = .ok (.iload_n 2, 1) := by decide +kernel
theorem d_X_tryLine_72 : decode cX11_tryLine 72 = .ok (.iload_n 3, 1) := by decide +kernel
theorem d_X_tryLine_73 : decode cX11_tryLine 73 = .ok (.iload 4, 2) := by decide +kernel
theorem d_X_tryLine_75 : decode cX11_tryLine 75 = .ok (.invokevirtual 223, 3) := by decide +kernel
theorem d_X_tryLine_78 : decode cX11_tryLine 78 = .ok (.iconst 1, 1) := by decide +kernel
theorem d_X_tryLine_79 : decode cX11_tryLine 79 = .ok (.ireturn, 1) := by decide +kernel
theorem d_X_tryLine_80 : decode cX11_tryLine 80 = .ok (.aload_n 0, 1) := by decide +kernel
theorem d_X_tryLine_81 : decode cX11_tryLine 81 = .ok (.getfield 81, 3) := by decide +kernel
theorem d_X_tryLine_84 : decode cX11_tryLine 84 = .ok (.iload_n 2, 1) := by decide +kernel
theorem d_X_tryLine_85 : decode cX11_tryLine 85 = .ok (.invokevirtual 133, 3) := by decide +kernel
theorem d_X_tryLine_88 : decode cX11_tryLine 88 = .ok (.ifCond .ne 5, 3) := by decide +kernel
theorem d_X_tryLine_91 : decode cX11_tryLine 91 = .ok (.iconst 0, 1) := by decide +kernel
theorem d_X_tryLine_92 : decode cX11_tryLine 92 = .ok (.ireturn, 1) := by decide +kernel
theorem d_X_tryLine_93 : decode cX11_tryLine 93 = .ok (.aload_n 0, 1) := by decide +kernel
theorem d_X_tryLine_94 : decode cX11_tryLine 94 = .ok (.getfield 29, 3) := by decide +kernel
theorem d_X_tryLine_97 : decode cX11_tryLine 97 = .ok (.getfield 350, 3) := by decide +kernel
theorem d_X_tryLine_100 : decode cX11_tryLine 100 = .ok (.iload_n 1, 1) := by decide +kernel
theorem d_X_tryLine_101 : decode cX11_tryLine 101 = .ok (.iaload, 1) := by decide +kernel
theorem d_X_tryLine_102 : decode cX11_tryLine 102 = .ok (.iconst 1, 1) := by decide +kernel
theorem d_X_tryLine_103 : decode cX11_tryLine 103 = .ok (.if_icmp .ne 42, 3) := by decide +kernel
theorem d_X_tryLine_106 : decode cX11_tryLine 106 = .ok (.aload_n 0, 1) := by decide +kernel
theorem d_X_tryLine_107 : decode cX11_tryLine 107 = .ok (.getfield 23, 3) := by decide +kernel
theorem d_X_tryLine_110 : decode cX11_tryLine 110 = .ok (.aload_n 0, 1) := by decide +kernel
theorem d_X_tryLine_111 : decode cX11_tryLine 111 = .ok (.getfield 81, 3) := by decide +kernel
theorem d_X_tryLine_114 : decode cX11_tryLine 114 = .ok (.iload_n 2, 1) := by decide +kernel
theorem d_X_tryLine_115 : decode cX11_tryLine 115 = .ok (.iload 4, 2) := by decide +kernel
theorem d_X_tryLine_117 : decode cX11_tryLine 117 = .ok (.aload_n 0, 1) := by decide +kernel
theorem d_X_tryLine_118 : decode cX11_tryLine 118 = .ok (.aload_n 0, 1) := by decide +kernel
theorem d_X_tryLine_119 : decode cX11_tryLine 119 = .ok (.getfield 23, 3) := by decide +kernel
theorem d_X_tryLine_122 : decode cX11_tryLine 122 = .ok (.invokevirtual 153, 3) := by decide +kernel
theorem d_X_tryLine_125 : decode cX11_tryLine 125 = .ok (.invokevirtual 227, 3) := by decide +kernel
theorem d_X_tryLine_128 : decode cX11_tryLine 128 = .ok (.ifCond .ne 5, 3) := by decide +kernel
theorem d_X_tryLine_131 : decode cX11_tryLine 131 = .ok (.iconst 0, 1) := by decide +kernel
theorem d_X_tryLine_132 : decode cX11_tryLine 132 = .ok (.ireturn, 1) := by decide +kernel
theorem d_X_tryLine_133 : decode cX11_tryLine 133 = .ok (.aload_n 0, 1) := by decide +kernel
theorem d_X_tryLine_134 : decode cX11_tryLine 134 = .ok (.getfield 23, 3) := by decide +kernel
theorem d_X_tryLine_137 : decode cX11_tryLine 137 = .ok (.iload_n 2, 1) := by decide +kernel
theorem d_X_tryLine_138 : decode cX11_tryLine 138 = .ok (.iload 4, 2) := by decide +kernel
theorem d_X_tryLine_140 : decode cX11_tryLine 140 = .ok (.invokevirtual 231, 3) := by decide +kernel
theorem d_X_tryLine_143 : decode cX11_tryLine 143 = .ok (.iconst 1, 1) := by decide +kernel
theorem d_X_tryLine_144 : decode cX11_tryLine 144 = .ok (.ireturn, 1) := by decide +kernel
theorem d_X_tryLine_145 : decode cX11_tryLine 145 = .ok (.aload_n 0, 1) := by decide +kernel
theorem d_X_tryLine_146 : decode cX11_tryLine 146 = .ok (.getfield 23, 3) := by decide +kernel
theorem d_X_tryLine_149 : decode cX11_tryLine 149 = .ok (.getfield 143, 3) := by decide +kernel
theorem d_X_tryLine_152 : decode cX11_tryLine 152 = .ok (.iload_n 2, 1) := by decide +kernel
theorem d_X_tryLine_153 : decode cX11_tryLine 153 = .ok (.iaload, 1) := by decide +kernel
theorem d_X_tryLine_154 : decode cX11_tryLine 154 = .ok (.bipush 9, 2) := by decide +kernel
theorem d_X_tryLine_156 : decode cX11_tryLine 156 = .ok (.if_icmp .lt 5, 3) := by decide +kernel
theorem d_X_tryLine_159 : decode cX11_tryLine 159 = .ok (.iconst 0, 1) := by decide +kernel
theorem d_X_tryLine_160 : decode cX11_tryLine 160 = .ok (.ireturn, 1) := by decide +kernel
theorem d_X_tryLine_161 : decode cX11_tryLine 161 = .ok (.aload_n 0, 1) := by decide +kernel
theorem d_X_tryLine_162 : decode cX11_tryLine 162 = .ok (.getfield 23, 3) := by decide +kernel
theorem d_X_tryLine_165 : decode cX11_tryLine 165 = .ok (.getfield 143, 3) := by decide +kernel
theorem d_X_tryLine_168 : decode cX11_tryLine 168 = .ok (.iload_n 2, 1) := by decide +kernel
theorem d_X_tryLine_169 : decode cX11_tryLine 169 = .ok (.dup2, 1) := by decide +kernel
theorem d_X_tryLine_170 : decode cX11_tryLine 170 = .ok (.iaload, 1) := by decide +kernel
theorem d_X_tryLine_171 : decode cX11_tryLine 171 = .ok (.iconst 1, 1) := by decide +kernel
theorem d_X_tryLine_172 : decode cX11_tryLine 172 = .ok (.iadd, 1) := by decide +kernel
theorem d_X_tryLine_173 : decode cX11_tryLine 173 = .ok (.iastore, 1) := by decide +kernel
theorem d_X_tryLine_174 : decode cX11_tryLine 174 = .ok (.iconst 1, 1) := by decide +kernel
theorem d_X_tryLine_175 : decode cX11_tryLine 175 = .ok (.ireturn, 1) := by decide +kernel
noncomputable def f_X_tryLine (x1 : Int32) (h : mm_H) : Option (Int32 × mm_H) := (mm_ix x1 30).bind fun k1 => mm_let (h.1 49 k1) fun y3 => (mm_ix x1 30).bind fun k5 => mm_let (h.1 50 k5) fun y7 => (mm_ix x1 30).bind fun k9 => mm_let (h.1 51 k9) fun y11 => (mm_ix x1 30).bind fun k13 => if (h.1 48 k13) = 0 then ((mm_gT h 14).bind fun t49 => (f_St_mayTell 41 t49 y3 y7 y11 h).bind fun v52 => if v52 = 0 then (some (0, h)) else ((mm_gT h 14).bind fun t53 => (f_St_whisper 41 t53 y3 y7 y11 h).bind fun v56 => some (1, v56))) else ((mm_gT h 14).bind fun t15 => (f_To_hasPerson t15 y3 h).bind fun v18 => if v18 = 0 then (some (0, h)) else ((mm_ix x1 30).bind fun k19 => if (h.1 48 k19) = 1 then ((mm_gT h 14).bind fun t32 => (f_X_weighed 41 h).bind fun v35 => (f_St_mayPay 41 t32 y3 y11 76 v35).bind fun v37 => if v37 = 0 then (some (0, v35)) else ((f_St_take 41 y3 y11 v35).bind fun v39 => some (1, v39))) else ((mm_ix y3 6).bind fun k21 => if (h.1 44 k21) < 9 then ((mm_ix y3 6).bind fun k23 => (mm_ix y3 6).bind fun k25 => mm_let (mm_pI h 44 k25 ((h.1 44 k23) + 1)) fun h27 => some (1, h27)) else (some (0, h)))))
theorem T_X_tryLine (V : mm_V) (l : Launch) (x1 : Int32) (h : mm_H) (r : (Int32 × mm_H)) (hf : f_X_tryLine x1 h = some r) : MT V l Y_X_tryLine 6 [.ref 32, .int x1] (fun r1 h1 => r1 = some (.int r.1) ∧ h1 = r.2) h := by
  unfold f_X_tryLine at hf
  refine MT.intro (pn_X rfl) [(0, .ref 32), (1, .int x1)] rfl (Nat.le_of_ble_eq_true rfl) ?_
  generalize hZ : mm_Z V _ = Z0
  refine MM.aload_n (i := 0) rfl rfl d_X_tryLine_0 rfl ?_
  refine MM.gR 8 15 tg_32 rq_8_3 rfl lays_8 ww_475 d_X_tryLine_1 rfl ?_
  refine MM.gR 5 2 tg_47 rq_5_2 rfl lays_5 ww_257 d_X_tryLine_4 rfl ?_
  refine MM.iload_n (i := 1) rfl rfl d_X_tryLine_7 rfl ?_
  obtain ⟨k1, e2, hf⟩ := mm_bind hf
  refine MM.gI e2 al_49 d_X_tryLine_8 rfl ?_
  obtain ⟨y3, e4, hf⟩ := mm_letE hf
  refine MM.istore_n (i := 2) (lv' := [(2, .int y3), (0, .ref 32), (1, .int x1)]) e4 rfl (Nat.le_of_ble_eq_true rfl) rfl d_X_tryLine_9 rfl ?_
  refine MM.aload_n (i := 0) rfl rfl d_X_tryLine_10 rfl ?_
  refine MM.gR 8 15 tg_32 rq_8_3 rfl lays_8 ww_475 d_X_tryLine_11 rfl ?_
  refine MM.gR 5 3 tg_47 rq_5_3 rfl lays_5 ww_259 d_X_tryLine_14 rfl ?_
  refine MM.iload_n (i := 1) rfl rfl d_X_tryLine_17 rfl ?_
  obtain ⟨k5, e6, hf⟩ := mm_bind hf
  refine MM.gI e6 al_50 d_X_tryLine_18 rfl ?_
  obtain ⟨y7, e8, hf⟩ := mm_letE hf
  refine MM.istore_n (i := 3) (lv' := [(3, .int y7), (2, .int y3), (0, .ref 32), (1, .int x1)]) e8 rfl (Nat.le_of_ble_eq_true rfl) rfl d_X_tryLine_19 rfl ?_
  refine MM.aload_n (i := 0) rfl rfl d_X_tryLine_20 rfl ?_
  refine MM.gR 8 15 tg_32 rq_8_3 rfl lays_8 ww_475 d_X_tryLine_21 rfl ?_
  refine MM.gR 5 4 tg_47 rq_5_4 rfl lays_5 ww_261 d_X_tryLine_24 rfl ?_
  refine MM.iload_n (i := 1) rfl rfl d_X_tryLine_27 rfl ?_
  obtain ⟨k9, e10, hf⟩ := mm_bind hf
  refine MM.gI e10 al_51 d_X_tryLine_28 rfl ?_
  obtain ⟨y11, e12, hf⟩ := mm_letE hf
  refine MM.istore (lv' := [(4, .int y11), (3, .int y7), (2, .int y3), (0, .ref 32), (1, .int x1)]) e12 (Nat.le_of_ble_eq_true rfl) rfl d_X_tryLine_29 rfl ?_
  refine MM.aload_n (i := 0) rfl rfl d_X_tryLine_31 rfl ?_
  refine MM.gR 8 15 tg_32 rq_8_3 rfl lays_8 ww_475 d_X_tryLine_32 rfl ?_
  refine MM.gR 5 1 tg_47 rq_5_1 rfl lays_5 ww_255 d_X_tryLine_35 rfl ?_
  refine MM.iload_n (i := 1) rfl rfl d_X_tryLine_38 rfl ?_
  obtain ⟨k13, e14, hf⟩ := mm_bind hf
  refine MM.gI e14 al_48 d_X_tryLine_39 rfl ?_
  obtain ⟨m61, m62⟩ := mm_ifE hf
  refine MM.if_ne (tgt := 80) d_X_tryLine_40 rfl rfl (fun c60 => ?_) (fun c60 => ?_)
  · replace hf := m62 c60
    refine MM.aload_n (i := 0) rfl rfl d_X_tryLine_80 rfl ?_
    obtain ⟨t15, e16, hf⟩ := mm_bind hf
    obtain ⟨e16, t_t15⟩ := mm_gTE e16
    refine MM.gT e16 tg_32 tq_14 lays_8 ww_486 d_X_tryLine_81 rfl ?_
    refine MM.iload_n (i := 2) rfl rfl d_X_tryLine_84 rfl ?_
    obtain ⟨v18, e17, hf⟩ := mm_bind hf
    refine MM.callV1 (T_To_hasPerson V l t15 y3 h _ e17) (fun _ _ q => q) cal_To_hasPerson rfl t_t15 ct_7 ww_934 ww_933 ww_980 (by decide) (by simp [Value.category]) d_X_tryLine_85 rfl ⟨rfl, rfl⟩ rfl ?_
    obtain ⟨m47, m48⟩ := mm_ifE hf
    refine MM.if_ne (tgt := 93) d_X_tryLine_88 rfl rfl (fun c46 => ?_) (fun c46 => ?_)
    · replace hf := m48 c46
      refine MM.aload_n (i := 0) rfl rfl d_X_tryLine_93 rfl ?_
      refine MM.gR 8 15 tg_32 rq_8_3 rfl lays_8 ww_475 d_X_tryLine_94 rfl ?_
      refine MM.gR 5 1 tg_47 rq_5_1 rfl lays_5 ww_255 d_X_tryLine_97 rfl ?_
      refine MM.iload_n (i := 1) rfl rfl d_X_tryLine_100 rfl ?_
      obtain ⟨k19, e20, hf⟩ := mm_bind hf
      refine MM.gI e20 al_48 d_X_tryLine_101 rfl ?_
      refine MM.iconst ic_1 d_X_tryLine_102 rfl ?_
      obtain ⟨m44, m45⟩ := mm_ifE hf
      refine MM.icmp_ne (tgt := 145) d_X_tryLine_103 rfl rfl (fun c43 => ?_) (fun c43 => ?_)
      · replace hf := m45 c43
        refine MM.aload_n (i := 0) rfl rfl d_X_tryLine_145 rfl ?_
        refine MM.gR 8 9 tg_32 rq_8_2 rfl lays_8 ww_474 d_X_tryLine_146 rfl ?_
        refine MM.gR 4 3 tg_41 rq_4_2 rfl lays_4 ww_205 d_X_tryLine_149 rfl ?_
        refine MM.iload_n (i := 2) rfl rfl d_X_tryLine_152 rfl ?_
        obtain ⟨k21, e22, hf⟩ := mm_bind hf
        refine MM.gI e22 al_44 d_X_tryLine_153 rfl ?_
        refine MM.bipush bp_9 d_X_tryLine_154 rfl ?_
        obtain ⟨m30, m31⟩ := mm_ifE hf
        refine MM.icmp_lt (tgt := 161) d_X_tryLine_156 rfl rfl (fun c29 => ?_) (fun c29 => ?_)
        · replace hf := m30 c29
          refine MM.aload_n (i := 0) rfl rfl d_X_tryLine_161 rfl ?_
          refine MM.gR 8 9 tg_32 rq_8_2 rfl lays_8 ww_474 d_X_tryLine_162 rfl ?_
          refine MM.gR 4 3 tg_41 rq_4_2 rfl lays_4 ww_205 d_X_tryLine_165 rfl ?_
          refine MM.iload_n (i := 2) rfl rfl d_X_tryLine_168 rfl ?_
          refine MM.dup2 rfl rfl d_X_tryLine_169 rfl ?_
          obtain ⟨k23, e24, hf⟩ := mm_bind hf
          refine MM.gI e24 al_44 d_X_tryLine_170 rfl ?_
          refine MM.iconst ic_1 d_X_tryLine_171 rfl ?_
          refine MM.iadd d_X_tryLine_172 rfl ?_
          obtain ⟨k25, e26, hf⟩ := mm_bind hf
          obtain ⟨h27, e28, hf⟩ := mm_letE hf
          refine MM.sI e26 e28 al_44 d_X_tryLine_173 rfl ?_
          refine MM.iconst ic_1 d_X_tryLine_174 rfl ?_
          obtain rfl := Option.some.inj hf
          subst hZ
          exact MM.zret (Or.inr rfl) rfl d_X_tryLine_175 ⟨rfl, rfl⟩
        · replace hf := m31 c29
          refine MM.iconst ic_0 d_X_tryLine_159 rfl ?_
          obtain rfl := Option.some.inj hf
          subst hZ
          exact MM.zret (Or.inl rfl) rfl d_X_tryLine_160 ⟨rfl, rfl⟩
      · replace hf := m44 c43
        refine MM.aload_n (i := 0) rfl rfl d_X_tryLine_106 rfl ?_
        refine MM.gR 8 9 tg_32 rq_8_2 rfl lays_8 ww_474 d_X_tryLine_107 rfl ?_
        refine MM.aload_n (i := 0) rfl rfl d_X_tryLine_110 rfl ?_
        obtain ⟨t32, e33, hf⟩ := mm_bind hf
        obtain ⟨e33, t_t32⟩ := mm_gTE e33
        refine MM.gT e33 tg_32 tq_14 lays_8 ww_486 d_X_tryLine_111 rfl ?_
        refine MM.iload_n (i := 2) rfl rfl d_X_tryLine_114 rfl ?_
        refine MM.iload rfl d_X_tryLine_115 rfl ?_
        refine MM.aload_n (i := 0) rfl rfl d_X_tryLine_117 rfl ?_
        refine MM.aload_n (i := 0) rfl rfl d_X_tryLine_118 rfl ?_
        refine MM.gR 8 9 tg_32 rq_8_2 rfl lays_8 ww_474 d_X_tryLine_119 rfl ?_
        obtain ⟨v35, e34, hf⟩ := mm_bind hf
        refine MM.callV1 (T_X_weighed V l 41 h _ e34) (fun _ _ q => q) cal_X_weighed rfl tg_32 ct_8 ww_8 ww_900 ww_898 (by decide) (by simp [Value.category]) d_X_tryLine_122 rfl ⟨rfl, rfl⟩ rfl ?_
        obtain ⟨v37, e36, hf⟩ := mm_bind hf
        refine MM.callV1 (T_St_mayPay V l 41 t32 y3 y11 76 v35 _ e36) (fun _ _ q => q) cal_St_mayPay rfl tg_41 ct_4 ww_983 ww_982 ww_981 (by decide) (by simp [Value.category]) d_X_tryLine_125 rfl ⟨rfl, rfl⟩ rfl ?_
        obtain ⟨m41, m42⟩ := mm_ifE hf
        refine MM.if_ne (tgt := 133) d_X_tryLine_128 rfl rfl (fun c40 => ?_) (fun c40 => ?_)
        · replace hf := m42 c40
          refine MM.aload_n (i := 0) rfl rfl d_X_tryLine_133 rfl ?_
          refine MM.gR 8 9 tg_32 rq_8_2 rfl lays_8 ww_474 d_X_tryLine_134 rfl ?_
          refine MM.iload_n (i := 2) rfl rfl d_X_tryLine_137 rfl ?_
          refine MM.iload rfl d_X_tryLine_138 rfl ?_
          obtain ⟨v39, e38, hf⟩ := mm_bind hf
          refine MM.callV0 (T_St_take V l 41 y3 y11 v35 _ e38) (fun _ _ q => q) cal_St_take rfl tg_41 ct_4 ww_998 ww_997 ww_996 (by decide) (by simp [Value.category]) d_X_tryLine_140 rfl ⟨rfl, rfl⟩ rfl ?_
          refine MM.iconst ic_1 d_X_tryLine_143 rfl ?_
          obtain rfl := Option.some.inj hf
          subst hZ
          exact MM.zret (Or.inr rfl) rfl d_X_tryLine_144 ⟨rfl, rfl⟩
        · replace hf := m41 c40
          refine MM.iconst ic_0 d_X_tryLine_131 rfl ?_
          obtain rfl := Option.some.inj hf
          subst hZ
          exact MM.zret (Or.inl rfl) rfl d_X_tryLine_132 ⟨rfl, rfl⟩
    · replace hf := m47 c46
      refine MM.iconst ic_0 d_X_tryLine_91 rfl ?_
      obtain rfl := Option.some.inj hf
      subst hZ
      exact MM.zret (Or.inl rfl) rfl d_X_tryLine_92 ⟨rfl, rfl⟩
  · replace hf := m61 c60
    refine MM.aload_n (i := 0) rfl rfl d_X_tryLine_43 rfl ?_
    refine MM.gR 8 9 tg_32 rq_8_2 rfl lays_8 ww_474 d_X_tryLine_44 rfl ?_
    refine MM.aload_n (i := 0) rfl rfl d_X_tryLine_47 rfl ?_
    obtain ⟨t49, e50, hf⟩ := mm_bind hf
    obtain ⟨e50, t_t49⟩ := mm_gTE e50
    refine MM.gT e50 tg_32 tq_14 lays_8 ww_486 d_X_tryLine_48 rfl ?_
    refine MM.iload_n (i := 2) rfl rfl d_X_tryLine_51 rfl ?_
    refine MM.iload_n (i := 3) rfl rfl d_X_tryLine_52 rfl ?_
    refine MM.iload rfl d_X_tryLine_53 rfl ?_
    obtain ⟨v52, e51, hf⟩ := mm_bind hf
    refine MM.callV1 (T_St_mayTell V l 41 t49 y3 y7 y11 h _ e51) (fun _ _ q => q) cal_St_mayTell rfl tg_41 ct_4 ww_955 ww_954 ww_953 (by decide) (by simp [Value.category]) d_X_tryLine_55 rfl ⟨rfl, rfl⟩ rfl ?_
    obtain ⟨m58, m59⟩ := mm_ifE hf
    refine MM.if_ne (tgt := 63) d_X_tryLine_58 rfl rfl (fun c57 => ?_) (fun c57 => ?_)
    · replace hf := m59 c57
      refine MM.aload_n (i := 0) rfl rfl d_X_tryLine_63 rfl ?_
      refine MM.gR 8 9 tg_32 rq_8_2 rfl lays_8 ww_474 d_X_tryLine_64 rfl ?_
      refine MM.aload_n (i := 0) rfl rfl d_X_tryLine_67 rfl ?_
      obtain ⟨t53, e54, hf⟩ := mm_bind hf
      obtain ⟨e54, t_t53⟩ := mm_gTE e54
      refine MM.gT e54 tg_32 tq_14 lays_8 ww_486 d_X_tryLine_68 rfl ?_
      refine MM.iload_n (i := 2) rfl rfl d_X_tryLine_71 rfl ?_
      refine MM.iload_n (i := 3) rfl rfl d_X_tryLine_72 rfl ?_
      refine MM.iload rfl d_X_tryLine_73 rfl ?_
      obtain ⟨v56, e55, hf⟩ := mm_bind hf
      refine MM.callV0 (T_St_whisper V l 41 t53 y3 y7 y11 h _ e55) (fun _ _ q => q) cal_St_whisper rfl tg_41 ct_4 ww_974 ww_973 ww_972 (by decide) (by simp [Value.category]) d_X_tryLine_75 rfl ⟨rfl, rfl⟩ rfl ?_
      refine MM.iconst ic_1 d_X_tryLine_78 rfl ?_
      obtain rfl := Option.some.inj hf
      subst hZ
      exact MM.zret (Or.inr rfl) rfl d_X_tryLine_79 ⟨rfl, rfl⟩
    · replace hf := m58 c57
      refine MM.iconst ic_0 d_X_tryLine_61 rfl ?_
      obtain rfl := Option.some.inj hf
      subst hZ
      exact MM.zret (Or.inl rfl) rfl d_X_tryLine_62 ⟨rfl, rfl⟩
theorem d_To_allSecrets_0 : decode cX8_allSecrets 0 = .ok (.iconst 1, 1) := by decide +kernel
theorem d_To_allSecrets_1 : decode cX8_allSecrets 1 = .ok (.aload_n 0, 1) := by decide +kernel
theorem d_To_allSecrets_2 : decode cX8_allSecrets 2 = .ok (.getfield 32, 3) := by decide +kernel
theorem d_To_allSecrets_5 : decode cX8_allSecrets 5 = .ok (.ishl, 1) := by decide +kernel
theorem d_To_allSecrets_6 : decode cX8_allSecrets 6 = .ok (.iconst 1, 1) := by decide +kernel
theorem d_To_allSecrets_7 : decode cX8_allSecrets 7 = .ok (.isub, 1) := by decide +kernel
theorem d_To_allSecrets_8 : decode cX8_allSecrets 8 = .ok (.ireturn, 1) := by decide +kernel
noncomputable def f_To_allSecrets (a0 : Nat) (h : mm_H) : Option Int32 := if mm_tg a0 = 7 then (some (((1 : Int32) <<< ((h.1 a0 6) &&& 31)) - 1)) else none
theorem T_To_allSecrets (V : mm_V) (l : Launch) (a0 : Nat) (h : mm_H) (r : Int32) (hf : f_To_allSecrets a0 h = some r) : MT V l Y_To_allSecrets 1 [.ref a0] (fun r1 h1 => r1 = some (.int r) ∧ h1 = h) h := by
  unfold f_To_allSecrets at hf
  obtain ⟨t_a0, hf⟩ := mm_chkE hf
  refine MT.intro (pn_To rfl) [(0, .ref a0)] rfl (Nat.le_of_ble_eq_true rfl) ?_
  generalize hZ : mm_Z V _ = Z0
  refine MM.iconst ic_1 d_To_allSecrets_0 rfl ?_
  refine MM.aload_n (i := 0) rfl rfl d_To_allSecrets_1 rfl ?_
  refine MM.getI 7 t_a0 lays_7 gq_7_6 ww_385 d_To_allSecrets_2 rfl ?_
  refine MM.ishl d_To_allSecrets_5 rfl ?_
  refine MM.iconst ic_1 d_To_allSecrets_6 rfl ?_
  refine MM.isub d_To_allSecrets_7 rfl ?_
  obtain rfl := Option.some.inj hf
  subst hZ
  exact MM.iret rfl d_To_allSecrets_8 ⟨rfl, rfl⟩
theorem d_X_judge_0 : decode cX11_judge 0 = .ok (.aload_n 0, 1) := by decide +kernel
theorem d_X_judge_1 : decode cX11_judge 1 = .ok (.getfield 23, 3) := by decide +kernel
theorem d_X_judge_4 : decode cX11_judge 4 = .ok (.aload_n 0, 1) := by decide +kernel
theorem d_X_judge_5 : decode cX11_judge 5 = .ok (.getfield 81, 3) := by decide +kernel
theorem d_X_judge_8 : decode cX11_judge 8 = .ok (.invokevirtual 118, 3) := by decide +kernel
theorem d_X_judge_11 : decode cX11_judge 11 = .ok (.aload_n 0, 1) := by decide +kernel
theorem d_X_judge_12 : decode cX11_judge 12 = .ok (.getfield 75, 3) := by decide +kernel
theorem d_X_judge_15 : decode cX11_judge 15 = .ok (.iconst 0, 1) := by decide +kernel
theorem d_X_judge_16 : decode cX11_judge 16 = .ok (.iconst (-1), 1) := by decide +kernel
theorem d_X_judge_17 : decode cX11_judge 17 = .ok (.iastore, 1) := by decide +kernel
theorem d_X_judge_18 : decode cX11_judge 18 = .ok (.aload_n 0, 1) := by decide +kernel
theorem d_X_judge_19 : decode cX11_judge 19 = .ok (.getfield 75, 3) := by decide +kernel
theorem d_X_judge_22 : decode cX11_judge 22 = .ok (.iconst 1, 1) := by decide +kernel
theorem d_X_judge_23 : decode cX11_judge 23 = .ok (.iconst 0, 1) := by decide +kernel
theorem d_X_judge_24 : decode cX11_judge 24 = .ok (.iastore, 1) := by decide +kernel
theorem d_X_judge_25 : decode cX11_judge 25 = .ok (.iconst 0, 1) := by decide +kernel
theorem d_X_judge_26 : decode cX11_judge 26 = .ok (.istore_n 1, 1) := by decide +kernel
theorem d_X_judge_27 : decode cX11_judge 27 = .ok (.iload_n 1, 1) := by decide +kernel
theorem d_X_judge_28 : decode cX11_judge 28 = .ok (.aload_n 0, 1) := by decide +kernel
theorem d_X_judge_29 : decode cX11_judge 29 = .ok (.getfield 29, 3) := by decide +kernel
theorem d_X_judge_32 : decode cX11_judge 32 = .ok (.getfield 335, 3) := by decide +kernel
theorem d_X_judge_35 : decode cX11_judge 35 = .ok (.if_icmp .ge 73, 3) := by decide +kernel
theorem d_X_judge_38 : decode cX11_judge 38 = .ok (.aload_n 0, 1) := by decide +kernel
theorem d_X_judge_39 : decode cX11_judge 39 = .ok (.getfield 29, 3) := by decide +kernel
theorem d_X_judge_42 : decode cX11_judge 42 = .ok (.getfield 350, 3) := by decide +kernel
theorem d_X_judge_45 : decode cX11_judge 45 = .ok (.iload_n 1, 1) := by decide +kernel
theorem d_X_judge_46 : decode cX11_judge 46 = .ok (.iaload, 1) := by decide +kernel
theorem d_X_judge_47 : decode cX11_judge 47 = .ok (.iconst 3, 1) := by decide +kernel
theorem d_X_judge_48 : decode cX11_judge 48 = .ok (.if_icmp .ne 29, 3) := by decide +kernel
theorem d_X_judge_51 : decode cX11_judge 51 = .ok (.aload_n 0, 1) := by decide +kernel
theorem d_X_judge_52 : decode cX11_judge 52 = .ok (.getfield 75, 3) := by decide +kernel
theorem d_X_judge_55 : decode cX11_judge 55 = .ok (.iconst 1, 1) := by decide +kernel
theorem d_X_judge_56 : decode cX11_judge 56 = .ok (.dup2, 1) := by decide +kernel
theorem d_X_judge_57 : decode cX11_judge 57 = .ok (.iaload, 1) := by decide +kernel
theorem d_X_judge_58 : decode cX11_judge 58 = .ok (.aload_n 0, 1) := by decide +kernel
theorem d_X_judge_59 : decode cX11_judge 59 = .ok (.getfield 23, 3) := by decide +kernel
theorem d_X_judge_62 : decode cX11_judge 62 = .ok (.aload_n 0, 1) := by decide +kernel
theorem d_X_judge_63 : decode cX11_judge 63 = .ok (.getfield 81, 3) := by decide +kernel
theorem d_X_judge_66 : decode cX11_judge 66 = .ok (.invokevirtual 235, 3) := by decide +kernel
theorem d_X_judge_69 : decode cX11_judge 69 = .ok (.invokestatic 299, 3) := by decide +kernel
theorem d_X_judge_72 : decode cX11_judge 72 = .ok (.iadd, 1) := by decide +kernel
theorem d_X_judge_73 : decode cX11_judge 73 = .ok (.iastore, 1) := by decide +kernel
theorem d_X_judge_74 : decode cX11_judge 74 = .ok (.goto 28, 3) := by decide +kernel
theorem d_X_judge_77 : decode cX11_judge 77 = .ok (.aload_n 0, 1) := by decide +kernel
theorem d_X_judge_78 : decode cX11_judge 78 = .ok (.iload_n 1, 1) := by decide +kernel
theorem d_X_judge_79 : decode cX11_judge 79 = .ok (.invokevirtual 353, 3) := by decide +kernel
theorem d_X_judge_82 : decode cX11_judge 82 = .ok (.ifCond .ne 20, 3) := by decide +kernel
theorem d_X_judge_85 : decode cX11_judge 85 = .ok (.aload_n 0, 1) := by decide +kernel
theorem d_X_judge_86 : decode cX11_judge 86 = .ok (.getfield 75, 3) := by decide +kernel
theorem d_X_judge_89 : decode cX11_judge 89 = .ok (.iconst 0, 1) := by decide +kernel
theorem d_X_judge_90 : decode cX11_judge 90 = .ok (.iaload, 1) := by decide +kernel
theorem d_X_judge_91 : decode cX11_judge 91 = .ok (.iconst (-1), 1) := by decide +kernel
theorem d_X_judge_92 : decode cX11_judge 92 = .ok (.if_icmp .ne 10, 3) := by decide +kernel
theorem d_X_judge_95 : decode cX11_judge 95 = .ok (.aload_n 0, 1) := by decide +kernel
theorem d_X_judge_96 : decode cX11_judge 96 = .ok (.getfield 75, 3) := by decide +kernel
theorem d_X_judge_99 : decode cX11_judge 99 = .ok (.iconst 0, 1) := by decide +kernel
theorem d_X_judge_100 : decode cX11_judge 100 = .ok (.iload_n 1, 1) := by decide +kernel
theorem d_X_judge_101 : decode cX11_judge 101 = .ok (.iastore, 1) := by decide +kernel
theorem d_X_judge_102 : decode cX11_judge 102 = .ok (.iinc 1 1, 3) := by decide +kernel
theorem d_X_judge_105 : decode cX11_judge 105 = .ok (.goto (-78), 3) := by decide +kernel
theorem d_X_judge_108 : decode cX11_judge 108 = .ok (.aload_n 0, 1) := by decide +kernel
theorem d_X_judge_109 : decode cX11_judge 109 = .ok (.getfield 75, 3) := by decide +kernel
theorem d_X_judge_112 : decode cX11_judge 112 = .ok (.iconst 2, 1) := by decide +kernel
theorem d_X_judge_113 : decode cX11_judge 113 = .ok (.aload_n 0, 1) := by decide +kernel
theorem d_X_judge_114 : decode cX11_judge 114 = .ok (.aload_n 0, 1) := by decide +kernel
theorem d_X_judge_115 : decode cX11_judge 115 = .ok (.getfield 23, 3) := by decide +kernel
theorem d_X_judge_118 : decode cX11_judge 118 = .ok (.invokevirtual 153, 3) := by decide +kernel
theorem d_X_judge_121 : decode cX11_judge 121 = .ok (.aload_n 0, 1) := by decide +kernel
theorem d_X_judge_122 : decode cX11_judge 122 = .ok (.getfield 81, 3) := by decide +kernel
theorem d_X_judge_125 : decode cX11_judge 125 = .ok (.invokevirtual 331, 3) := by decide +kernel
theorem d_X_judge_128 : decode cX11_judge 128 = .ok (.invokestatic 157, 3) := by decide +kernel
theorem d_X_judge_131 : decode cX11_judge 131 = .ok (.iastore, 1) := by decide +kernel
theorem d_X_judge_132 : decode cX11_judge 132 = .ok (.return_, 1) := by decide +kernel
noncomputable def f_X_judge (h : mm_H) : Option mm_H := (mm_gT h 14).bind fun t1 => (f_St_begin 41 t1 h).bind fun v4 => mm_let (mm_pI v4 78 0 (-1)) fun h5 => mm_let (mm_pI h5 78 1 0) fun h7 => (mm_while (σ := (Int32 × mm_H)) (ρ := mm_H) (fun s9 => if (s9.2.1 47 0) ≤ s9.1 then (some (Sum.inr s9.2)) else ((mm_ix s9.1 30).bind fun k15 => (if (s9.2.1 48 k15) = 3 then ((mm_gT s9.2 14).bind fun t29 => (f_St_endQuarter 41 t29 s9.2).bind fun v32 => (f_JI_bitCount v32.1).bind fun v34 => mm_let (mm_pI v32.2 78 1 ((s9.2.1 78 1) + v34)) fun h35 => some h35) else ((f_X_tryLine s9.1 s9.2).bind fun v20 => if v20.1 = 0 then (if (v20.2.1 78 0) = (-1) then (mm_let (mm_pI v20.2 78 0 s9.1) fun h21 => some h21) else (some v20.2)) else (some v20.2)) : Option mm_H).bind fun j17 => mm_let (s9.1 + 1) fun y40 => some (Sum.inl (y40, j17)))) (0, h7)).bind fun v12 => (f_X_weighed 41 v12).bind fun v47 => (mm_gT v47 14).bind fun t48 => (f_To_allSecrets t48 v47).bind fun v51 => (f_X_together 76 v51 v47).bind fun v53 => mm_let (mm_pI v47 78 2 v53) fun h54 => some h54
theorem T_X_judge (V : mm_V) (l : Launch) (h : mm_H) (r : mm_H) (hf : f_X_judge h = some r) : MT V l Y_X_judge 7 [.ref 32] (fun r1 h1 => r1 = none ∧ h1 = r) h := by
  unfold f_X_judge at hf
  refine MT.intro (pn_X rfl) [(0, .ref 32)] rfl (Nat.le_of_ble_eq_true rfl) ?_
  generalize hZ : mm_Z V _ = Z0
  refine MM.aload_n (i := 0) rfl rfl d_X_judge_0 rfl ?_
  refine MM.gR 8 9 tg_32 rq_8_2 rfl lays_8 ww_474 d_X_judge_1 rfl ?_
  refine MM.aload_n (i := 0) rfl rfl d_X_judge_4 rfl ?_
  obtain ⟨t1, e2, hf⟩ := mm_bind hf
  obtain ⟨e2, t_t1⟩ := mm_gTE e2
  refine MM.gT e2 tg_32 tq_14 lays_8 ww_486 d_X_judge_5 rfl ?_
  obtain ⟨v4, e3, hf⟩ := mm_bind hf
  refine MM.callV0 (T_St_begin V l 41 t1 h _ e3) (fun _ _ q => q) cal_St_begin rfl tg_41 ct_4 ww_824 ww_823 ww_822 (by decide) (by simp [Value.category]) d_X_judge_8 rfl ⟨rfl, rfl⟩ rfl ?_
  refine MM.aload_n (i := 0) rfl rfl d_X_judge_11 rfl ?_
  refine MM.gR 8 46 tg_32 rq_8_13 rfl lays_8 ww_485 d_X_judge_12 rfl ?_
  refine MM.iconst ic_0 d_X_judge_15 rfl ?_
  refine MM.iconst ic_m1 d_X_judge_16 rfl ?_
  obtain ⟨h5, e6, hf⟩ := mm_letE hf
  refine MM.sI ix_0_4 e6 al_78 d_X_judge_17 rfl ?_
  refine MM.aload_n (i := 0) rfl rfl d_X_judge_18 rfl ?_
  refine MM.gR 8 46 tg_32 rq_8_13 rfl lays_8 ww_485 d_X_judge_19 rfl ?_
  refine MM.iconst ic_1 d_X_judge_22 rfl ?_
  refine MM.iconst ic_0 d_X_judge_23 rfl ?_
  obtain ⟨h7, e8, hf⟩ := mm_letE hf
  refine MM.sI ix_1_4 e8 al_78 d_X_judge_24 rfl ?_
  refine MM.iconst ic_0 d_X_judge_25 rfl ?_
  refine MM.istore_n (i := 1) (lv' := [(1, .int 0), (0, .ref 32)]) rfl rfl (Nat.le_of_ble_eq_true rfl) rfl d_X_judge_26 rfl ?_
  obtain ⟨v12, e14, hf⟩ := mm_bind hf
  have K13 : MM V l Y_X_judge 7 0 0 Z0 108 [(0, .ref 32)] [] v12 := by
    refine MM.aload_n (i := 0) rfl rfl d_X_judge_108 rfl ?_
    refine MM.gR 8 46 tg_32 rq_8_13 rfl lays_8 ww_485 d_X_judge_109 rfl ?_
    refine MM.iconst ic_2 d_X_judge_112 rfl ?_
    refine MM.aload_n (i := 0) rfl rfl d_X_judge_113 rfl ?_
    refine MM.aload_n (i := 0) rfl rfl d_X_judge_114 rfl ?_
    refine MM.gR 8 9 tg_32 rq_8_2 rfl lays_8 ww_474 d_X_judge_115 rfl ?_
    obtain ⟨v47, e46, hf⟩ := mm_bind hf
    refine MM.callV1 (T_X_weighed V l 41 v12 _ e46) (fun _ _ q => q) cal_X_weighed rfl tg_32 ct_8 ww_8 ww_900 ww_898 (by decide) (by simp [Value.category]) d_X_judge_118 rfl ⟨rfl, rfl⟩ rfl ?_
    refine MM.aload_n (i := 0) rfl rfl d_X_judge_121 rfl ?_
    obtain ⟨t48, e49, hf⟩ := mm_bind hf
    obtain ⟨e49, t_t48⟩ := mm_gTE e49
    refine MM.gT e49 tg_32 tq_14 lays_8 ww_486 d_X_judge_122 rfl ?_
    obtain ⟨v51, e50, hf⟩ := mm_bind hf
    refine MM.callV1 (T_To_allSecrets V l t48 v47 _ e50) (fun _ _ q => q) cal_To_allSecrets rfl t_t48 ct_7 ww_1047 ww_1046 ww_1045 (by decide) (by simp [Value.category]) d_X_judge_125 rfl ⟨rfl, rfl⟩ rfl ?_
    obtain ⟨v53, e52, hf⟩ := mm_bind hf
    refine MM.callS1 (T_X_together V l 76 v51 v47 _ e52) (fun _ _ q => q) cal_X_together rfl ww_994 ww_1000 (by decide) (by simp [Value.category]) d_X_judge_128 rfl ⟨rfl, rfl⟩ rfl ?_
    obtain ⟨h54, e55, hf⟩ := mm_letE hf
    refine MM.sI ix_2_4 e55 al_78 d_X_judge_131 rfl ?_
    obtain rfl := Option.some.inj hf
    subst hZ
    exact MM.vret rfl d_X_judge_132 ⟨rfl, rfl⟩
  clear hf
  refine MM.sub [1, 0] (by rfl) (mm_while_ind (fun s9 => MM V l Y_X_judge 7 0 0 Z0 27 [(0, .ref 32), (1, .int s9.1)] [] s9.2) e14 (fun s9 q10 hf hx11 => ?_))
  refine MM.iload_n (i := 1) rfl rfl d_X_judge_27 rfl ?_
  refine MM.aload_n (i := 0) rfl rfl d_X_judge_28 rfl ?_
  refine MM.gR 8 15 tg_32 rq_8_3 rfl lays_8 ww_475 d_X_judge_29 rfl ?_
  refine MM.getI 5 tg_47 lays_5 gq_5_0 ww_253 d_X_judge_32 rfl ?_
  obtain ⟨m44, m45⟩ := mm_ifE hf
  refine MM.icmp_ge (tgt := 108) d_X_judge_35 rfl rfl (fun c43 => ?_) (fun c43 => ?_)
  · replace hf := m44 c43
    obtain rfl := Option.some.inj hf
    obtain rfl := Option.some.inj (mm_wxR hx11)
    exact MM.sub [0] (by rfl) K13
  · replace hf := m45 c43
    refine MM.aload_n (i := 0) rfl rfl d_X_judge_38 rfl ?_
    refine MM.gR 8 15 tg_32 rq_8_3 rfl lays_8 ww_475 d_X_judge_39 rfl ?_
    refine MM.gR 5 1 tg_47 rq_5_1 rfl lays_5 ww_255 d_X_judge_42 rfl ?_
    refine MM.iload_n (i := 1) rfl rfl d_X_judge_45 rfl ?_
    obtain ⟨k15, e16, hf⟩ := mm_bind hf
    refine MM.gI e16 al_48 d_X_judge_46 rfl ?_
    refine MM.iconst ic_3 d_X_judge_47 rfl ?_
    obtain ⟨j17, e42, hf⟩ := mm_bind hf
    have K18 : MM V l Y_X_judge 7 0 0 Z0 102 [(0, .ref 32), (1, .int s9.1)] [] j17 := by
      obtain ⟨y40, e41, hf⟩ := mm_letE hf
      refine MM.iinc (k0 := 1) (lv' := [(1, .int y40), (0, .ref 32)]) (by rw [ic_1]; exact e41) rfl (Nat.le_of_ble_eq_true rfl) rfl d_X_judge_102 rfl ?_
      refine MM.goto (tgt := 27) d_X_judge_105 rfl ?_
      obtain rfl := Option.some.inj hf
      have h9 := mm_wxL hx11
      exact MM.sub [1, 0] (by rfl) h9
    clear hf
    have hf := e42
    clear e42
    obtain ⟨m38, m39⟩ := mm_ifE hf
    refine MM.icmp_ne (tgt := 77) d_X_judge_48 rfl rfl (fun c37 => ?_) (fun c37 => ?_)
    · replace hf := m39 c37
      refine MM.aload_n (i := 0) rfl rfl d_X_judge_77 rfl ?_
      refine MM.iload_n (i := 1) rfl rfl d_X_judge_78 rfl ?_
      obtain ⟨v20, e19, hf⟩ := mm_bind hf
      refine MM.callV1 (T_X_tryLine V l s9.1 s9.2 _ e19) (fun _ _ q => q) cal_X_tryLine rfl tg_32 ct_8 ww_11 ww_1043 ww_1041 (by decide) (by simp [Value.category]) d_X_judge_79 rfl ⟨rfl, rfl⟩ rfl ?_
      obtain ⟨m27, m28⟩ := mm_ifE hf
      refine MM.if_ne (tgt := 102) d_X_judge_82 rfl rfl (fun c26 => ?_) (fun c26 => ?_)
      · replace hf := m28 c26
        obtain rfl := Option.some.inj hf
        exact MM.sub [0, 1] (by rfl) K18
      · replace hf := m27 c26
        refine MM.aload_n (i := 0) rfl rfl d_X_judge_85 rfl ?_
        refine MM.gR 8 46 tg_32 rq_8_13 rfl lays_8 ww_485 d_X_judge_86 rfl ?_
        refine MM.iconst ic_0 d_X_judge_89 rfl ?_
        refine MM.gI ix_0_4 al_78 d_X_judge_90 rfl ?_
        refine MM.iconst ic_m1 d_X_judge_91 rfl ?_
        obtain ⟨m24, m25⟩ := mm_ifE hf
        refine MM.icmp_ne (tgt := 102) d_X_judge_92 rfl rfl (fun c23 => ?_) (fun c23 => ?_)
        · replace hf := m25 c23
          obtain rfl := Option.some.inj hf
          exact MM.sub [0, 1] (by rfl) K18
        · replace hf := m24 c23
          refine MM.aload_n (i := 0) rfl rfl d_X_judge_95 rfl ?_
          refine MM.gR 8 46 tg_32 rq_8_13 rfl lays_8 ww_485 d_X_judge_96 rfl ?_
          refine MM.iconst ic_0 d_X_judge_99 rfl ?_
          refine MM.iload_n (i := 1) rfl rfl d_X_judge_100 rfl ?_
          obtain ⟨h21, e22, hf⟩ := mm_letE hf
          refine MM.sI ix_0_4 e22 al_78 d_X_judge_101 rfl ?_
          obtain rfl := Option.some.inj hf
          exact MM.sub [0, 1] (by rfl) K18
    · replace hf := m38 c37
      refine MM.aload_n (i := 0) rfl rfl d_X_judge_51 rfl ?_
      refine MM.gR 8 46 tg_32 rq_8_13 rfl lays_8 ww_485 d_X_judge_52 rfl ?_
      refine MM.iconst ic_1 d_X_judge_55 rfl ?_
      refine MM.dup2 rfl rfl d_X_judge_56 rfl ?_
      refine MM.gI ix_1_4 al_78 d_X_judge_57 rfl ?_
      refine MM.aload_n (i := 0) rfl rfl d_X_judge_58 rfl ?_
      refine MM.gR 8 9 tg_32 rq_8_2 rfl lays_8 ww_474 d_X_judge_59 rfl ?_
      refine MM.aload_n (i := 0) rfl rfl d_X_judge_62 rfl ?_
      obtain ⟨t29, e30, hf⟩ := mm_bind hf
      obtain ⟨e30, t_t29⟩ := mm_gTE e30
      refine MM.gT e30 tg_32 tq_14 lays_8 ww_486 d_X_judge_63 rfl ?_
      obtain ⟨v32, e31, hf⟩ := mm_bind hf
      refine MM.callV1 (T_St_endQuarter V l 41 t29 s9.2 _ e31) (fun _ _ q => q) cal_St_endQuarter rfl tg_41 ct_4 ww_1011 ww_1010 ww_1009 (by decide) (by simp [Value.category]) d_X_judge_66 rfl ⟨rfl, rfl⟩ rfl ?_
      obtain ⟨v34, e33, hf⟩ := mm_bind hf
      refine MM.callS1 (T_JI_bitCount V l v32.1 v32.2 _ e33) (fun _ _ q => q) cal_JI_bitCount rfl ww_893 ww_1040 (by decide) (by simp [Value.category]) d_X_judge_69 rfl ⟨rfl, rfl⟩ rfl ?_
      refine MM.iadd d_X_judge_72 rfl ?_
      obtain ⟨h35, e36, hf⟩ := mm_letE hf
      refine MM.sI ix_1_4 e36 al_78 d_X_judge_73 rfl ?_
      refine MM.goto (tgt := 102) d_X_judge_74 rfl ?_
      obtain rfl := Option.some.inj hf
      exact MM.sub [0, 1] (by rfl) K18
theorem d_X_judged_0 : decode cX11_judged 0 = .ok (.iload_n 1, 1) := by decide +kernel
theorem d_X_judged_1 : decode cX11_judged 1 = .ok (.ifCond .lt 8, 3) := by decide +kernel
theorem d_X_judged_4 : decode cX11_judged 4 = .ok (.iload_n 1, 1) := by decide +kernel
theorem d_X_judged_5 : decode cX11_judged 5 = .ok (.iconst 2, 1) := by decide +kernel
theorem d_X_judged_6 : decode cX11_judged 6 = .ok (.if_icmp .le 6, 3) := by decide +kernel
theorem d_X_judged_9 : decode cX11_judged 9 = .ok (.bipush (-2), 2) := by decide +kernel
theorem d_X_judged_11 : decode cX11_judged 11 = .ok (.ireturn, 1) := by decide +kernel
theorem d_X_judged_12 : decode cX11_judged 12 = .ok (.aload_n 0, 1) := by decide +kernel
theorem d_X_judged_13 : decode cX11_judged 13 = .ok (.invokevirtual 255, 3) := by decide +kernel
theorem d_X_judged_16 : decode cX11_judged 16 = .ok (.aload_n 0, 1) := by decide +kernel
theorem d_X_judged_17 : decode cX11_judged 17 = .ok (.getfield 75, 3) := by decide +kernel
theorem d_X_judged_20 : decode cX11_judged 20 = .ok (.iload_n 1, 1) := by decide +kernel
theorem d_X_judged_21 : decode cX11_judged 21 = .ok (.iaload, 1) := by decide +kernel
theorem d_X_judged_22 : decode cX11_judged 22 = .ok (.ireturn, 1) := by decide +kernel
noncomputable def f_X_judged (x1 : Int32) (h : mm_H) : Option (Int32 × mm_H) := mm_jp (fun (j1 : Unit) => (some ((-2), h))) fun k3 => if x1 < 0 then (k3 ()) else (if x1 ≤ 2 then ((f_X_judge h).bind fun v5 => (mm_ix x1 4).bind fun k6 => some ((v5.1 78 k6), v5)) else (k3 ()))
theorem T_X_judged (V : mm_V) (l : Launch) (x1 : Int32) (h : mm_H) (r : (Int32 × mm_H)) (hf : f_X_judged x1 h = some r) : MT V l Y_X_judged 8 [.ref 32, .int x1] (fun r1 h1 => r1 = some (.int r.1) ∧ h1 = r.2) h := by
  unfold f_X_judged at hf
  refine MT.intro (pn_X rfl) [(0, .ref 32), (1, .int x1)] rfl (Nat.le_of_ble_eq_true rfl) ?_
  generalize hZ : mm_Z V _ = Z0
  refine MM.iload_n (i := 1) rfl rfl d_X_judged_0 rfl ?_
  obtain ⟨k3, e14, hf⟩ := mm_jpE hf
  have K2 : ∀ j1, k3 j1 = some r → MM V l Y_X_judged 8 0 0 Z0 9 [] [] h := by
    intro j1 hf
    rw [e14] at hf
    refine MM.bipush bp_m2 d_X_judged_9 rfl ?_
    obtain rfl := Option.some.inj hf
    subst hZ
    exact MM.iret rfl d_X_judged_11 ⟨rfl, rfl⟩
  clear e14
  obtain ⟨m12, m13⟩ := mm_ifE hf
  refine MM.if_lt (tgt := 9) d_X_judged_1 rfl rfl (fun c11 => ?_) (fun c11 => ?_)
  · replace hf := m12 c11
    exact MM.sub [] (by rfl) (K2 _ hf)
  · replace hf := m13 c11
    refine MM.iload_n (i := 1) rfl rfl d_X_judged_4 rfl ?_
    refine MM.iconst ic_2 d_X_judged_5 rfl ?_
    obtain ⟨m9, m10⟩ := mm_ifE hf
    refine MM.icmp_le (tgt := 12) d_X_judged_6 rfl rfl (fun c8 => ?_) (fun c8 => ?_)
    · replace hf := m9 c8
      refine MM.aload_n (i := 0) rfl rfl d_X_judged_12 rfl ?_
      obtain ⟨v5, e4, hf⟩ := mm_bind hf
      refine MM.callV0 (T_X_judge V l  h _ e4) (fun _ _ q => q) cal_X_judge rfl tg_32 ct_8 ww_10 ww_1038 ww_1036 (by decide) (by simp [Value.category]) d_X_judged_13 rfl ⟨rfl, rfl⟩ rfl ?_
      refine MM.aload_n (i := 0) rfl rfl d_X_judged_16 rfl ?_
      refine MM.gR 8 46 tg_32 rq_8_13 rfl lays_8 ww_485 d_X_judged_17 rfl ?_
      refine MM.iload_n (i := 1) rfl rfl d_X_judged_20 rfl ?_
      obtain ⟨k6, e7, hf⟩ := mm_bind hf
      refine MM.gI e7 al_78 d_X_judged_21 rfl ?_
      obtain rfl := Option.some.inj hf
      subst hZ
      exact MM.iret rfl d_X_judged_22 ⟨rfl, rfl⟩
    · replace hf := m10 c8
      exact MM.sub [] (by rfl) (K2 _ hf)
theorem d_Co_weighSets_0 : decode cX0_weighSets 0 = .ok (.aload_n 0, 1) := by decide +kernel
theorem d_Co_weighSets_1 : decode cX0_weighSets 1 = .ok (.getfield 9, 3) := by decide +kernel
theorem d_Co_weighSets_4 : decode cX0_weighSets 4 = .ok (.iconst 0, 1) := by decide +kernel
theorem d_Co_weighSets_5 : decode cX0_weighSets 5 = .ok (.iconst 0, 1) := by decide +kernel
theorem d_Co_weighSets_6 : decode cX0_weighSets 6 = .ok (.iastore, 1) := by decide +kernel
theorem d_Co_weighSets_7 : decode cX0_weighSets 7 = .ok (.iconst 0, 1) := by decide +kernel
theorem d_Co_weighSets_8 : decode cX0_weighSets 8 = .ok (.istore_n 3, 1) := by decide +kernel
theorem d_Co_weighSets_9 : decode cX0_weighSets 9 = .ok (.iload_n 3, 1) := by decide +kernel
theorem d_Co_weighSets_10 : decode cX0_weighSets 10 = .ok (.aload_n 1, 1) := by decide +kernel
theorem d_Co_weighSets_11 : decode cX0_weighSets 11 = .ok (.getfield 22, 3) := by decide +kernel
theorem d_Co_weighSets_14 : decode cX0_weighSets 14 = .ok (.if_icmp .ge 51, 3) := by decide +kernel
theorem d_Co_weighSets_17 : decode cX0_weighSets 17 = .ok (.iconst 1, 1) := by decide +kernel
theorem d_Co_weighSets_18 : decode cX0_weighSets 18 = .ok (.iload_n 3, 1) := by decide +kernel
theorem d_Co_weighSets_19 : decode cX0_weighSets 19 = .ok (.ishl, 1) := by decide +kernel
theorem d_Co_weighSets_20 : decode cX0_weighSets 20 = .ok (.istore 4, 2) := by decide +kernel
theorem d_Co_weighSets_22 : decode cX0_weighSets 22 = .ok (.iconst 0, 1) := by decide +kernel
theorem d_Co_weighSets_23 : decode cX0_weighSets 23 = .ok (.istore 5, 2) := by decide +kernel
theorem d_Co_weighSets_25 : decode cX0_weighSets 25 = .ok (.iload 5, 2) := by decide +kernel
theorem d_Co_weighSets_27 : decode cX0_weighSets 27 = .ok (.iload 4, 2) := by decide +kernel
theorem d_Co_weighSets_29 : decode cX0_weighSets 29 = .ok (.if_icmp .ge 30, 3) := by decide +kernel
theorem d_Co_weighSets_32 : decode cX0_weighSets 32 = .ok (.aload_n 0, 1) := by decide +kernel
theorem d_Co_weighSets_33 : decode cX0_weighSets 33 = .ok (.getfield 9, 3) := by decide +kernel
theorem d_Co_weighSets_36 : decode cX0_weighSets 36 = .ok (.iload 4, 2) := by decide +kernel
theorem d_Co_weighSets_38 : decode cX0_weighSets 38 = .ok (.iload 5, 2) := by decide +kernel
theorem d_Co_weighSets_40 : decode cX0_weighSets 40 = .ok (.iadd, 1) := by decide +kernel
theorem d_Co_weighSets_41 : decode cX0_weighSets 41 = .ok (.aload_n 0, 1) := by decide +kernel
theorem d_Co_weighSets_42 : decode cX0_weighSets 42 = .ok (.getfield 9, 3) := by decide +kernel
theorem d_Co_weighSets_45 : decode cX0_weighSets 45 = .ok (.iload 5, 2) := by decide +kernel
theorem d_Co_weighSets_47 : decode cX0_weighSets 47 = .ok (.iaload, 1) := by decide +kernel
theorem d_Co_weighSets_48 : decode cX0_weighSets 48 = .ok (.aload_n 2, 1) := by decide +kernel
theorem d_Co_weighSets_49 : decode cX0_weighSets 49 = .ok (.iload_n 3, 1) := by decide +kernel
theorem d_Co_weighSets_50 : decode cX0_weighSets 50 = .ok (.iaload, 1) := by decide +kernel
theorem d_Co_weighSets_51 : decode cX0_weighSets 51 = .ok (.iadd, 1) := by decide +kernel
theorem d_Co_weighSets_52 : decode cX0_weighSets 52 = .ok (.iastore, 1) := by decide +kernel
theorem d_Co_weighSets_53 : decode cX0_weighSets 53 = .ok (.iinc 5 1, 3) := by decide +kernel
theorem d_Co_weighSets_56 : decode cX0_weighSets 56 = .ok (.goto (-31), 3) := by decide +kernel
theorem d_Co_weighSets_59 : decode cX0_weighSets 59 = .ok (.iinc 3 1, 3) := by decide +kernel
theorem d_Co_weighSets_62 : decode cX0_weighSets 62 = .ok (.goto (-53), 3) := by decide +kernel
theorem d_Co_weighSets_65 : decode cX0_weighSets 65 = .ok (.return_, 1) := by decide +kernel
noncomputable def f_Co_weighSets (a1 : Nat) (a2 : Nat) (h : mm_H) : Option mm_H := if mm_tg a1 = 7 ∧ mm_tg a2 = 20 then (mm_let (mm_pI h 65 0 0) fun h1 => (mm_while (σ := (Int32 × mm_H)) (ρ := mm_H) (fun s3 => if (s3.2.1 a1 6) ≤ s3.1 then (some (Sum.inr s3.2)) else (mm_let ((1 : Int32) <<< (s3.1 &&& 31)) fun y9 => (mm_while (σ := (Int32 × mm_H)) (ρ := mm_H) (fun s11 => if y9 ≤ s11.1 then (some (Sum.inr s11.2)) else ((mm_ix s11.1 1024).bind fun k17 => (mm_ix s3.1 (mm_ln a2)).bind fun k19 => (mm_ix (y9 + s11.1) 1024).bind fun k21 => mm_let (mm_pI s11.2 65 k21 ((s11.2.1 65 k17) + (s11.2.1 a2 k19))) fun h23 => mm_let (s11.1 + 1) fun y25 => some (Sum.inl (y25, h23)))) (0, s3.2)).bind fun v14 => mm_let (s3.1 + 1) fun y30 => some (Sum.inl (y30, v14)))) (0, h1)).bind fun v6 => some v6) else none
theorem T_Co_weighSets (V : mm_V) (l : Launch) (a1 : Nat) (a2 : Nat) (h : mm_H) (r : mm_H) (hf : f_Co_weighSets a1 a2 h = some r) : MT V l Y_Co_weighSets 1 [.ref 64, .ref a1, .ref a2] (fun r1 h1 => r1 = none ∧ h1 = r) h := by
  unfold f_Co_weighSets at hf
  obtain ⟨⟨t_a1, t_a2⟩, hf⟩ := mm_chkE hf
  refine MT.intro (pn_Co rfl) [(0, .ref 64), (1, .ref a1), (2, .ref a2)] rfl (Nat.le_of_ble_eq_true rfl) ?_
  generalize hZ : mm_Z V _ = Z0
  refine MM.aload_n (i := 0) rfl rfl d_Co_weighSets_0 rfl ?_
  refine MM.gR 0 1 tg_64 rq_0_0 rfl lays_0 ww_293 d_Co_weighSets_1 rfl ?_
  refine MM.iconst ic_0 d_Co_weighSets_4 rfl ?_
  refine MM.iconst ic_0 d_Co_weighSets_5 rfl ?_
  obtain ⟨h1, e2, hf⟩ := mm_letE hf
  refine MM.sI ix_0_1024 e2 al_65 d_Co_weighSets_6 rfl ?_
  refine MM.iconst ic_0 d_Co_weighSets_7 rfl ?_
  refine MM.istore_n (i := 3) (lv' := [(3, .int 0), (0, .ref 64), (1, .ref a1), (2, .ref a2)]) rfl rfl (Nat.le_of_ble_eq_true rfl) rfl d_Co_weighSets_8 rfl ?_
  obtain ⟨v6, e8, hf⟩ := mm_bind hf
  have K7 : MM V l Y_Co_weighSets 1 0 0 Z0 65 [] [] v6 := by
    obtain rfl := Option.some.inj hf
    subst hZ
    exact MM.vret rfl d_Co_weighSets_65 ⟨rfl, rfl⟩
  clear hf
  refine MM.sub [1, 2, 3, 0] (by rfl) (mm_while_ind (fun s3 => MM V l Y_Co_weighSets 1 0 0 Z0 9 [(0, .ref 64), (1, .ref a1), (2, .ref a2), (3, .int s3.1)] [] s3.2) e8 (fun s3 q4 hf hx5 => ?_))
  refine MM.iload_n (i := 3) rfl rfl d_Co_weighSets_9 rfl ?_
  refine MM.aload_n (i := 1) rfl rfl d_Co_weighSets_10 rfl ?_
  refine MM.getI 7 t_a1 lays_7 gq_7_6 ww_386 d_Co_weighSets_11 rfl ?_
  obtain ⟨m33, m34⟩ := mm_ifE hf
  refine MM.icmp_ge (tgt := 65) d_Co_weighSets_14 rfl rfl (fun c32 => ?_) (fun c32 => ?_)
  · replace hf := m33 c32
    obtain rfl := Option.some.inj hf
    obtain rfl := Option.some.inj (mm_wxR hx5)
    exact MM.sub [] (by rfl) K7
  · replace hf := m34 c32
    refine MM.iconst ic_1 d_Co_weighSets_17 rfl ?_
    refine MM.iload_n (i := 3) rfl rfl d_Co_weighSets_18 rfl ?_
    refine MM.ishl d_Co_weighSets_19 rfl ?_
    obtain ⟨y9, e10, hf⟩ := mm_letE hf
    refine MM.istore (lv' := [(4, .int y9), (0, .ref 64), (1, .ref a1), (2, .ref a2), (3, .int s3.1)]) e10 (Nat.le_of_ble_eq_true rfl) rfl d_Co_weighSets_20 rfl ?_
    refine MM.iconst ic_0 d_Co_weighSets_22 rfl ?_
    refine MM.istore (lv' := [(5, .int 0), (4, .int y9), (0, .ref 64), (1, .ref a1), (2, .ref a2), (3, .int s3.1)]) rfl (Nat.le_of_ble_eq_true rfl) rfl d_Co_weighSets_23 rfl ?_
    obtain ⟨v14, e16, hf⟩ := mm_bind hf
    have K15 : MM V l Y_Co_weighSets 1 0 0 Z0 59 [(0, .ref 64), (1, .ref a1), (2, .ref a2), (3, .int s3.1)] [] v14 := by
      obtain ⟨y30, e31, hf⟩ := mm_letE hf
      refine MM.iinc (k0 := 3) (lv' := [(3, .int y30), (0, .ref 64), (1, .ref a1), (2, .ref a2)]) (by rw [ic_1]; exact e31) rfl (Nat.le_of_ble_eq_true rfl) rfl d_Co_weighSets_59 rfl ?_
      refine MM.goto (tgt := 9) d_Co_weighSets_62 rfl ?_
      obtain rfl := Option.some.inj hf
      have h9 := mm_wxL hx5
      exact MM.sub [1, 2, 3, 0] (by rfl) h9
    clear hf
    refine MM.sub [2, 3, 4, 5, 1, 0] (by rfl) (mm_while_ind (fun s11 => MM V l Y_Co_weighSets 1 0 0 Z0 25 [(0, .ref 64), (1, .ref a1), (2, .ref a2), (3, .int s3.1), (4, .int y9), (5, .int s11.1)] [] s11.2) e16 (fun s11 q12 hf hx13 => ?_))
    refine MM.iload rfl d_Co_weighSets_25 rfl ?_
    refine MM.iload rfl d_Co_weighSets_27 rfl ?_
    obtain ⟨m28, m29⟩ := mm_ifE hf
    refine MM.icmp_ge (tgt := 59) d_Co_weighSets_29 rfl rfl (fun c27 => ?_) (fun c27 => ?_)
    · replace hf := m28 c27
      obtain rfl := Option.some.inj hf
      obtain rfl := Option.some.inj (mm_wxR hx13)
      exact MM.sub [0, 1, 2, 3] (by rfl) K15
    · replace hf := m29 c27
      refine MM.aload_n (i := 0) rfl rfl d_Co_weighSets_32 rfl ?_
      refine MM.gR 0 1 tg_64 rq_0_0 rfl lays_0 ww_293 d_Co_weighSets_33 rfl ?_
      refine MM.iload rfl d_Co_weighSets_36 rfl ?_
      refine MM.iload rfl d_Co_weighSets_38 rfl ?_
      refine MM.iadd d_Co_weighSets_40 rfl ?_
      refine MM.aload_n (i := 0) rfl rfl d_Co_weighSets_41 rfl ?_
      refine MM.gR 0 1 tg_64 rq_0_0 rfl lays_0 ww_293 d_Co_weighSets_42 rfl ?_
      refine MM.iload rfl d_Co_weighSets_45 rfl ?_
      obtain ⟨k17, e18, hf⟩ := mm_bind hf
      refine MM.gI e18 al_65 d_Co_weighSets_47 rfl ?_
      refine MM.aload_n (i := 2) rfl rfl d_Co_weighSets_48 rfl ?_
      refine MM.iload_n (i := 3) rfl rfl d_Co_weighSets_49 rfl ?_
      obtain ⟨k19, e20, hf⟩ := mm_bind hf
      refine MM.gI e20 ⟨t_a2, rfl⟩ d_Co_weighSets_50 rfl ?_
      refine MM.iadd d_Co_weighSets_51 rfl ?_
      obtain ⟨k21, e22, hf⟩ := mm_bind hf
      obtain ⟨h23, e24, hf⟩ := mm_letE hf
      refine MM.sI e22 e24 al_65 d_Co_weighSets_52 rfl ?_
      obtain ⟨y25, e26, hf⟩ := mm_letE hf
      refine MM.iinc (k0 := 5) (lv' := [(5, .int y25), (0, .ref 64), (1, .ref a1), (2, .ref a2), (3, .int s3.1), (4, .int y9)]) (by rw [ic_1]; exact e26) rfl (Nat.le_of_ble_eq_true rfl) rfl d_Co_weighSets_53 rfl ?_
      refine MM.goto (tgt := 25) d_Co_weighSets_56 rfl ?_
      obtain rfl := Option.some.inj hf
      have h9 := mm_wxL hx13
      exact MM.sub [1, 2, 3, 4, 5, 0] (by rfl) h9
theorem d_Co_isLesser_0 : decode cX0_isLesser 0 = .ok (.iload_n 1, 1) := by decide +kernel
theorem d_Co_isLesser_1 : decode cX0_isLesser 1 = .ok (.invokestatic 47, 3) := by decide +kernel
theorem d_Co_isLesser_4 : decode cX0_isLesser 4 = .ok (.istore_n 3, 1) := by decide +kernel
theorem d_Co_isLesser_5 : decode cX0_isLesser 5 = .ok (.iload_n 2, 1) := by decide +kernel
theorem d_Co_isLesser_6 : decode cX0_isLesser 6 = .ok (.invokestatic 47, 3) := by decide +kernel
theorem d_Co_isLesser_9 : decode cX0_isLesser 9 = .ok (.istore 4, 2) := by decide +kernel
theorem d_Co_isLesser_11 : decode cX0_isLesser 11 = .ok (.iload_n 3, 1) := by decide +kernel
theorem d_Co_isLesser_12 : decode cX0_isLesser 12 = .ok (.iload 4, 2) := by decide +kernel
theorem d_Co_isLesser_14 : decode cX0_isLesser 14 = .ok (.if_icmp .eq 15, 3) := by decide +kernel
theorem d_Co_isLesser_17 : decode cX0_isLesser 17 = .ok (.iload_n 3, 1) := by decide +kernel
theorem d_Co_isLesser_18 : decode cX0_isLesser 18 = .ok (.iload 4, 2) := by decide +kernel
theorem d_Co_isLesser_20 : decode cX0_isLesser 20 = .ok (.if_icmp .ge 7, 3) := by decide +kernel
theorem d_Co_isLesser_23 : decode cX0_isLesser 23 = .ok (.iconst 1, 1) := by decide +kernel
theorem d_Co_isLesser_24 : decode cX0_isLesser 24 = .ok (.goto 4, 3) := by decide +kernel
theorem d_Co_isLesser_27 : decode cX0_isLesser 27 = .ok (.iconst 0, 1) := by decide +kernel
theorem d_Co_isLesser_28 : decode cX0_isLesser 28 = .ok (.ireturn, 1) := by decide +kernel
theorem d_Co_isLesser_29 : decode cX0_isLesser 29 = .ok (.aload_n 0, 1) := by decide +kernel
theorem d_Co_isLesser_30 : decode cX0_isLesser 30 = .ok (.getfield 9, 3) := by decide +kernel
theorem d_Co_isLesser_33 : decode cX0_isLesser 33 = .ok (.iload_n 1, 1) := by decide +kernel
theorem d_Co_isLesser_34 : decode cX0_isLesser 34 = .ok (.iaload, 1) := by decide +kernel
theorem d_Co_isLesser_35 : decode cX0_isLesser 35 = .ok (.aload_n 0, 1) := by decide +kernel
theorem d_Co_isLesser_36 : decode cX0_isLesser 36 = .ok (.getfield 9, 3) := by decide +kernel
theorem d_Co_isLesser_39 : decode cX0_isLesser 39 = .ok (.iload_n 2, 1) := by decide +kernel
theorem d_Co_isLesser_40 : decode cX0_isLesser 40 = .ok (.iaload, 1) := by decide +kernel
theorem d_Co_isLesser_41 : decode cX0_isLesser 41 = .ok (.if_icmp .eq 26, 3) := by decide +kernel
theorem d_Co_isLesser_44 : decode cX0_isLesser 44 = .ok (.aload_n 0, 1) := by decide +kernel
theorem d_Co_isLesser_45 : decode cX0_isLesser 45 = .ok (.getfield 9, 3) := by decide +kernel
theorem d_Co_isLesser_48 : decode cX0_isLesser 48 = .ok (.iload_n 1, 1) := by decide +kernel
theorem d_Co_isLesser_49 : decode cX0_isLesser 49 = .ok (.iaload, 1) := by decide +kernel
theorem d_Co_isLesser_50 : decode cX0_isLesser 50 = .ok (.aload_n 0, 1) := by decide +kernel
theorem d_Co_isLesser_51 : decode cX0_isLesser 51 = .ok (.getfield 9, 3) := by decide +kernel
theorem d_Co_isLesser_54 : decode cX0_isLesser 54 = .ok (.iload_n 2, 1) := by decide +kernel
theorem d_Co_isLesser_55 : decode cX0_isLesser 55 = .ok (.iaload, 1) := by decide +kernel
theorem d_Co_isLesser_56 : decode cX0_isLesser 56 = .ok (.if_icmp .ge 7, 3) := by decide +kernel
theorem d_Co_isLesser_59 : decode cX0_isLesser 59 = .ok (.iconst 1, 1) := by decide +kernel
theorem d_Co_isLesser_60 : decode cX0_isLesser 60 = .ok (.goto 17, 3) := by decide +kernel
theorem d_Co_isLesser_63 : decode cX0_isLesser 63 = .ok (.iconst 0, 1) := by decide +kernel
theorem d_Co_isLesser_64 : decode cX0_isLesser 64 = .ok (.goto 13, 3) := by decide +kernel
theorem d_Co_isLesser_67 : decode cX0_isLesser 67 = .ok (.iload_n 1, 1) := by decide +kernel
theorem d_Co_isLesser_68 : decode cX0_isLesser 68 = .ok (.iload_n 2, 1) := by decide +kernel
theorem d_Co_isLesser_69 : decode cX0_isLesser 69 = .ok (.if_icmp .ge 7, 3) := by decide +kernel
theorem d_Co_isLesser_72 : decode cX0_isLesser 72 = .ok (.iconst 1, 1) := by decide +kernel
theorem d_Co_isLesser_73 : decode cX0_isLesser 73 = .ok (.goto 4, 3) := by decide +kernel
theorem d_Co_isLesser_76 : decode cX0_isLesser 76 = .ok (.iconst 0, 1) := by decide +kernel
theorem d_Co_isLesser_77 : decode cX0_isLesser 77 = .ok (.ireturn, 1) := by decide +kernel
noncomputable def f_Co_isLesser (x1 : Int32) (x2 : Int32) (h : mm_H) : Option Int32 := (f_JI_bitCount x1).bind fun v2 => (f_JI_bitCount x2).bind fun v4 => if v2 = v4 then ((mm_ix x1 1024).bind fun k5 => (mm_ix x2 1024).bind fun k7 => if (h.1 65 k5) = (h.1 65 k7) then (if x2 ≤ x1 then (some 0) else (some 1)) else ((mm_ix x1 1024).bind fun k12 => (mm_ix x2 1024).bind fun k14 => if (h.1 65 k14) ≤ (h.1 65 k12) then (some 0) else (some 1))) else (if v4 ≤ v2 then (some 0) else (some 1))
theorem T_Co_isLesser (V : mm_V) (l : Launch) (x1 : Int32) (x2 : Int32) (h : mm_H) (r : Int32) (hf : f_Co_isLesser x1 x2 h = some r) : MT V l Y_Co_isLesser 2 [.ref 64, .int x1, .int x2] (fun r1 h1 => r1 = some (.int r) ∧ h1 = h) h := by
  unfold f_Co_isLesser at hf
  refine MT.intro (pn_Co rfl) [(0, .ref 64), (1, .int x1), (2, .int x2)] rfl (Nat.le_of_ble_eq_true rfl) ?_
  generalize hZ : mm_Z V _ = Z0
  refine MM.iload_n (i := 1) rfl rfl d_Co_isLesser_0 rfl ?_
  obtain ⟨v2, e1, hf⟩ := mm_bind hf
  refine MM.callS1 (T_JI_bitCount V l x1 h _ e1) (fun _ _ q => q) cal_JI_bitCount rfl ww_893 ww_1067 (by decide) (by simp [Value.category]) d_Co_isLesser_1 rfl ⟨rfl, rfl⟩ rfl ?_
  refine MM.istore_n (i := 3) (lv' := [(3, .int v2), (0, .ref 64), (1, .int x1), (2, .int x2)]) rfl rfl (Nat.le_of_ble_eq_true rfl) rfl d_Co_isLesser_4 rfl ?_
  refine MM.iload_n (i := 2) rfl rfl d_Co_isLesser_5 rfl ?_
  obtain ⟨v4, e3, hf⟩ := mm_bind hf
  refine MM.callS1 (T_JI_bitCount V l x2 h _ e3) (fun _ _ q => q) cal_JI_bitCount rfl ww_893 ww_1067 (by decide) (by simp [Value.category]) d_Co_isLesser_6 rfl ⟨rfl, rfl⟩ rfl ?_
  refine MM.istore (lv' := [(4, .int v4), (3, .int v2), (0, .ref 64), (1, .int x1), (2, .int x2)]) rfl (Nat.le_of_ble_eq_true rfl) rfl d_Co_isLesser_9 rfl ?_
  refine MM.iload_n (i := 3) rfl rfl d_Co_isLesser_11 rfl ?_
  refine MM.iload rfl d_Co_isLesser_12 rfl ?_
  obtain ⟨m26, m27⟩ := mm_ifE hf
  refine MM.icmp_eq (tgt := 29) d_Co_isLesser_14 rfl rfl (fun c25 => ?_) (fun c25 => ?_)
  · replace hf := m26 c25
    refine MM.aload_n (i := 0) rfl rfl d_Co_isLesser_29 rfl ?_
    refine MM.gR 0 1 tg_64 rq_0_0 rfl lays_0 ww_293 d_Co_isLesser_30 rfl ?_
    refine MM.iload_n (i := 1) rfl rfl d_Co_isLesser_33 rfl ?_
    obtain ⟨k5, e6, hf⟩ := mm_bind hf
    refine MM.gI e6 al_65 d_Co_isLesser_34 rfl ?_
    refine MM.aload_n (i := 0) rfl rfl d_Co_isLesser_35 rfl ?_
    refine MM.gR 0 1 tg_64 rq_0_0 rfl lays_0 ww_293 d_Co_isLesser_36 rfl ?_
    refine MM.iload_n (i := 2) rfl rfl d_Co_isLesser_39 rfl ?_
    obtain ⟨k7, e8, hf⟩ := mm_bind hf
    refine MM.gI e8 al_65 d_Co_isLesser_40 rfl ?_
    obtain ⟨m20, m21⟩ := mm_ifE hf
    refine MM.icmp_eq (tgt := 67) d_Co_isLesser_41 rfl rfl (fun c19 => ?_) (fun c19 => ?_)
    · replace hf := m20 c19
      refine MM.iload_n (i := 1) rfl rfl d_Co_isLesser_67 rfl ?_
      refine MM.iload_n (i := 2) rfl rfl d_Co_isLesser_68 rfl ?_
      obtain ⟨m10, m11⟩ := mm_ifE hf
      refine MM.icmp_ge (tgt := 76) d_Co_isLesser_69 rfl rfl (fun c9 => ?_) (fun c9 => ?_)
      · replace hf := m10 c9
        refine MM.iconst ic_0 d_Co_isLesser_76 rfl ?_
        obtain rfl := Option.some.inj hf
        subst hZ
        exact MM.zret (Or.inl rfl) rfl d_Co_isLesser_77 ⟨rfl, rfl⟩
      · replace hf := m11 c9
        refine MM.iconst ic_1 d_Co_isLesser_72 rfl ?_
        refine MM.goto (tgt := 77) d_Co_isLesser_73 rfl ?_
        obtain rfl := Option.some.inj hf
        subst hZ
        exact MM.zret (Or.inr rfl) rfl d_Co_isLesser_77 ⟨rfl, rfl⟩
    · replace hf := m21 c19
      refine MM.aload_n (i := 0) rfl rfl d_Co_isLesser_44 rfl ?_
      refine MM.gR 0 1 tg_64 rq_0_0 rfl lays_0 ww_293 d_Co_isLesser_45 rfl ?_
      refine MM.iload_n (i := 1) rfl rfl d_Co_isLesser_48 rfl ?_
      obtain ⟨k12, e13, hf⟩ := mm_bind hf
      refine MM.gI e13 al_65 d_Co_isLesser_49 rfl ?_
      refine MM.aload_n (i := 0) rfl rfl d_Co_isLesser_50 rfl ?_
      refine MM.gR 0 1 tg_64 rq_0_0 rfl lays_0 ww_293 d_Co_isLesser_51 rfl ?_
      refine MM.iload_n (i := 2) rfl rfl d_Co_isLesser_54 rfl ?_
      obtain ⟨k14, e15, hf⟩ := mm_bind hf
      refine MM.gI e15 al_65 d_Co_isLesser_55 rfl ?_
      obtain ⟨m17, m18⟩ := mm_ifE hf
      refine MM.icmp_ge (tgt := 63) d_Co_isLesser_56 rfl rfl (fun c16 => ?_) (fun c16 => ?_)
      · replace hf := m17 c16
        refine MM.iconst ic_0 d_Co_isLesser_63 rfl ?_
        refine MM.goto (tgt := 77) d_Co_isLesser_64 rfl ?_
        obtain rfl := Option.some.inj hf
        subst hZ
        exact MM.zret (Or.inl rfl) rfl d_Co_isLesser_77 ⟨rfl, rfl⟩
      · replace hf := m18 c16
        refine MM.iconst ic_1 d_Co_isLesser_59 rfl ?_
        refine MM.goto (tgt := 77) d_Co_isLesser_60 rfl ?_
        obtain rfl := Option.some.inj hf
        subst hZ
        exact MM.zret (Or.inr rfl) rfl d_Co_isLesser_77 ⟨rfl, rfl⟩
  · replace hf := m27 c25
    refine MM.iload_n (i := 3) rfl rfl d_Co_isLesser_17 rfl ?_
    refine MM.iload rfl d_Co_isLesser_18 rfl ?_
    obtain ⟨m23, m24⟩ := mm_ifE hf
    refine MM.icmp_ge (tgt := 27) d_Co_isLesser_20 rfl rfl (fun c22 => ?_) (fun c22 => ?_)
    · replace hf := m23 c22
      refine MM.iconst ic_0 d_Co_isLesser_27 rfl ?_
      obtain rfl := Option.some.inj hf
      subst hZ
      exact MM.zret (Or.inl rfl) rfl d_Co_isLesser_28 ⟨rfl, rfl⟩
    · replace hf := m24 c22
      refine MM.iconst ic_1 d_Co_isLesser_23 rfl ?_
      refine MM.goto (tgt := 28) d_Co_isLesser_24 rfl ?_
      obtain rfl := Option.some.inj hf
      subst hZ
      exact MM.zret (Or.inr rfl) rfl d_Co_isLesser_28 ⟨rfl, rfl⟩
theorem d_Co_fewest_0 : decode cX0_fewest 0 = .ok (.aload_n 2, 1) := by decide +kernel
theorem d_Co_fewest_1 : decode cX0_fewest 1 = .ok (.getfield 28, 3) := by decide +kernel
theorem d_Co_fewest_4 : decode cX0_fewest 4 = .ok (.iload_n 3, 1) := by decide +kernel
theorem d_Co_fewest_5 : decode cX0_fewest 5 = .ok (.invokestatic 33, 3) := by decide +kernel
theorem d_Co_fewest_8 : decode cX0_fewest 8 = .ok (.iconst 1, 1) := by decide +kernel
theorem d_Co_fewest_9 : decode cX0_fewest 9 = .ok (.if_icmp .ne 5, 3) := by decide +kernel
theorem d_Co_fewest_12 : decode cX0_fewest 12 = .ok (.iconst (-1), 1) := by decide +kernel
theorem d_Co_fewest_13 : decode cX0_fewest 13 = .ok (.ireturn, 1) := by decide +kernel
theorem d_Co_fewest_14 : decode cX0_fewest 14 = .ok (.aload_n 2, 1) := by decide +kernel
theorem d_Co_fewest_15 : decode cX0_fewest 15 = .ok (.aload_n 1, 1) := by decide +kernel
theorem d_Co_fewest_16 : decode cX0_fewest 16 = .ok (.iload_n 3, 1) := by decide +kernel
theorem d_Co_fewest_17 : decode cX0_fewest 17 = .ok (.invokevirtual 37, 3) := by decide +kernel
theorem d_Co_fewest_20 : decode cX0_fewest 20 = .ok (.istore 4, 2) := by decide +kernel
theorem d_Co_fewest_22 : decode cX0_fewest 22 = .ok (.iconst (-1), 1) := by decide +kernel
theorem d_Co_fewest_23 : decode cX0_fewest 23 = .ok (.istore 5, 2) := by decide +kernel
theorem d_Co_fewest_25 : decode cX0_fewest 25 = .ok (.iload 4, 2) := by decide +kernel
theorem d_Co_fewest_27 : decode cX0_fewest 27 = .ok (.istore 6, 2) := by decide +kernel
theorem d_Co_fewest_29 : decode cX0_fewest 29 = .ok (.iload 6, 2) := by decide +kernel
theorem d_Co_fewest_31 : decode cX0_fewest 31 = .ok (.ifCond .le 52, 3) := by decide +kernel
theorem d_Co_fewest_34 : decode cX0_fewest 34 = .ok (.aload_n 0, 1) := by decide +kernel
theorem d_Co_fewest_35 : decode cX0_fewest 35 = .ok (.getfield 9, 3) := by decide +kernel
theorem d_Co_fewest_38 : decode cX0_fewest 38 = .ok (.iload 6, 2) := by decide +kernel
theorem d_Co_fewest_40 : decode cX0_fewest 40 = .ok (.iaload, 1) := by decide +kernel
theorem d_Co_fewest_41 : decode cX0_fewest 41 = .ok (.aload_n 1, 1) := by decide +kernel
theorem d_Co_fewest_42 : decode cX0_fewest 42 = .ok (.getfield 40, 3) := by decide +kernel
theorem d_Co_fewest_45 : decode cX0_fewest 45 = .ok (.iload_n 3, 1) := by decide +kernel
theorem d_Co_fewest_46 : decode cX0_fewest 46 = .ok (.iaload, 1) := by decide +kernel
theorem d_Co_fewest_47 : decode cX0_fewest 47 = .ok (.if_icmp .lt 24, 3) := by decide +kernel
theorem d_Co_fewest_50 : decode cX0_fewest 50 = .ok (.iload 5, 2) := by decide +kernel
theorem d_Co_fewest_52 : decode cX0_fewest 52 = .ok (.iconst (-1), 1) := by decide +kernel
theorem d_Co_fewest_53 : decode cX0_fewest 53 = .ok (.if_icmp .eq 14, 3) := by decide +kernel
theorem d_Co_fewest_56 : decode cX0_fewest 56 = .ok (.aload_n 0, 1) := by decide +kernel
theorem d_Co_fewest_57 : decode cX0_fewest 57 = .ok (.iload 6, 2) := by decide +kernel
theorem d_Co_fewest_59 : decode cX0_fewest 59 = .ok (.iload 5, 2) := by decide +kernel
theorem d_Co_fewest_61 : decode cX0_fewest 61 = .ok (.invokevirtual 43, 3) := by decide +kernel
theorem d_Co_fewest_64 : decode cX0_fewest 64 = .ok (.ifCond .eq 7, 3) := by decide +kernel
theorem d_Co_fewest_67 : decode cX0_fewest 67 = .ok (.iload 6, 2) := by decide +kernel
theorem d_Co_fewest_69 : decode cX0_fewest 69 = .ok (.istore 5, 2) := by decide +kernel
theorem d_Co_fewest_71 : decode cX0_fewest 71 = .ok (.iload 6, 2) := by decide +kernel
theorem d_Co_fewest_73 : decode cX0_fewest 73 = .ok (.iconst 1, 1) := by decide +kernel
theorem d_Co_fewest_74 : decode cX0_fewest 74 = .ok (.isub, 1) := by decide +kernel
theorem d_Co_fewest_75 : decode cX0_fewest 75 = .ok (.iload 4, 2) := by decide +kernel
theorem d_Co_fewest_77 : decode cX0_fewest 77 = .ok (.iand, 1) := by decide +kernel
theorem d_Co_fewest_78 : decode cX0_fewest 78 = .ok (.istore 6, 2) := by decide +kernel
theorem d_Co_fewest_80 : decode cX0_fewest 80 = .ok (.goto (-51), 3) := by decide +kernel
theorem d_Co_fewest_83 : decode cX0_fewest 83 = .ok (.iload 5, 2) := by decide +kernel
theorem d_Co_fewest_85 : decode cX0_fewest 85 = .ok (.ireturn, 1) := by decide +kernel
noncomputable def f_Co_fewest (a1 : Nat) (a2 : Nat) (x3 : Int32) (h : mm_H) : Option Int32 := if mm_tg a1 = 7 ∧ mm_tg a2 = 4 then ((f_X_bit (h.1 a2 7) x3).bind fun v2 => if v2 = 1 then (some (-1)) else ((f_St_payable a2 a1 x3 h).bind fun v4 => (mm_while (σ := (Int32 × Int32)) (ρ := Int32) (fun s5 => if s5.2 ≤ 0 then (some (Sum.inr s5.1)) else ((mm_ix s5.2 1024).bind fun k11 => (mm_ix x3 6).bind fun k13 => (if (h.1 65 k11) < (h.1 (a1 + 4) k13) then (some s5.1) else (mm_jp (fun (j17 : Unit) => (some s5.2)) fun k19 => if s5.1 = (-1) then (k19 ()) else ((f_Co_isLesser s5.2 s5.1 h).bind fun v21 => if v21 = 0 then (some s5.1) else (k19 ()))) : Option Int32).bind fun j15 => mm_let ((s5.2 - 1) &&& v4) fun y32 => some (Sum.inl (j15, y32)))) ((-1), v4)).bind fun v8 => some v8)) else none
theorem T_Co_fewest (V : mm_V) (l : Launch) (a1 : Nat) (a2 : Nat) (x3 : Int32) (h : mm_H) (r : Int32) (hf : f_Co_fewest a1 a2 x3 h = some r) : MT V l Y_Co_fewest 4 [.ref 64, .ref a1, .ref a2, .int x3] (fun r1 h1 => r1 = some (.int r) ∧ h1 = h) h := by
  unfold f_Co_fewest at hf
  obtain ⟨⟨t_a1, t_a2⟩, hf⟩ := mm_chkE hf
  refine MT.intro (pn_Co rfl) [(0, .ref 64), (1, .ref a1), (2, .ref a2), (3, .int x3)] rfl (Nat.le_of_ble_eq_true rfl) ?_
  generalize hZ : mm_Z V _ = Z0
  refine MM.aload_n (i := 2) rfl rfl d_Co_fewest_0 rfl ?_
  refine MM.getI 4 t_a2 lays_4 gq_4_7 ww_216 d_Co_fewest_1 rfl ?_
  refine MM.iload_n (i := 3) rfl rfl d_Co_fewest_4 rfl ?_
  obtain ⟨v2, e1, hf⟩ := mm_bind hf
  refine MM.callSN1 (T_X_bit V l (h.1 a2 7) x3 h _ e1) (fun _ _ q => q) cal_X_bit rfl ww_763 ww_1061n (by decide) (by simp [Value.category]) d_Co_fewest_5 rfl ⟨rfl, rfl⟩ rfl ?_
  refine MM.iconst ic_1 d_Co_fewest_8 rfl ?_
  obtain ⟨m39, m40⟩ := mm_ifE hf
  refine MM.icmp_ne (tgt := 14) d_Co_fewest_9 rfl rfl (fun c38 => ?_) (fun c38 => ?_)
  · replace hf := m40 c38
    refine MM.aload_n (i := 2) rfl rfl d_Co_fewest_14 rfl ?_
    refine MM.aload_n (i := 1) rfl rfl d_Co_fewest_15 rfl ?_
    refine MM.iload_n (i := 3) rfl rfl d_Co_fewest_16 rfl ?_
    obtain ⟨v4, e3, hf⟩ := mm_bind hf
    refine MM.callV1 (T_St_payable V l a2 a1 x3 h _ e3) (fun _ _ q => q) cal_St_payable rfl t_a2 ct_4 ww_987 ww_986 ww_1062 (by decide) (by simp [Value.category]) d_Co_fewest_17 rfl ⟨rfl, rfl⟩ rfl ?_
    refine MM.istore (lv' := [(4, .int v4), (0, .ref 64), (1, .ref a1), (2, .ref a2), (3, .int x3)]) rfl (Nat.le_of_ble_eq_true rfl) rfl d_Co_fewest_20 rfl ?_
    refine MM.iconst ic_m1 d_Co_fewest_22 rfl ?_
    refine MM.istore (lv' := [(5, .int (-1)), (4, .int v4), (0, .ref 64), (1, .ref a1), (2, .ref a2), (3, .int x3)]) rfl (Nat.le_of_ble_eq_true rfl) rfl d_Co_fewest_23 rfl ?_
    refine MM.iload rfl d_Co_fewest_25 rfl ?_
    refine MM.istore (lv' := [(6, .int v4), (5, .int (-1)), (4, .int v4), (0, .ref 64), (1, .ref a1), (2, .ref a2), (3, .int x3)]) rfl (Nat.le_of_ble_eq_true rfl) rfl d_Co_fewest_27 rfl ?_
    obtain ⟨v8, e10, hf⟩ := mm_bind hf
    have K9 : MM V l Y_Co_fewest 4 0 0 Z0 83 [(5, .int v8)] [] h := by
      refine MM.iload rfl d_Co_fewest_83 rfl ?_
      obtain rfl := Option.some.inj hf
      subst hZ
      exact MM.iret rfl d_Co_fewest_85 ⟨rfl, rfl⟩
    clear hf
    refine MM.sub [3, 4, 6, 2, 1, 0] (by rfl) (mm_while_ind (fun s5 => MM V l Y_Co_fewest 4 0 0 Z0 29 [(0, .ref 64), (1, .ref a1), (3, .int x3), (4, .int v4), (5, .int s5.1), (6, .int s5.2)] [] h) e10 (fun s5 q6 hf hx7 => ?_))
    refine MM.iload rfl d_Co_fewest_29 rfl ?_
    obtain ⟨m36, m37⟩ := mm_ifE hf
    refine MM.if_le (tgt := 83) d_Co_fewest_31 rfl rfl (fun c35 => ?_) (fun c35 => ?_)
    · replace hf := m36 c35
      obtain rfl := Option.some.inj hf
      obtain rfl := Option.some.inj (mm_wxR hx7)
      exact MM.sub [4] (by rfl) K9
    · replace hf := m37 c35
      refine MM.aload_n (i := 0) rfl rfl d_Co_fewest_34 rfl ?_
      refine MM.gR 0 1 tg_64 rq_0_0 rfl lays_0 ww_293 d_Co_fewest_35 rfl ?_
      refine MM.iload rfl d_Co_fewest_38 rfl ?_
      obtain ⟨k11, e12, hf⟩ := mm_bind hf
      refine MM.gI e12 al_65 d_Co_fewest_40 rfl ?_
      refine MM.aload_n (i := 1) rfl rfl d_Co_fewest_41 rfl ?_
      refine MM.gR 7 4 t_a1 rq_7_4 rfl lays_7 ww_379 d_Co_fewest_42 rfl ?_
      refine MM.iload_n (i := 3) rfl rfl d_Co_fewest_45 rfl ?_
      obtain ⟨k13, e14, hf⟩ := mm_bind hf
      refine MM.gI e14 (al_7_4f t_a1) d_Co_fewest_46 rfl ?_
      obtain ⟨j15, e34, hf⟩ := mm_bind hf
      have K16 : MM V l Y_Co_fewest 4 0 0 Z0 71 [(0, .ref 64), (1, .ref a1), (3, .int x3), (4, .int v4), (5, .int j15), (6, .int s5.2)] [] h := by
        refine MM.iload rfl d_Co_fewest_71 rfl ?_
        refine MM.iconst ic_1 d_Co_fewest_73 rfl ?_
        refine MM.isub d_Co_fewest_74 rfl ?_
        refine MM.iload rfl d_Co_fewest_75 rfl ?_
        refine MM.iand d_Co_fewest_77 rfl ?_
        obtain ⟨y32, e33, hf⟩ := mm_letE hf
        refine MM.istore (lv' := [(6, .int y32), (0, .ref 64), (1, .ref a1), (3, .int x3), (4, .int v4), (5, .int j15)]) e33 (Nat.le_of_ble_eq_true rfl) rfl d_Co_fewest_78 rfl ?_
        refine MM.goto (tgt := 29) d_Co_fewest_80 rfl ?_
        obtain rfl := Option.some.inj hf
        have h9 := mm_wxL hx7
        exact MM.sub [1, 2, 3, 4, 5, 0] (by rfl) h9
      clear hf
      have hf := e34
      clear e34
      obtain ⟨m30, m31⟩ := mm_ifE hf
      refine MM.icmp_lt (tgt := 71) d_Co_fewest_47 rfl rfl (fun c29 => ?_) (fun c29 => ?_)
      · replace hf := m30 c29
        obtain rfl := Option.some.inj hf
        exact MM.sub [0, 1, 2, 3, 4, 5] (by rfl) K16
      · replace hf := m31 c29
        refine MM.iload rfl d_Co_fewest_50 rfl ?_
        refine MM.iconst ic_m1 d_Co_fewest_52 rfl ?_
        obtain ⟨k19, e28, hf⟩ := mm_jpE hf
        have K18 : ∀ j17, k19 j17 = some j15 → MM V l Y_Co_fewest 4 0 0 Z0 67 [(0, .ref 64), (1, .ref a1), (3, .int x3), (4, .int v4), (6, .int s5.2)] [] h := by
          intro j17 hf
          rw [e28] at hf
          refine MM.iload rfl d_Co_fewest_67 rfl ?_
          refine MM.istore (lv' := [(5, .int s5.2), (0, .ref 64), (1, .ref a1), (3, .int x3), (4, .int v4), (6, .int s5.2)]) rfl (Nat.le_of_ble_eq_true rfl) rfl d_Co_fewest_69 rfl ?_
          obtain rfl := Option.some.inj hf
          exact MM.sub [1, 2, 3, 4, 0, 5] (by rfl) K16
        clear e28
        obtain ⟨m26, m27⟩ := mm_ifE hf
        refine MM.icmp_eq (tgt := 67) d_Co_fewest_53 rfl rfl (fun c25 => ?_) (fun c25 => ?_)
        · replace hf := m26 c25
          exact MM.sub [0, 1, 2, 3, 5] (by rfl) (K18 _ hf)
        · replace hf := m27 c25
          refine MM.aload_n (i := 0) rfl rfl d_Co_fewest_56 rfl ?_
          refine MM.iload rfl d_Co_fewest_57 rfl ?_
          refine MM.iload rfl d_Co_fewest_59 rfl ?_
          obtain ⟨v21, e20, hf⟩ := mm_bind hf
          refine MM.callV1 (T_Co_isLesser V l s5.2 s5.1 h _ e20) (fun _ _ q => q) cal_Co_isLesser rfl tg_64 ct_0 ww_12 ww_1065 ww_1063 (by decide) (by simp [Value.category]) d_Co_fewest_61 rfl ⟨rfl, rfl⟩ rfl ?_
          obtain ⟨m23, m24⟩ := mm_ifE hf
          refine MM.if_eq (tgt := 71) d_Co_fewest_64 rfl rfl (fun c22 => ?_) (fun c22 => ?_)
          · replace hf := m23 c22
            obtain rfl := Option.some.inj hf
            exact MM.sub [0, 1, 2, 3, 4, 5] (by rfl) K16
          · replace hf := m24 c22
            exact MM.sub [0, 1, 2, 3, 5] (by rfl) (K18 _ hf)
  · replace hf := m39 c38
    refine MM.iconst ic_m1 d_Co_fewest_12 rfl ?_
    obtain rfl := Option.some.inj hf
    subst hZ
    exact MM.iret rfl d_Co_fewest_13 ⟨rfl, rfl⟩
theorem d_X_least_0 : decode cX11_least 0 = .ok (.aload_n 0, 1) := by decide +kernel
theorem d_X_least_1 : decode cX11_least 1 = .ok (.getfield 81, 3) := by decide +kernel
theorem d_X_least_4 : decode cX11_least 4 = .ok (.iload_n 1, 1) := by decide +kernel
theorem d_X_least_5 : decode cX11_least 5 = .ok (.invokevirtual 133, 3) := by decide +kernel
theorem d_X_least_8 : decode cX11_least 8 = .ok (.ifCond .ne 5, 3) := by decide +kernel
theorem d_X_least_11 : decode cX11_least 11 = .ok (.iconst (-1), 1) := by decide +kernel
theorem d_X_least_12 : decode cX11_least 12 = .ok (.ireturn, 1) := by decide +kernel
theorem d_X_least_13 : decode cX11_least 13 = .ok (.aload_n 0, 1) := by decide +kernel
theorem d_X_least_14 : decode cX11_least 14 = .ok (.getfield 50, 3) := by decide +kernel
theorem d_X_least_17 : decode cX11_least 17 = .ok (.aload_n 0, 1) := by decide +kernel
theorem d_X_least_18 : decode cX11_least 18 = .ok (.getfield 81, 3) := by decide +kernel
theorem d_X_least_21 : decode cX11_least 21 = .ok (.aload_n 0, 1) := by decide +kernel
theorem d_X_least_22 : decode cX11_least 22 = .ok (.aload_n 0, 1) := by decide +kernel
theorem d_X_least_23 : decode cX11_least 23 = .ok (.getfield 19, 3) := by decide +kernel
theorem d_X_least_26 : decode cX11_least 26 = .ok (.invokevirtual 153, 3) := by decide +kernel
theorem d_X_least_29 : decode cX11_least 29 = .ok (.invokevirtual 258, 3) := by decide +kernel
theorem d_X_least_32 : decode cX11_least 32 = .ok (.aload_n 0, 1) := by decide +kernel
theorem d_X_least_33 : decode cX11_least 33 = .ok (.getfield 50, 3) := by decide +kernel
theorem d_X_least_36 : decode cX11_least 36 = .ok (.aload_n 0, 1) := by decide +kernel
theorem d_X_least_37 : decode cX11_least 37 = .ok (.getfield 81, 3) := by decide +kernel
theorem d_X_least_40 : decode cX11_least 40 = .ok (.aload_n 0, 1) := by decide +kernel
theorem d_X_least_41 : decode cX11_least 41 = .ok (.getfield 19, 3) := by decide +kernel
theorem d_X_least_44 : decode cX11_least 44 = .ok (.iload_n 1, 1) := by decide +kernel
theorem d_X_least_45 : decode cX11_least 45 = .ok (.invokevirtual 262, 3) := by decide +kernel
theorem d_X_least_48 : decode cX11_least 48 = .ok (.ireturn, 1) := by decide +kernel
noncomputable def f_X_least (x1 : Int32) (h : mm_H) : Option (Int32 × mm_H) := (mm_gT h 14).bind fun t1 => (f_To_hasPerson t1 x1 h).bind fun v4 => if v4 = 0 then (some ((-1), h)) else ((mm_gT h 14).bind fun t5 => (f_X_weighed 35 h).bind fun v8 => (f_Co_weighSets t5 76 v8).bind fun v10 => (mm_gT v10 14).bind fun t11 => (f_Co_fewest t11 35 x1 v10).bind fun v14 => some (v14, v10))
theorem T_X_least (V : mm_V) (l : Launch) (x1 : Int32) (h : mm_H) (r : (Int32 × mm_H)) (hf : f_X_least x1 h = some r) : MT V l Y_X_least 6 [.ref 32, .int x1] (fun r1 h1 => r1 = some (.int r.1) ∧ h1 = r.2) h := by
  unfold f_X_least at hf
  refine MT.intro (pn_X rfl) [(0, .ref 32), (1, .int x1)] rfl (Nat.le_of_ble_eq_true rfl) ?_
  generalize hZ : mm_Z V _ = Z0
  refine MM.aload_n (i := 0) rfl rfl d_X_least_0 rfl ?_
  obtain ⟨t1, e2, hf⟩ := mm_bind hf
  obtain ⟨e2, t_t1⟩ := mm_gTE e2
  refine MM.gT e2 tg_32 tq_14 lays_8 ww_486 d_X_least_1 rfl ?_
  refine MM.iload_n (i := 1) rfl rfl d_X_least_4 rfl ?_
  obtain ⟨v4, e3, hf⟩ := mm_bind hf
  refine MM.callV1 (T_To_hasPerson V l t1 x1 h _ e3) (fun _ _ q => q) cal_To_hasPerson rfl t_t1 ct_7 ww_934 ww_933 ww_980 (by decide) (by simp [Value.category]) d_X_least_5 rfl ⟨rfl, rfl⟩ rfl ?_
  obtain ⟨m16, m17⟩ := mm_ifE hf
  refine MM.if_ne (tgt := 13) d_X_least_8 rfl rfl (fun c15 => ?_) (fun c15 => ?_)
  · replace hf := m17 c15
    refine MM.aload_n (i := 0) rfl rfl d_X_least_13 rfl ?_
    refine MM.gR 8 32 tg_32 rq_8_8 rfl lays_8 ww_480 d_X_least_14 rfl ?_
    refine MM.aload_n (i := 0) rfl rfl d_X_least_17 rfl ?_
    obtain ⟨t5, e6, hf⟩ := mm_bind hf
    obtain ⟨e6, t_t5⟩ := mm_gTE e6
    refine MM.gT e6 tg_32 tq_14 lays_8 ww_486 d_X_least_18 rfl ?_
    refine MM.aload_n (i := 0) rfl rfl d_X_least_21 rfl ?_
    refine MM.aload_n (i := 0) rfl rfl d_X_least_22 rfl ?_
    refine MM.gR 8 3 tg_32 rq_8_1 rfl lays_8 ww_473 d_X_least_23 rfl ?_
    obtain ⟨v8, e7, hf⟩ := mm_bind hf
    refine MM.callV1 (T_X_weighed V l 35 h _ e7) (fun _ _ q => q) cal_X_weighed rfl tg_32 ct_8 ww_8 ww_900 ww_898 (by decide) (by simp [Value.category]) d_X_least_26 rfl ⟨rfl, rfl⟩ rfl ?_
    obtain ⟨v10, e9, hf⟩ := mm_bind hf
    refine MM.callV0 (T_Co_weighSets V l t5 76 v8 _ e9) (fun _ _ q => q) cal_Co_weighSets rfl tg_64 ct_0 ww_1055 ww_1054 ww_1053 (by decide) (by simp [Value.category]) d_X_least_29 rfl ⟨rfl, rfl⟩ rfl ?_
    refine MM.aload_n (i := 0) rfl rfl d_X_least_32 rfl ?_
    refine MM.gR 8 32 tg_32 rq_8_8 rfl lays_8 ww_480 d_X_least_33 rfl ?_
    refine MM.aload_n (i := 0) rfl rfl d_X_least_36 rfl ?_
    obtain ⟨t11, e12, hf⟩ := mm_bind hf
    obtain ⟨e12, t_t11⟩ := mm_gTE e12
    refine MM.gT e12 tg_32 tq_14 lays_8 ww_486 d_X_least_37 rfl ?_
    refine MM.aload_n (i := 0) rfl rfl d_X_least_40 rfl ?_
    refine MM.gR 8 3 tg_32 rq_8_1 rfl lays_8 ww_473 d_X_least_41 rfl ?_
    refine MM.iload_n (i := 1) rfl rfl d_X_least_44 rfl ?_
    obtain ⟨v14, e13, hf⟩ := mm_bind hf
    refine MM.callV1 (T_Co_fewest V l t11 35 x1 v10 _ e13) (fun _ _ q => q) cal_Co_fewest rfl tg_64 ct_0 ww_1059 ww_1058 ww_1057 (by decide) (by simp [Value.category]) d_X_least_45 rfl ⟨rfl, rfl⟩ rfl ?_
    obtain rfl := Option.some.inj hf
    subst hZ
    exact MM.iret rfl d_X_least_48 ⟨rfl, rfl⟩
  · replace hf := m16 c15
    refine MM.iconst ic_m1 d_X_least_11 rfl ?_
    obtain rfl := Option.some.inj hf
    subst hZ
    exact MM.iret rfl d_X_least_12 ⟨rfl, rfl⟩
theorem d_Co_admit_0 : decode cX0_admit 0 = .ok (.iload 4, 2) := by decide +kernel
theorem d_Co_admit_2 : decode cX0_admit 2 = .ok (.istore 5, 2) := by decide +kernel
theorem d_Co_admit_4 : decode cX0_admit 4 = .ok (.iload 5, 2) := by decide +kernel
theorem d_Co_admit_6 : decode cX0_admit 6 = .ok (.ifCond .le 84, 3) := by decide +kernel
theorem d_Co_admit_9 : decode cX0_admit 9 = .ok (.iload 5, 2) := by decide +kernel
theorem d_Co_admit_11 : decode cX0_admit 11 = .ok (.iload_n 3, 1) := by decide +kernel
theorem d_Co_admit_12 : decode cX0_admit 12 = .ok (.iand, 1) := by decide +kernel
theorem d_Co_admit_13 : decode cX0_admit 13 = .ok (.istore 6, 2) := by decide +kernel
theorem d_Co_admit_15 : decode cX0_admit 15 = .ok (.aload_n 0, 1) := by decide +kernel
theorem d_Co_admit_16 : decode cX0_admit 16 = .ok (.getfield 9, 3) := by decide +kernel
theorem d_Co_admit_19 : decode cX0_admit 19 = .ok (.iload 6, 2) := by decide +kernel
theorem d_Co_admit_21 : decode cX0_admit 21 = .ok (.iaload, 1) := by decide +kernel
theorem d_Co_admit_22 : decode cX0_admit 22 = .ok (.iload_n 2, 1) := by decide +kernel
theorem d_Co_admit_23 : decode cX0_admit 23 = .ok (.if_icmp .lt 61, 3) := by decide +kernel
theorem d_Co_admit_26 : decode cX0_admit 26 = .ok (.iload 6, 2) := by decide +kernel
theorem d_Co_admit_28 : decode cX0_admit 28 = .ok (.istore 7, 2) := by decide +kernel
theorem d_Co_admit_30 : decode cX0_admit 30 = .ok (.iload 7, 2) := by decide +kernel
theorem d_Co_admit_32 : decode cX0_admit 32 = .ok (.ifCond .le 52, 3) := by decide +kernel
theorem d_Co_admit_35 : decode cX0_admit 35 = .ok (.aload_n 0, 1) := by decide +kernel
theorem d_Co_admit_36 : decode cX0_admit 36 = .ok (.getfield 9, 3) := by decide +kernel
theorem d_Co_admit_39 : decode cX0_admit 39 = .ok (.iload 7, 2) := by decide +kernel
theorem d_Co_admit_41 : decode cX0_admit 41 = .ok (.iaload, 1) := by decide +kernel
theorem d_Co_admit_42 : decode cX0_admit 42 = .ok (.iload_n 2, 1) := by decide +kernel
theorem d_Co_admit_43 : decode cX0_admit 43 = .ok (.if_icmp .lt 29, 3) := by decide +kernel
theorem d_Co_admit_46 : decode cX0_admit 46 = .ok (.aload_n 0, 1) := by decide +kernel
theorem d_Co_admit_47 : decode cX0_admit 47 = .ok (.getfield 15, 3) := by decide +kernel
theorem d_Co_admit_50 : decode cX0_admit 50 = .ok (.iload 5, 2) := by decide +kernel
theorem d_Co_admit_52 : decode cX0_admit 52 = .ok (.dup2, 1) := by decide +kernel
theorem d_Co_admit_53 : decode cX0_admit 53 = .ok (.laload, 1) := by decide +kernel
theorem d_Co_admit_54 : decode cX0_admit 54 = .ok (.aload_n 0, 1) := by decide +kernel
theorem d_Co_admit_55 : decode cX0_admit 55 = .ok (.getfield 15, 3) := by decide +kernel
theorem d_Co_admit_58 : decode cX0_admit 58 = .ok (.iload 5, 2) := by decide +kernel
theorem d_Co_admit_60 : decode cX0_admit 60 = .ok (.iload 7, 2) := by decide +kernel
theorem d_Co_admit_62 : decode cX0_admit 62 = .ok (.iconst (-1), 1) := by decide +kernel
theorem d_Co_admit_63 : decode cX0_admit 63 = .ok (.ixor, 1) := by decide +kernel
theorem d_Co_admit_64 : decode cX0_admit 64 = .ok (.iand, 1) := by decide +kernel
theorem d_Co_admit_65 : decode cX0_admit 65 = .ok (.laload, 1) := by decide +kernel
theorem d_Co_admit_66 : decode cX0_admit 66 = .ok (.iconst 1, 1) := by decide +kernel
theorem d_Co_admit_67 : decode cX0_admit 67 = .ok (.iload_n 1, 1) := by decide +kernel
theorem d_Co_admit_68 : decode cX0_admit 68 = .ok (.ishl, 1) := by decide +kernel
theorem d_Co_admit_69 : decode cX0_admit 69 = .ok (.lshl, 1) := by decide +kernel
theorem d_Co_admit_70 : decode cX0_admit 70 = .ok (.lor, 1) := by decide +kernel
theorem d_Co_admit_71 : decode cX0_admit 71 = .ok (.lastore, 1) := by decide +kernel
theorem d_Co_admit_72 : decode cX0_admit 72 = .ok (.iload 7, 2) := by decide +kernel
theorem d_Co_admit_74 : decode cX0_admit 74 = .ok (.iconst 1, 1) := by decide +kernel
theorem d_Co_admit_75 : decode cX0_admit 75 = .ok (.isub, 1) := by decide +kernel
theorem d_Co_admit_76 : decode cX0_admit 76 = .ok (.iload 6, 2) := by decide +kernel
theorem d_Co_admit_78 : decode cX0_admit 78 = .ok (.iand, 1) := by decide +kernel
theorem d_Co_admit_79 : decode cX0_admit 79 = .ok (.istore 7, 2) := by decide +kernel
theorem d_Co_admit_81 : decode cX0_admit 81 = .ok (.goto (-51), 3) := by decide +kernel
theorem d_Co_admit_84 : decode cX0_admit 84 = .ok (.iinc 5 (-1), 3) := by decide +kernel
theorem d_Co_admit_87 : decode cX0_admit 87 = .ok (.goto (-83), 3) := by decide +kernel
theorem d_Co_admit_90 : decode cX0_admit 90 = .ok (.return_, 1) := by decide +kernel
noncomputable def f_Co_admit (x1 : Int32) (x2 : Int32) (x3 : Int32) (x4 : Int32) (h : mm_H) : Option mm_H := (mm_while (σ := (Int32 × mm_H)) (ρ := mm_H) (fun s1 => if s1.1 ≤ 0 then (some (Sum.inr s1.2)) else (mm_let (s1.1 &&& x3) fun y7 => (mm_ix y7 1024).bind fun k9 => (if (s1.2.1 65 k9) < x2 then (some s1.2) else ((mm_while (σ := (Int32 × mm_H)) (ρ := mm_H) (fun s13 => if s13.1 ≤ 0 then (some (Sum.inr s13.2)) else ((mm_ix s13.1 1024).bind fun k19 => (if (s13.2.1 65 k19) < x2 then (some s13.2) else ((mm_ix s1.1 1024).bind fun k23 => (mm_ix (s1.1 &&& (s13.1 ^^^ (-1))) 1024).bind fun k25 => (mm_ix s1.1 1024).bind fun k27 => mm_let (mm_pL s13.2 66 k27 ((s13.2.2.1 66 k23) ||| ((s13.2.2.1 66 k25) <<< (Int32.toInt64 ((1 : Int32) <<< (x1 &&& 31)) &&& 63)))) fun h29 => some h29) : Option mm_H).bind fun j21 => mm_let ((s13.1 - 1) &&& y7) fun y34 => some (Sum.inl (y34, j21)))) (y7, s1.2)).bind fun v16 => some v16) : Option mm_H).bind fun j11 => mm_let (s1.1 + (-1)) fun y43 => some (Sum.inl (y43, j11)))) (x4, h)).bind fun v4 => some v4
theorem T_Co_admit (V : mm_V) (l : Launch) (x1 : Int32) (x2 : Int32) (x3 : Int32) (x4 : Int32) (h : mm_H) (r : mm_H) (hf : f_Co_admit x1 x2 x3 x4 h = some r) : MT V l Y_Co_admit 1 [.ref 64, .int x1, .int x2, .int x3, .int x4] (fun r1 h1 => r1 = none ∧ h1 = r) h := by
  unfold f_Co_admit at hf
  refine MT.intro (pn_Co rfl) [(0, .ref 64), (1, .int x1), (2, .int x2), (3, .int x3), (4, .int x4)] rfl (Nat.le_of_ble_eq_true rfl) ?_
  generalize hZ : mm_Z V _ = Z0
  refine MM.iload rfl d_Co_admit_0 rfl ?_
  refine MM.istore (lv' := [(5, .int x4), (0, .ref 64), (1, .int x1), (2, .int x2), (3, .int x3), (4, .int x4)]) rfl (Nat.le_of_ble_eq_true rfl) rfl d_Co_admit_2 rfl ?_
  obtain ⟨v4, e6, hf⟩ := mm_bind hf
  have K5 : MM V l Y_Co_admit 1 0 0 Z0 90 [] [] v4 := by
    obtain rfl := Option.some.inj hf
    subst hZ
    exact MM.vret rfl d_Co_admit_90 ⟨rfl, rfl⟩
  clear hf
  refine MM.sub [1, 2, 3, 4, 0] (by rfl) (mm_while_ind (fun s1 => MM V l Y_Co_admit 1 0 0 Z0 4 [(0, .ref 64), (1, .int x1), (2, .int x2), (3, .int x3), (5, .int s1.1)] [] s1.2) e6 (fun s1 q2 hf hx3 => ?_))
  refine MM.iload rfl d_Co_admit_4 rfl ?_
  obtain ⟨m47, m48⟩ := mm_ifE hf
  refine MM.if_le (tgt := 90) d_Co_admit_6 rfl rfl (fun c46 => ?_) (fun c46 => ?_)
  · replace hf := m47 c46
    obtain rfl := Option.some.inj hf
    obtain rfl := Option.some.inj (mm_wxR hx3)
    exact MM.sub [] (by rfl) K5
  · replace hf := m48 c46
    refine MM.iload rfl d_Co_admit_9 rfl ?_
    refine MM.iload_n (i := 3) rfl rfl d_Co_admit_11 rfl ?_
    refine MM.iand d_Co_admit_12 rfl ?_
    obtain ⟨y7, e8, hf⟩ := mm_letE hf
    refine MM.istore (lv' := [(6, .int y7), (0, .ref 64), (1, .int x1), (2, .int x2), (3, .int x3), (5, .int s1.1)]) e8 (Nat.le_of_ble_eq_true rfl) rfl d_Co_admit_13 rfl ?_
    refine MM.aload_n (i := 0) rfl rfl d_Co_admit_15 rfl ?_
    refine MM.gR 0 1 tg_64 rq_0_0 rfl lays_0 ww_293 d_Co_admit_16 rfl ?_
    refine MM.iload rfl d_Co_admit_19 rfl ?_
    obtain ⟨k9, e10, hf⟩ := mm_bind hf
    refine MM.gI e10 al_65 d_Co_admit_21 rfl ?_
    refine MM.iload_n (i := 2) rfl rfl d_Co_admit_22 rfl ?_
    obtain ⟨j11, e45, hf⟩ := mm_bind hf
    have K12 : MM V l Y_Co_admit 1 0 0 Z0 84 [(0, .ref 64), (1, .int x1), (2, .int x2), (3, .int x3), (5, .int s1.1)] [] j11 := by
      obtain ⟨y43, e44, hf⟩ := mm_letE hf
      refine MM.iinc (k0 := 4) (lv' := [(5, .int y43), (0, .ref 64), (1, .int x1), (2, .int x2), (3, .int x3)]) (by rw [ic_m1]; exact e44) rfl (Nat.le_of_ble_eq_true rfl) rfl d_Co_admit_84 rfl ?_
      refine MM.goto (tgt := 4) d_Co_admit_87 rfl ?_
      obtain rfl := Option.some.inj hf
      have h9 := mm_wxL hx3
      exact MM.sub [1, 2, 3, 4, 0] (by rfl) h9
    clear hf
    have hf := e45
    clear e45
    obtain ⟨m41, m42⟩ := mm_ifE hf
    refine MM.icmp_lt (tgt := 84) d_Co_admit_23 rfl rfl (fun c40 => ?_) (fun c40 => ?_)
    · replace hf := m41 c40
      obtain rfl := Option.some.inj hf
      exact MM.sub [1, 2, 3, 4, 5] (by rfl) K12
    · replace hf := m42 c40
      refine MM.iload rfl d_Co_admit_26 rfl ?_
      refine MM.istore (lv' := [(7, .int y7), (6, .int y7), (0, .ref 64), (1, .int x1), (2, .int x2), (3, .int x3), (5, .int s1.1)]) rfl (Nat.le_of_ble_eq_true rfl) rfl d_Co_admit_28 rfl ?_
      obtain ⟨v16, e18, hf⟩ := mm_bind hf
      have K17 : MM V l Y_Co_admit 1 0 0 Z0 84 [(0, .ref 64), (1, .int x1), (2, .int x2), (3, .int x3), (5, .int s1.1)] [] v16 := by
        obtain rfl := Option.some.inj hf
        exact MM.sub [0, 1, 2, 3, 4] (by rfl) K12
      clear hf
      refine MM.sub [2, 3, 4, 5, 6, 1, 0] (by rfl) (mm_while_ind (fun s13 => MM V l Y_Co_admit 1 0 0 Z0 30 [(0, .ref 64), (1, .int x1), (2, .int x2), (3, .int x3), (5, .int s1.1), (6, .int y7), (7, .int s13.1)] [] s13.2) e18 (fun s13 q14 hf hx15 => ?_))
      refine MM.iload rfl d_Co_admit_30 rfl ?_
      obtain ⟨m38, m39⟩ := mm_ifE hf
      refine MM.if_le (tgt := 84) d_Co_admit_32 rfl rfl (fun c37 => ?_) (fun c37 => ?_)
      · replace hf := m38 c37
        obtain rfl := Option.some.inj hf
        obtain rfl := Option.some.inj (mm_wxR hx15)
        exact MM.sub [0, 1, 2, 3, 4] (by rfl) K17
      · replace hf := m39 c37
        refine MM.aload_n (i := 0) rfl rfl d_Co_admit_35 rfl ?_
        refine MM.gR 0 1 tg_64 rq_0_0 rfl lays_0 ww_293 d_Co_admit_36 rfl ?_
        refine MM.iload rfl d_Co_admit_39 rfl ?_
        obtain ⟨k19, e20, hf⟩ := mm_bind hf
        refine MM.gI e20 al_65 d_Co_admit_41 rfl ?_
        refine MM.iload_n (i := 2) rfl rfl d_Co_admit_42 rfl ?_
        obtain ⟨j21, e36, hf⟩ := mm_bind hf
        have K22 : MM V l Y_Co_admit 1 0 0 Z0 72 [(0, .ref 64), (1, .int x1), (2, .int x2), (3, .int x3), (5, .int s1.1), (6, .int y7), (7, .int s13.1)] [] j21 := by
          refine MM.iload rfl d_Co_admit_72 rfl ?_
          refine MM.iconst ic_1 d_Co_admit_74 rfl ?_
          refine MM.isub d_Co_admit_75 rfl ?_
          refine MM.iload rfl d_Co_admit_76 rfl ?_
          refine MM.iand d_Co_admit_78 rfl ?_
          obtain ⟨y34, e35, hf⟩ := mm_letE hf
          refine MM.istore (lv' := [(7, .int y34), (0, .ref 64), (1, .int x1), (2, .int x2), (3, .int x3), (5, .int s1.1), (6, .int y7)]) e35 (Nat.le_of_ble_eq_true rfl) rfl d_Co_admit_79 rfl ?_
          refine MM.goto (tgt := 30) d_Co_admit_81 rfl ?_
          obtain rfl := Option.some.inj hf
          have h9 := mm_wxL hx15
          exact MM.sub [1, 2, 3, 4, 5, 6, 0] (by rfl) h9
        clear hf
        have hf := e36
        clear e36
        obtain ⟨m32, m33⟩ := mm_ifE hf
        refine MM.icmp_lt (tgt := 72) d_Co_admit_43 rfl rfl (fun c31 => ?_) (fun c31 => ?_)
        · replace hf := m32 c31
          obtain rfl := Option.some.inj hf
          exact MM.sub [0, 1, 2, 3, 4, 5, 6] (by rfl) K22
        · replace hf := m33 c31
          refine MM.aload_n (i := 0) rfl rfl d_Co_admit_46 rfl ?_
          refine MM.gR 0 2 tg_64 rq_0_1 rfl lays_0 ww_294 d_Co_admit_47 rfl ?_
          refine MM.iload rfl d_Co_admit_50 rfl ?_
          refine MM.dup2 rfl rfl d_Co_admit_52 rfl ?_
          obtain ⟨k23, e24, hf⟩ := mm_bind hf
          refine MM.gL e24 al_66 d_Co_admit_53 rfl ?_
          refine MM.aload_n (i := 0) rfl rfl d_Co_admit_54 rfl ?_
          refine MM.gR 0 2 tg_64 rq_0_1 rfl lays_0 ww_294 d_Co_admit_55 rfl ?_
          refine MM.iload rfl d_Co_admit_58 rfl ?_
          refine MM.iload rfl d_Co_admit_60 rfl ?_
          refine MM.iconst ic_m1 d_Co_admit_62 rfl ?_
          refine MM.ixor d_Co_admit_63 rfl ?_
          refine MM.iand d_Co_admit_64 rfl ?_
          obtain ⟨k25, e26, hf⟩ := mm_bind hf
          refine MM.gL e26 al_66 d_Co_admit_65 rfl ?_
          refine MM.iconst ic_1 d_Co_admit_66 rfl ?_
          refine MM.iload_n (i := 1) rfl rfl d_Co_admit_67 rfl ?_
          refine MM.ishl d_Co_admit_68 rfl ?_
          refine MM.lshl d_Co_admit_69 rfl ?_
          refine MM.lor d_Co_admit_70 rfl ?_
          obtain ⟨k27, e28, hf⟩ := mm_bind hf
          obtain ⟨h29, e30, hf⟩ := mm_letE hf
          refine MM.sL e28 e30 al_66 d_Co_admit_71 rfl ?_
          obtain rfl := Option.some.inj hf
          exact MM.sub [0, 1, 2, 3, 4, 5, 6] (by rfl) K22
theorem d_Co_mostAtOnce_0 : decode cX0_mostAtOnce 0 = .ok (.aload_n 1, 1) := by decide +kernel
theorem d_Co_mostAtOnce_1 : decode cX0_mostAtOnce 1 = .ok (.invokevirtual 53, 3) := by decide +kernel
theorem d_Co_mostAtOnce_4 : decode cX0_mostAtOnce 4 = .ok (.istore_n 3, 1) := by decide +kernel
theorem d_Co_mostAtOnce_5 : decode cX0_mostAtOnce 5 = .ok (.aload_n 0, 1) := by decide +kernel
theorem d_Co_mostAtOnce_6 : decode cX0_mostAtOnce 6 = .ok (.getfield 15, 3) := by decide +kernel
theorem d_Co_mostAtOnce_9 : decode cX0_mostAtOnce 9 = .ok (.lconst 1, 1) := by decide +kernel
theorem d_Co_mostAtOnce_10 : decode cX0_mostAtOnce 10 = .ok (.invokestatic 57, 3) := by decide +kernel
theorem d_Co_mostAtOnce_13 : decode cX0_mostAtOnce 13 = .ok (.iconst 0, 1) := by decide +kernel
theorem d_Co_mostAtOnce_14 : decode cX0_mostAtOnce 14 = .ok (.istore 4, 2) := by decide +kernel
theorem d_Co_mostAtOnce_16 : decode cX0_mostAtOnce 16 = .ok (.iload 4, 2) := by decide +kernel
theorem d_Co_mostAtOnce_18 : decode cX0_mostAtOnce 18 = .ok (.aload_n 1, 1) := by decide +kernel
theorem d_Co_mostAtOnce_19 : decode cX0_mostAtOnce 19 = .ok (.getfield 63, 3) := by decide +kernel
theorem d_Co_mostAtOnce_22 : decode cX0_mostAtOnce 22 = .ok (.if_icmp .ge 52, 3) := by decide +kernel
theorem d_Co_mostAtOnce_25 : decode cX0_mostAtOnce 25 = .ok (.aload_n 1, 1) := by decide +kernel
theorem d_Co_mostAtOnce_26 : decode cX0_mostAtOnce 26 = .ok (.getfield 40, 3) := by decide +kernel
theorem d_Co_mostAtOnce_29 : decode cX0_mostAtOnce 29 = .ok (.iload 4, 2) := by decide +kernel
theorem d_Co_mostAtOnce_31 : decode cX0_mostAtOnce 31 = .ok (.iaload, 1) := by decide +kernel
theorem d_Co_mostAtOnce_32 : decode cX0_mostAtOnce 32 = .ok (.ifCond .le 36, 3) := by decide +kernel
theorem d_Co_mostAtOnce_35 : decode cX0_mostAtOnce 35 = .ok (.aload_n 2, 1) := by decide +kernel
theorem d_Co_mostAtOnce_36 : decode cX0_mostAtOnce 36 = .ok (.getfield 28, 3) := by decide +kernel
theorem d_Co_mostAtOnce_39 : decode cX0_mostAtOnce 39 = .ok (.iload 4, 2) := by decide +kernel
theorem d_Co_mostAtOnce_41 : decode cX0_mostAtOnce 41 = .ok (.invokestatic 33, 3) := by decide +kernel
theorem d_Co_mostAtOnce_44 : decode cX0_mostAtOnce 44 = .ok (.ifCond .ne 24, 3) := by decide +kernel
theorem d_Co_mostAtOnce_47 : decode cX0_mostAtOnce 47 = .ok (.aload_n 0, 1) := by decide +kernel
theorem d_Co_mostAtOnce_48 : decode cX0_mostAtOnce 48 = .ok (.iload 4, 2) := by decide +kernel
theorem d_Co_mostAtOnce_50 : decode cX0_mostAtOnce 50 = .ok (.aload_n 1, 1) := by decide +kernel
theorem d_Co_mostAtOnce_51 : decode cX0_mostAtOnce 51 = .ok (.getfield 40, 3) := by decide +kernel
theorem d_Co_mostAtOnce_54 : decode cX0_mostAtOnce 54 = .ok (.iload 4, 2) := by decide +kernel
theorem d_Co_mostAtOnce_56 : decode cX0_mostAtOnce 56 = .ok (.iaload, 1) := by decide +kernel
theorem d_Co_mostAtOnce_57 : decode cX0_mostAtOnce 57 = .ok (.aload_n 2, 1) := by decide +kernel
theorem d_Co_mostAtOnce_58 : decode cX0_mostAtOnce 58 = .ok (.aload_n 1, 1) := by decide +kernel
theorem d_Co_mostAtOnce_59 : decode cX0_mostAtOnce 59 = .ok (.iload 4, 2) := by decide +kernel
theorem d_Co_mostAtOnce_61 : decode cX0_mostAtOnce 61 = .ok (.invokevirtual 37, 3) := by decide +kernel
theorem d_Co_mostAtOnce_64 : decode cX0_mostAtOnce 64 = .ok (.iload_n 3, 1) := by decide +kernel
theorem d_Co_mostAtOnce_65 : decode cX0_mostAtOnce 65 = .ok (.invokevirtual 66, 3) := by decide +kernel
theorem d_Co_mostAtOnce_68 : decode cX0_mostAtOnce 68 = .ok (.iinc 4 1, 3) := by decide +kernel
theorem d_Co_mostAtOnce_71 : decode cX0_mostAtOnce 71 = .ok (.goto (-55), 3) := by decide +kernel
theorem d_Co_mostAtOnce_74 : decode cX0_mostAtOnce 74 = .ok (.iconst 0, 1) := by decide +kernel
theorem d_Co_mostAtOnce_75 : decode cX0_mostAtOnce 75 = .ok (.istore 4, 2) := by decide +kernel
theorem d_Co_mostAtOnce_77 : decode cX0_mostAtOnce 77 = .ok (.iconst 1, 1) := by decide +kernel
theorem d_Co_mostAtOnce_78 : decode cX0_mostAtOnce 78 = .ok (.istore 5, 2) := by decide +kernel
theorem d_Co_mostAtOnce_80 : decode cX0_mostAtOnce 80 = .ok (.iload 5, 2) := by decide +kernel
theorem d_Co_mostAtOnce_82 : decode cX0_mostAtOnce 82 = .ok (.bipush 64, 2) := by decide +kernel
theorem d_Co_mostAtOnce_84 : decode cX0_mostAtOnce 84 = .ok (.if_icmp .ge 54, 3) := by decide +kernel
theorem d_Co_mostAtOnce_87 : decode cX0_mostAtOnce 87 = .ok (.aload_n 0, 1) := by decide +kernel
theorem d_Co_mostAtOnce_88 : decode cX0_mostAtOnce 88 = .ok (.getfield 15, 3) := by decide +kernel
theorem d_Co_mostAtOnce_91 : decode cX0_mostAtOnce 91 = .ok (.iload_n 3, 1) := by decide +kernel
theorem d_Co_mostAtOnce_92 : decode cX0_mostAtOnce 92 = .ok (.laload, 1) := by decide +kernel
theorem d_Co_mostAtOnce_93 : decode cX0_mostAtOnce 93 = .ok (.iload 5, 2) := by decide +kernel
theorem d_Co_mostAtOnce_95 : decode cX0_mostAtOnce 95 = .ok (.lshr, 1) := by decide +kernel
theorem d_Co_mostAtOnce_96 : decode cX0_mostAtOnce 96 = .ok (.lconst 1, 1) := by decide +kernel
theorem d_Co_mostAtOnce_97 : decode cX0_mostAtOnce 97 = .ok (.land, 1) := by decide +kernel
theorem d_Co_mostAtOnce_98 : decode cX0_mostAtOnce 98 = .ok (.lconst 1, 1) := by decide +kernel
theorem d_Co_mostAtOnce_99 : decode cX0_mostAtOnce 99 = .ok (.lcmp, 1) := by decide +kernel
theorem d_Co_mostAtOnce_100 : decode cX0_mostAtOnce 100 = .ok (.ifCond .ne 7, 3) := by decide +kernel
theorem d_Co_mostAtOnce_103 : decode cX0_mostAtOnce 103 = .ok (.iconst 1, 1) := by decide +kernel
theorem d_Co_mostAtOnce_104 : decode cX0_mostAtOnce 104 = .ok (.goto 4, 3) := by decide +kernel
theorem d_Co_mostAtOnce_107 : decode cX0_mostAtOnce 107 = .ok (.iconst 0, 1) := by decide +kernel
theorem d_Co_mostAtOnce_108 : decode cX0_mostAtOnce 108 = .ok (.istore 6, 2) := by decide +kernel
theorem d_Co_mostAtOnce_110 : decode cX0_mostAtOnce 110 = .ok (.iload 6, 2) := by decide +kernel
theorem d_Co_mostAtOnce_112 : decode cX0_mostAtOnce 112 = .ok (.ifCond .eq 20, 3) := by decide +kernel
theorem d_Co_mostAtOnce_115 : decode cX0_mostAtOnce 115 = .ok (.iload 5, 2) := by decide +kernel
theorem d_Co_mostAtOnce_117 : decode cX0_mostAtOnce 117 = .ok (.invokestatic 47, 3) := by decide +kernel
theorem d_Co_mostAtOnce_120 : decode cX0_mostAtOnce 120 = .ok (.iload 4, 2) := by decide +kernel
theorem d_Co_mostAtOnce_122 : decode cX0_mostAtOnce 122 = .ok (.invokestatic 47, 3) := by decide +kernel
theorem d_Co_mostAtOnce_125 : decode cX0_mostAtOnce 125 = .ok (.if_icmp .le 7, 3) := by decide +kernel
theorem d_Co_mostAtOnce_128 : decode cX0_mostAtOnce 128 = .ok (.iload 5, 2) := by decide +kernel
theorem d_Co_mostAtOnce_130 : decode cX0_mostAtOnce 130 = .ok (.istore 4, 2) := by decide +kernel
theorem d_Co_mostAtOnce_132 : decode cX0_mostAtOnce 132 = .ok (.iinc 5 1, 3) := by decide +kernel
theorem d_Co_mostAtOnce_135 : decode cX0_mostAtOnce 135 = .ok (.goto (-55), 3) := by decide +kernel
theorem d_Co_mostAtOnce_138 : decode cX0_mostAtOnce 138 = .ok (.iload 4, 2) := by decide +kernel
theorem d_Co_mostAtOnce_140 : decode cX0_mostAtOnce 140 = .ok (.ireturn, 1) := by decide +kernel
noncomputable def f_Co_mostAtOnce (a1 : Nat) (a2 : Nat) (h : mm_H) : Option (Int32 × mm_H) := if mm_tg a1 = 7 ∧ mm_tg a2 = 4 then ((f_To_allSecrets a1 h).bind fun v2 => (f_JA_fill_AJJV 66 (1 : Int64) h).bind fun v4 => (mm_while (σ := (Int32 × mm_H)) (ρ := mm_H) (fun s5 => if (s5.2.1 a1 0) ≤ s5.1 then (some (Sum.inr s5.2)) else ((mm_ix s5.1 6).bind fun k11 => (if (s5.2.1 (a1 + 4) k11) ≤ 0 then (some s5.2) else ((f_X_bit (s5.2.1 a2 7) s5.1).bind fun v16 => if v16 = 0 then ((mm_ix s5.1 6).bind fun k17 => (f_St_payable a2 a1 s5.1 s5.2).bind fun v20 => (f_Co_admit s5.1 (s5.2.1 (a1 + 4) k17) v20 v2 s5.2).bind fun v22 => some v22) else (some s5.2)) : Option mm_H).bind fun j13 => mm_let (s5.1 + 1) fun y29 => some (Sum.inl (y29, j13)))) (0, v4)).bind fun v8 => (mm_while (σ := (Int32 × Int32)) (ρ := Int32) (fun s35 => if 64 ≤ s35.2 then (some (Sum.inr s35.1)) else ((mm_ix v2 1024).bind fun k41 => (if (lg_cmp (((v8.2.1 66 k41) >>> (Int32.toInt64 s35.2 &&& 63)) &&& 1) 1) = 0 then (some 1) else (some 0) : Option Int32).bind fun j43 => (if j43 = 0 then (some s35.1) else ((f_JI_bitCount s35.2).bind fun v51 => (f_JI_bitCount s35.1).bind fun v53 => if v51 ≤ v53 then (some s35.1) else (some s35.2)) : Option Int32).bind fun j48 => mm_let (s35.2 + 1) fun y60 => some (Sum.inl (j48, y60)))) (0, 1)).bind fun v38 => some (v38, v8)) else none
theorem T_Co_mostAtOnce (V : mm_V) (l : Launch) (a1 : Nat) (a2 : Nat) (h : mm_H) (r : (Int32 × mm_H)) (hf : f_Co_mostAtOnce a1 a2 h = some r) : MT V l Y_Co_mostAtOnce 4 [.ref 64, .ref a1, .ref a2] (fun r1 h1 => r1 = some (.int r.1) ∧ h1 = r.2) h := by
  unfold f_Co_mostAtOnce at hf
  obtain ⟨⟨t_a1, t_a2⟩, hf⟩ := mm_chkE hf
  refine MT.intro (pn_Co rfl) [(0, .ref 64), (1, .ref a1), (2, .ref a2)] rfl (Nat.le_of_ble_eq_true rfl) ?_
  generalize hZ : mm_Z V _ = Z0
  refine MM.aload_n (i := 1) rfl rfl d_Co_mostAtOnce_0 rfl ?_
  obtain ⟨v2, e1, hf⟩ := mm_bind hf
  refine MM.callV1 (T_To_allSecrets V l a1 h _ e1) (fun _ _ q => q) cal_To_allSecrets rfl t_a1 ct_7 ww_1047 ww_1046 ww_1076 (by decide) (by simp [Value.category]) d_Co_mostAtOnce_1 rfl ⟨rfl, rfl⟩ rfl ?_
  refine MM.istore_n (i := 3) (lv' := [(3, .int v2), (0, .ref 64), (1, .ref a1), (2, .ref a2)]) rfl rfl (Nat.le_of_ble_eq_true rfl) rfl d_Co_mostAtOnce_4 rfl ?_
  refine MM.aload_n (i := 0) rfl rfl d_Co_mostAtOnce_5 rfl ?_
  refine MM.gR 0 2 tg_64 rq_0_1 rfl lays_0 ww_294 d_Co_mostAtOnce_6 rfl ?_
  refine MM.lconst (v := 1) rfl d_Co_mostAtOnce_9 rfl ?_
  obtain ⟨v4, e3, hf⟩ := mm_bind hf
  refine MM.callS0 (T_JA_fill_AJJV V l 66 (1 : Int64) h _ e3) (fun _ _ q => q) cal_JA_fill_AJJV rfl ww_830 ww_1077 (by decide) (by simp [Value.category]) d_Co_mostAtOnce_10 rfl ⟨rfl, rfl⟩ rfl ?_
  refine MM.iconst ic_0 d_Co_mostAtOnce_13 rfl ?_
  refine MM.istore (lv' := [(4, .int 0), (3, .int v2), (0, .ref 64), (1, .ref a1), (2, .ref a2)]) rfl (Nat.le_of_ble_eq_true rfl) rfl d_Co_mostAtOnce_14 rfl ?_
  obtain ⟨v8, e10, hf⟩ := mm_bind hf
  have K9 : MM V l Y_Co_mostAtOnce 4 0 0 Z0 74 [(0, .ref 64), (3, .int v2)] [] v8 := by
    refine MM.iconst ic_0 d_Co_mostAtOnce_74 rfl ?_
    refine MM.istore (lv' := [(4, .int 0), (0, .ref 64), (3, .int v2)]) rfl (Nat.le_of_ble_eq_true rfl) rfl d_Co_mostAtOnce_75 rfl ?_
    refine MM.iconst ic_1 d_Co_mostAtOnce_77 rfl ?_
    refine MM.istore (lv' := [(5, .int 1), (4, .int 0), (0, .ref 64), (3, .int v2)]) rfl (Nat.le_of_ble_eq_true rfl) rfl d_Co_mostAtOnce_78 rfl ?_
    obtain ⟨v38, e40, hf⟩ := mm_bind hf
    have K39 : MM V l Y_Co_mostAtOnce 4 0 0 Z0 138 [(4, .int v38)] [] v8 := by
      refine MM.iload rfl d_Co_mostAtOnce_138 rfl ?_
      obtain rfl := Option.some.inj hf
      subst hZ
      exact MM.iret rfl d_Co_mostAtOnce_140 ⟨rfl, rfl⟩
    clear hf
    refine MM.sub [2, 3, 1, 0] (by rfl) (mm_while_ind (fun s35 => MM V l Y_Co_mostAtOnce 4 0 0 Z0 80 [(0, .ref 64), (3, .int v2), (4, .int s35.1), (5, .int s35.2)] [] v8) e40 (fun s35 q36 hf hx37 => ?_))
    refine MM.iload rfl d_Co_mostAtOnce_80 rfl ?_
    refine MM.bipush bp_64 d_Co_mostAtOnce_82 rfl ?_
    obtain ⟨m65, m66⟩ := mm_ifE hf
    refine MM.icmp_ge (tgt := 138) d_Co_mostAtOnce_84 rfl rfl (fun c64 => ?_) (fun c64 => ?_)
    · replace hf := m65 c64
      obtain rfl := Option.some.inj hf
      obtain rfl := Option.some.inj (mm_wxR hx37)
      exact MM.sub [2] (by rfl) K39
    · replace hf := m66 c64
      refine MM.aload_n (i := 0) rfl rfl d_Co_mostAtOnce_87 rfl ?_
      refine MM.gR 0 2 tg_64 rq_0_1 rfl lays_0 ww_294 d_Co_mostAtOnce_88 rfl ?_
      refine MM.iload_n (i := 3) rfl rfl d_Co_mostAtOnce_91 rfl ?_
      obtain ⟨k41, e42, hf⟩ := mm_bind hf
      refine MM.gL e42 al_66 d_Co_mostAtOnce_92 rfl ?_
      refine MM.iload rfl d_Co_mostAtOnce_93 rfl ?_
      refine MM.lshr d_Co_mostAtOnce_95 rfl ?_
      refine MM.lconst (v := 1) rfl d_Co_mostAtOnce_96 rfl ?_
      refine MM.land d_Co_mostAtOnce_97 rfl ?_
      refine MM.lconst (v := 1) rfl d_Co_mostAtOnce_98 rfl ?_
      refine MM.lcmp d_Co_mostAtOnce_99 rfl ?_
      obtain ⟨j43, e63, hf⟩ := mm_bind hf
      have K44 : MM V l Y_Co_mostAtOnce 4 0 0 Z0 108 [(0, .ref 64), (3, .int v2), (4, .int s35.1), (5, .int s35.2)] [.int j43] v8 := by
        refine MM.istore (lv' := [(6, .int j43), (0, .ref 64), (3, .int v2), (4, .int s35.1), (5, .int s35.2)]) rfl (Nat.le_of_ble_eq_true rfl) rfl d_Co_mostAtOnce_108 rfl ?_
        refine MM.iload rfl d_Co_mostAtOnce_110 rfl ?_
        obtain ⟨j48, e62, hf⟩ := mm_bind hf
        have K49 : MM V l Y_Co_mostAtOnce 4 0 0 Z0 132 [(0, .ref 64), (3, .int v2), (4, .int j48), (5, .int s35.2)] [] v8 := by
          obtain ⟨y60, e61, hf⟩ := mm_letE hf
          refine MM.iinc (k0 := 3) (lv' := [(5, .int y60), (0, .ref 64), (3, .int v2), (4, .int j48)]) (by rw [ic_1]; exact e61) rfl (Nat.le_of_ble_eq_true rfl) rfl d_Co_mostAtOnce_132 rfl ?_
          refine MM.goto (tgt := 80) d_Co_mostAtOnce_135 rfl ?_
          obtain rfl := Option.some.inj hf
          have h9 := mm_wxL hx37
          exact MM.sub [1, 2, 3, 0] (by rfl) h9
        clear hf
        have hf := e62
        clear e62
        obtain ⟨m58, m59⟩ := mm_ifE hf
        refine MM.if_eq (tgt := 132) d_Co_mostAtOnce_112 rfl rfl (fun c57 => ?_) (fun c57 => ?_)
        · replace hf := m58 c57
          obtain rfl := Option.some.inj hf
          exact MM.sub [1, 2, 3, 4] (by rfl) K49
        · replace hf := m59 c57
          refine MM.iload rfl d_Co_mostAtOnce_115 rfl ?_
          obtain ⟨v51, e50, hf⟩ := mm_bind hf
          refine MM.callS1 (T_JI_bitCount V l s35.2 v8 _ e50) (fun _ _ q => q) cal_JI_bitCount rfl ww_893 ww_1067 (by decide) (by simp [Value.category]) d_Co_mostAtOnce_117 rfl ⟨rfl, rfl⟩ rfl ?_
          refine MM.iload rfl d_Co_mostAtOnce_120 rfl ?_
          obtain ⟨v53, e52, hf⟩ := mm_bind hf
          refine MM.callS1 (T_JI_bitCount V l s35.1 v8 _ e52) (fun _ _ q => q) cal_JI_bitCount rfl ww_893 ww_1067 (by decide) (by simp [Value.category]) d_Co_mostAtOnce_122 rfl ⟨rfl, rfl⟩ rfl ?_
          obtain ⟨m55, m56⟩ := mm_ifE hf
          refine MM.icmp_le (tgt := 132) d_Co_mostAtOnce_125 rfl rfl (fun c54 => ?_) (fun c54 => ?_)
          · replace hf := m55 c54
            obtain rfl := Option.some.inj hf
            exact MM.sub [1, 2, 3, 4] (by rfl) K49
          · replace hf := m56 c54
            refine MM.iload rfl d_Co_mostAtOnce_128 rfl ?_
            refine MM.istore (lv' := [(4, .int s35.2), (6, .int j43), (0, .ref 64), (3, .int v2), (5, .int s35.2)]) rfl (Nat.le_of_ble_eq_true rfl) rfl d_Co_mostAtOnce_130 rfl ?_
            obtain rfl := Option.some.inj hf
            exact MM.sub [2, 3, 0, 4] (by rfl) K49
      clear hf
      have hf := e63
      clear e63
      obtain ⟨m46, m47⟩ := mm_ifE hf
      refine MM.if_ne (tgt := 107) d_Co_mostAtOnce_100 rfl rfl (fun c45 => ?_) (fun c45 => ?_)
      · replace hf := m47 c45
        refine MM.iconst ic_0 d_Co_mostAtOnce_107 rfl ?_
        obtain rfl := Option.some.inj hf
        exact MM.sub [0, 1, 2, 3] (by rfl) K44
      · replace hf := m46 c45
        refine MM.iconst ic_1 d_Co_mostAtOnce_103 rfl ?_
        refine MM.goto (tgt := 108) d_Co_mostAtOnce_104 rfl ?_
        obtain rfl := Option.some.inj hf
        exact MM.sub [0, 1, 2, 3] (by rfl) K44
  clear hf
  refine MM.sub [2, 3, 4, 1, 0] (by rfl) (mm_while_ind (fun s5 => MM V l Y_Co_mostAtOnce 4 0 0 Z0 16 [(0, .ref 64), (1, .ref a1), (2, .ref a2), (3, .int v2), (4, .int s5.1)] [] s5.2) e10 (fun s5 q6 hf hx7 => ?_))
  refine MM.iload rfl d_Co_mostAtOnce_16 rfl ?_
  refine MM.aload_n (i := 1) rfl rfl d_Co_mostAtOnce_18 rfl ?_
  refine MM.getI 7 t_a1 lays_7 gq_7_0 ww_366 d_Co_mostAtOnce_19 rfl ?_
  obtain ⟨m33, m34⟩ := mm_ifE hf
  refine MM.icmp_ge (tgt := 74) d_Co_mostAtOnce_22 rfl rfl (fun c32 => ?_) (fun c32 => ?_)
  · replace hf := m33 c32
    obtain rfl := Option.some.inj hf
    obtain rfl := Option.some.inj (mm_wxR hx7)
    exact MM.sub [0, 3] (by rfl) K9
  · replace hf := m34 c32
    refine MM.aload_n (i := 1) rfl rfl d_Co_mostAtOnce_25 rfl ?_
    refine MM.gR 7 4 t_a1 rq_7_4 rfl lays_7 ww_379 d_Co_mostAtOnce_26 rfl ?_
    refine MM.iload rfl d_Co_mostAtOnce_29 rfl ?_
    obtain ⟨k11, e12, hf⟩ := mm_bind hf
    refine MM.gI e12 (al_7_4f t_a1) d_Co_mostAtOnce_31 rfl ?_
    obtain ⟨j13, e31, hf⟩ := mm_bind hf
    have K14 : MM V l Y_Co_mostAtOnce 4 0 0 Z0 68 [(0, .ref 64), (1, .ref a1), (2, .ref a2), (3, .int v2), (4, .int s5.1)] [] j13 := by
      obtain ⟨y29, e30, hf⟩ := mm_letE hf
      refine MM.iinc (k0 := 4) (lv' := [(4, .int y29), (0, .ref 64), (1, .ref a1), (2, .ref a2), (3, .int v2)]) (by rw [ic_1]; exact e30) rfl (Nat.le_of_ble_eq_true rfl) rfl d_Co_mostAtOnce_68 rfl ?_
      refine MM.goto (tgt := 16) d_Co_mostAtOnce_71 rfl ?_
      obtain rfl := Option.some.inj hf
      have h9 := mm_wxL hx7
      exact MM.sub [1, 2, 3, 4, 0] (by rfl) h9
    clear hf
    have hf := e31
    clear e31
    obtain ⟨m27, m28⟩ := mm_ifE hf
    refine MM.if_le (tgt := 68) d_Co_mostAtOnce_32 rfl rfl (fun c26 => ?_) (fun c26 => ?_)
    · replace hf := m27 c26
      obtain rfl := Option.some.inj hf
      exact MM.sub [0, 1, 2, 3, 4] (by rfl) K14
    · replace hf := m28 c26
      refine MM.aload_n (i := 2) rfl rfl d_Co_mostAtOnce_35 rfl ?_
      refine MM.getI 4 t_a2 lays_4 gq_4_7 ww_216 d_Co_mostAtOnce_36 rfl ?_
      refine MM.iload rfl d_Co_mostAtOnce_39 rfl ?_
      obtain ⟨v16, e15, hf⟩ := mm_bind hf
      refine MM.callSN1 (T_X_bit V l (s5.2.1 a2 7) s5.1 s5.2 _ e15) (fun _ _ q => q) cal_X_bit rfl ww_763 ww_1061n (by decide) (by simp [Value.category]) d_Co_mostAtOnce_41 rfl ⟨rfl, rfl⟩ rfl ?_
      obtain ⟨m24, m25⟩ := mm_ifE hf
      refine MM.if_ne (tgt := 68) d_Co_mostAtOnce_44 rfl rfl (fun c23 => ?_) (fun c23 => ?_)
      · replace hf := m25 c23
        obtain rfl := Option.some.inj hf
        exact MM.sub [0, 1, 2, 3, 4] (by rfl) K14
      · replace hf := m24 c23
        refine MM.aload_n (i := 0) rfl rfl d_Co_mostAtOnce_47 rfl ?_
        refine MM.iload rfl d_Co_mostAtOnce_48 rfl ?_
        refine MM.aload_n (i := 1) rfl rfl d_Co_mostAtOnce_50 rfl ?_
        refine MM.gR 7 4 t_a1 rq_7_4 rfl lays_7 ww_379 d_Co_mostAtOnce_51 rfl ?_
        refine MM.iload rfl d_Co_mostAtOnce_54 rfl ?_
        obtain ⟨k17, e18, hf⟩ := mm_bind hf
        refine MM.gI e18 (al_7_4f t_a1) d_Co_mostAtOnce_56 rfl ?_
        refine MM.aload_n (i := 2) rfl rfl d_Co_mostAtOnce_57 rfl ?_
        refine MM.aload_n (i := 1) rfl rfl d_Co_mostAtOnce_58 rfl ?_
        refine MM.iload rfl d_Co_mostAtOnce_59 rfl ?_
        obtain ⟨v20, e19, hf⟩ := mm_bind hf
        refine MM.callV1 (T_St_payable V l a2 a1 s5.1 s5.2 _ e19) (fun _ _ q => q) cal_St_payable rfl t_a2 ct_4 ww_987 ww_986 ww_1062 (by decide) (by simp [Value.category]) d_Co_mostAtOnce_61 rfl ⟨rfl, rfl⟩ rfl ?_
        refine MM.iload_n (i := 3) rfl rfl d_Co_mostAtOnce_64 rfl ?_
        obtain ⟨v22, e21, hf⟩ := mm_bind hf
        refine MM.callV0 (T_Co_admit V l s5.1 (s5.2.1 (a1 + 4) k17) v20 v2 s5.2 _ e21) (fun _ _ q => q) cal_Co_admit rfl tg_64 ct_0 ww_13 ww_1080 ww_1078 (by decide) (by simp [Value.category]) d_Co_mostAtOnce_65 rfl ⟨rfl, rfl⟩ rfl ?_
        obtain rfl := Option.some.inj hf
        exact MM.sub [0, 1, 2, 3, 4] (by rfl) K14
theorem d_X_payers_0 : decode cX11_payers 0 = .ok (.aload_n 0, 1) := by decide +kernel
theorem d_X_payers_1 : decode cX11_payers 1 = .ok (.getfield 50, 3) := by decide +kernel
theorem d_X_payers_4 : decode cX11_payers 4 = .ok (.aload_n 0, 1) := by decide +kernel
theorem d_X_payers_5 : decode cX11_payers 5 = .ok (.getfield 81, 3) := by decide +kernel
theorem d_X_payers_8 : decode cX11_payers 8 = .ok (.aload_n 0, 1) := by decide +kernel
theorem d_X_payers_9 : decode cX11_payers 9 = .ok (.aload_n 0, 1) := by decide +kernel
theorem d_X_payers_10 : decode cX11_payers 10 = .ok (.getfield 19, 3) := by decide +kernel
theorem d_X_payers_13 : decode cX11_payers 13 = .ok (.invokevirtual 153, 3) := by decide +kernel
theorem d_X_payers_16 : decode cX11_payers 16 = .ok (.invokevirtual 258, 3) := by decide +kernel
theorem d_X_payers_19 : decode cX11_payers 19 = .ok (.aload_n 0, 1) := by decide +kernel
theorem d_X_payers_20 : decode cX11_payers 20 = .ok (.getfield 50, 3) := by decide +kernel
theorem d_X_payers_23 : decode cX11_payers 23 = .ok (.aload_n 0, 1) := by decide +kernel
theorem d_X_payers_24 : decode cX11_payers 24 = .ok (.getfield 81, 3) := by decide +kernel
theorem d_X_payers_27 : decode cX11_payers 27 = .ok (.aload_n 0, 1) := by decide +kernel
theorem d_X_payers_28 : decode cX11_payers 28 = .ok (.getfield 19, 3) := by decide +kernel
theorem d_X_payers_31 : decode cX11_payers 31 = .ok (.invokevirtual 266, 3) := by decide +kernel
theorem d_X_payers_34 : decode cX11_payers 34 = .ok (.ireturn, 1) := by decide +kernel
noncomputable def f_X_payers (h : mm_H) : Option (Int32 × mm_H) := (mm_gT h 14).bind fun t1 => (f_X_weighed 35 h).bind fun v4 => (f_Co_weighSets t1 76 v4).bind fun v6 => (mm_gT v6 14).bind fun t7 => (f_Co_mostAtOnce t7 35 v6).bind fun v10 => some (v10.1, v10.2)
theorem T_X_payers (V : mm_V) (l : Launch) (h : mm_H) (r : (Int32 × mm_H)) (hf : f_X_payers h = some r) : MT V l Y_X_payers 6 [.ref 32] (fun r1 h1 => r1 = some (.int r.1) ∧ h1 = r.2) h := by
  unfold f_X_payers at hf
  refine MT.intro (pn_X rfl) [(0, .ref 32)] rfl (Nat.le_of_ble_eq_true rfl) ?_
  generalize hZ : mm_Z V _ = Z0
  refine MM.aload_n (i := 0) rfl rfl d_X_payers_0 rfl ?_
  refine MM.gR 8 32 tg_32 rq_8_8 rfl lays_8 ww_480 d_X_payers_1 rfl ?_
  refine MM.aload_n (i := 0) rfl rfl d_X_payers_4 rfl ?_
  obtain ⟨t1, e2, hf⟩ := mm_bind hf
  obtain ⟨e2, t_t1⟩ := mm_gTE e2
  refine MM.gT e2 tg_32 tq_14 lays_8 ww_486 d_X_payers_5 rfl ?_
  refine MM.aload_n (i := 0) rfl rfl d_X_payers_8 rfl ?_
  refine MM.aload_n (i := 0) rfl rfl d_X_payers_9 rfl ?_
  refine MM.gR 8 3 tg_32 rq_8_1 rfl lays_8 ww_473 d_X_payers_10 rfl ?_
  obtain ⟨v4, e3, hf⟩ := mm_bind hf
  refine MM.callV1 (T_X_weighed V l 35 h _ e3) (fun _ _ q => q) cal_X_weighed rfl tg_32 ct_8 ww_8 ww_900 ww_898 (by decide) (by simp [Value.category]) d_X_payers_13 rfl ⟨rfl, rfl⟩ rfl ?_
  obtain ⟨v6, e5, hf⟩ := mm_bind hf
  refine MM.callV0 (T_Co_weighSets V l t1 76 v4 _ e5) (fun _ _ q => q) cal_Co_weighSets rfl tg_64 ct_0 ww_1055 ww_1054 ww_1053 (by decide) (by simp [Value.category]) d_X_payers_16 rfl ⟨rfl, rfl⟩ rfl ?_
  refine MM.aload_n (i := 0) rfl rfl d_X_payers_19 rfl ?_
  refine MM.gR 8 32 tg_32 rq_8_8 rfl lays_8 ww_480 d_X_payers_20 rfl ?_
  refine MM.aload_n (i := 0) rfl rfl d_X_payers_23 rfl ?_
  obtain ⟨t7, e8, hf⟩ := mm_bind hf
  obtain ⟨e8, t_t7⟩ := mm_gTE e8
  refine MM.gT e8 tg_32 tq_14 lays_8 ww_486 d_X_payers_24 rfl ?_
  refine MM.aload_n (i := 0) rfl rfl d_X_payers_27 rfl ?_
  refine MM.gR 8 3 tg_32 rq_8_1 rfl lays_8 ww_473 d_X_payers_28 rfl ?_
  obtain ⟨v10, e9, hf⟩ := mm_bind hf
  refine MM.callV1 (T_Co_mostAtOnce V l t7 35 v6 _ e9) (fun _ _ q => q) cal_Co_mostAtOnce rfl tg_64 ct_0 ww_1074 ww_1073 ww_1072 (by decide) (by simp [Value.category]) d_X_payers_31 rfl ⟨rfl, rfl⟩ rfl ?_
  obtain rfl := Option.some.inj hf
  subst hZ
  exact MM.iret rfl d_X_payers_34 ⟨rfl, rfl⟩
