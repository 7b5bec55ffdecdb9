/-! methods: Fe_share, Fe_rest, Fe_atRest, X_rests, X_draw, X_useEar, X_quarterDay, X_live, X_years, Tk_copyFrom, X_mark, X_count, M_thrown, M_within, M_between, M_bits -/
theorem d_Fe_share_0 : decode cX1_share 0 = .ok (.iload_n 2, 1) := by decide +kernel
theorem d_Fe_share_1 : decode cX1_share 1 = .ok (.ifCond .ne 5, 3) := by decide +kernel
theorem d_Fe_share_4 : decode cX1_share 4 = .ok (.iconst 0, 1) := by decide +kernel
theorem d_Fe_share_5 : decode cX1_share 5 = .ok (.ireturn, 1) := by decide +kernel
theorem d_Fe_share_6 : decode cX1_share 6 = .ok (.iconst 1, 1) := by decide +kernel
theorem d_Fe_share_7 : decode cX1_share 7 = .ok (.istore 4, 2) := by decide +kernel
theorem d_Fe_share_9 : decode cX1_share 9 = .ok (.iconst 0, 1) := by decide +kernel
theorem d_Fe_share_10 : decode cX1_share 10 = .ok (.istore 5, 2) := by decide +kernel
theorem d_Fe_share_12 : decode cX1_share 12 = .ok (.iload 5, 2) := by decide +kernel
theorem d_Fe_share_14 : decode cX1_share 14 = .ok (.aload_n 0, 1) := by decide +kernel
theorem d_Fe_share_15 : decode cX1_share 15 = .ok (.getfield 18, 3) := by decide +kernel
theorem d_Fe_share_18 : decode cX1_share 18 = .ok (.if_icmp .ge 29, 3) := by decide +kernel
theorem d_Fe_share_21 : decode cX1_share 21 = .ok (.iload 5, 2) := by decide +kernel
theorem d_Fe_share_23 : decode cX1_share 23 = .ok (.iload_n 1, 1) := by decide +kernel
theorem d_Fe_share_24 : decode cX1_share 24 = .ok (.if_icmp .eq 17, 3) := by decide +kernel
theorem d_Fe_share_27 : decode cX1_share 27 = .ok (.aload_n 0, 1) := by decide +kernel
theorem d_Fe_share_28 : decode cX1_share 28 = .ok (.getfield 15, 3) := by decide +kernel
theorem d_Fe_share_31 : decode cX1_share 31 = .ok (.iload 5, 2) := by decide +kernel
theorem d_Fe_share_33 : decode cX1_share 33 = .ok (.iaload, 1) := by decide +kernel
theorem d_Fe_share_34 : decode cX1_share 34 = .ok (.iload_n 2, 1) := by decide +kernel
theorem d_Fe_share_35 : decode cX1_share 35 = .ok (.if_icmp .ne 6, 3) := by decide +kernel
theorem d_Fe_share_38 : decode cX1_share 38 = .ok (.iinc 4 1, 3) := by decide +kernel
theorem d_Fe_share_41 : decode cX1_share 41 = .ok (.iinc 5 1, 3) := by decide +kernel
theorem d_Fe_share_44 : decode cX1_share 44 = .ok (.goto (-32), 3) := by decide +kernel
theorem d_Fe_share_47 : decode cX1_share 47 = .ok (.aload_n 3, 1) := by decide +kernel
theorem d_Fe_share_48 : decode cX1_share 48 = .ok (.iload_n 2, 1) := by decide +kernel
theorem d_Fe_share_49 : decode cX1_share 49 = .ok (.iconst 1, 1) := by decide +kernel
theorem d_Fe_share_50 : decode cX1_share 50 = .ok (.isub, 1) := by decide +kernel
theorem d_Fe_share_51 : decode cX1_share 51 = .ok (.iaload, 1) := by decide +kernel
theorem d_Fe_share_52 : decode cX1_share 52 = .ok (.iload 4, 2) := by decide +kernel
theorem d_Fe_share_54 : decode cX1_share 54 = .ok (.idiv, 1) := by decide +kernel
theorem d_Fe_share_55 : decode cX1_share 55 = .ok (.iconst 1, 1) := by decide +kernel
theorem d_Fe_share_56 : decode cX1_share 56 = .ok (.isub, 1) := by decide +kernel
theorem d_Fe_share_57 : decode cX1_share 57 = .ok (.ireturn, 1) := by decide +kernel
noncomputable def f_Fe_share (x1 : Int32) (x2 : Int32) (a3 : Nat) (h : mm_H) : Option Int32 := if mm_tg a3 = 20 then (if x2 = 0 then (some 0) else ((mm_while (σ := (Int32 × Int32)) (ρ := Int32) (fun s1 => if (h.1 68 2) ≤ s1.2 then (some (Sum.inr s1.1)) else ((if s1.2 = x1 then (some s1.1) else ((mm_ix s1.2 3).bind fun k9 => if (h.1 70 k9) = x2 then (mm_let (s1.1 + 1) fun y11 => some y11) else (some s1.1)) : Option Int32).bind fun j7 => mm_let (s1.2 + 1) fun y19 => some (Sum.inl (j7, y19)))) (1, 0)).bind fun v4 => (mm_ix (x2 - 1) (mm_ln a3)).bind fun k25 => (mm_nzI v4).bind fun _ => some (((h.1 a3 k25) / v4) - 1))) else none
theorem T_Fe_share (V : mm_V) (l : Launch) (x1 : Int32) (x2 : Int32) (a3 : Nat) (h : mm_H) (r : Int32) (hf : f_Fe_share x1 x2 a3 h = some r) : MT V l Y_Fe_share 1 [.ref 68, .int x1, .int x2, .ref a3] (fun r1 h1 => r1 = some (.int r) ∧ h1 = h) h := by
  unfold f_Fe_share at hf
  obtain ⟨t_a3, hf⟩ := mm_chkE hf
  refine MT.intro (pn_Fe rfl) [(0, .ref 68), (1, .int x1), (2, .int x2), (3, .ref a3)] rfl (Nat.le_of_ble_eq_true rfl) ?_
  generalize hZ : mm_Z V _ = Z0
  refine MM.iload_n (i := 2) rfl rfl d_Fe_share_0 rfl ?_
  obtain ⟨m30, m31⟩ := mm_ifE hf
  refine MM.if_ne (tgt := 6) d_Fe_share_1 rfl rfl (fun c29 => ?_) (fun c29 => ?_)
  · replace hf := m31 c29
    refine MM.iconst ic_1 d_Fe_share_6 rfl ?_
    refine MM.istore (lv' := [(4, .int 1), (0, .ref 68), (1, .int x1), (2, .int x2), (3, .ref a3)]) rfl (Nat.le_of_ble_eq_true rfl) rfl d_Fe_share_7 rfl ?_
    refine MM.iconst ic_0 d_Fe_share_9 rfl ?_
    refine MM.istore (lv' := [(5, .int 0), (4, .int 1), (0, .ref 68), (1, .int x1), (2, .int x2), (3, .ref a3)]) rfl (Nat.le_of_ble_eq_true rfl) rfl d_Fe_share_10 rfl ?_
    obtain ⟨v4, e6, hf⟩ := mm_bind hf
    have K5 : MM V l Y_Fe_share 1 0 0 Z0 47 [(2, .int x2), (3, .ref a3), (4, .int v4)] [] h := by
      refine MM.aload_n (i := 3) rfl rfl d_Fe_share_47 rfl ?_
      refine MM.iload_n (i := 2) rfl rfl d_Fe_share_48 rfl ?_
      refine MM.iconst ic_1 d_Fe_share_49 rfl ?_
      refine MM.isub d_Fe_share_50 rfl ?_
      obtain ⟨k25, e26, hf⟩ := mm_bind hf
      refine MM.gI e26 ⟨t_a3, rfl⟩ d_Fe_share_51 rfl ?_
      refine MM.iload rfl d_Fe_share_52 rfl ?_
      obtain ⟨u27, e28, hf⟩ := mm_bind hf
      refine MM.idiv (mm_nzIE e28) d_Fe_share_54 rfl ?_
      refine MM.iconst ic_1 d_Fe_share_55 rfl ?_
      refine MM.isub d_Fe_share_56 rfl ?_
      obtain rfl := Option.some.inj hf
      subst hZ
      exact MM.iret rfl d_Fe_share_57 ⟨rfl, rfl⟩
    clear hf
    refine MM.sub [2, 3, 4, 5, 1, 0] (by rfl) (mm_while_ind (fun s1 => MM V l Y_Fe_share 1 0 0 Z0 12 [(0, .ref 68), (1, .int x1), (2, .int x2), (3, .ref a3), (4, .int s1.1), (5, .int s1.2)] [] h) e6 (fun s1 q2 hf hx3 => ?_))
    refine MM.iload rfl d_Fe_share_12 rfl ?_
    refine MM.aload_n (i := 0) rfl rfl d_Fe_share_14 rfl ?_
    refine MM.getI 1 tg_68 lays_1 gq_1_2 ww_311 d_Fe_share_15 rfl ?_
    obtain ⟨m23, m24⟩ := mm_ifE hf
    refine MM.icmp_ge (tgt := 47) d_Fe_share_18 rfl rfl (fun c22 => ?_) (fun c22 => ?_)
    · replace hf := m23 c22
      obtain rfl := Option.some.inj hf
      obtain rfl := Option.some.inj (mm_wxR hx3)
      exact MM.sub [2, 3, 4] (by rfl) K5
    · replace hf := m24 c22
      refine MM.iload rfl d_Fe_share_21 rfl ?_
      refine MM.iload_n (i := 1) rfl rfl d_Fe_share_23 rfl ?_
      obtain ⟨j7, e21, hf⟩ := mm_bind hf
      have K8 : MM V l Y_Fe_share 1 0 0 Z0 41 [(0, .ref 68), (1, .int x1), (2, .int x2), (3, .ref a3), (4, .int j7), (5, .int s1.2)] [] h := by
        obtain ⟨y19, e20, hf⟩ := mm_letE hf
        refine MM.iinc (k0 := 5) (lv' := [(5, .int y19), (0, .ref 68), (1, .int x1), (2, .int x2), (3, .ref a3), (4, .int j7)]) (by rw [ic_1]; exact e20) rfl (Nat.le_of_ble_eq_true rfl) rfl d_Fe_share_41 rfl ?_
        refine MM.goto (tgt := 12) d_Fe_share_44 rfl ?_
        obtain rfl := Option.some.inj hf
        have h9 := mm_wxL hx3
        exact MM.sub [1, 2, 3, 4, 5, 0] (by rfl) h9
      clear hf
      have hf := e21
      clear e21
      obtain ⟨m17, m18⟩ := mm_ifE hf
      refine MM.icmp_eq (tgt := 41) d_Fe_share_24 rfl rfl (fun c16 => ?_) (fun c16 => ?_)
      · replace hf := m17 c16
        obtain rfl := Option.some.inj hf
        exact MM.sub [0, 1, 2, 3, 4, 5] (by rfl) K8
      · replace hf := m18 c16
        refine MM.aload_n (i := 0) rfl rfl d_Fe_share_27 rfl ?_
        refine MM.gR 1 2 tg_68 rq_1_1 rfl lays_1 ww_310 d_Fe_share_28 rfl ?_
        refine MM.iload rfl d_Fe_share_31 rfl ?_
        obtain ⟨k9, e10, hf⟩ := mm_bind hf
        refine MM.gI e10 al_70 d_Fe_share_33 rfl ?_
        refine MM.iload_n (i := 2) rfl rfl d_Fe_share_34 rfl ?_
        obtain ⟨m14, m15⟩ := mm_ifE hf
        refine MM.icmp_ne (tgt := 41) d_Fe_share_35 rfl rfl (fun c13 => ?_) (fun c13 => ?_)
        · replace hf := m15 c13
          obtain rfl := Option.some.inj hf
          exact MM.sub [0, 1, 2, 3, 4, 5] (by rfl) K8
        · replace hf := m14 c13
          obtain ⟨y11, e12, hf⟩ := mm_letE hf
          refine MM.iinc (k0 := 4) (lv' := [(4, .int y11), (0, .ref 68), (1, .int x1), (2, .int x2), (3, .ref a3), (5, .int s1.2)]) (by rw [ic_1]; exact e12) rfl (Nat.le_of_ble_eq_true rfl) rfl d_Fe_share_38 rfl ?_
          obtain rfl := Option.some.inj hf
          exact MM.sub [1, 2, 3, 4, 0, 5] (by rfl) K8
  · replace hf := m30 c29
    refine MM.iconst ic_0 d_Fe_share_4 rfl ?_
    obtain rfl := Option.some.inj hf
    subst hZ
    exact MM.iret rfl d_Fe_share_5 ⟨rfl, rfl⟩
theorem d_Fe_rest_0 : decode cX1_rest 0 = .ok (.iconst 0, 1) := by decide +kernel
theorem d_Fe_rest_1 : decode cX1_rest 1 = .ok (.istore_n 2, 1) := by decide +kernel
theorem d_Fe_rest_2 : decode cX1_rest 2 = .ok (.iload_n 2, 1) := by decide +kernel
theorem d_Fe_rest_3 : decode cX1_rest 3 = .ok (.aload_n 0, 1) := by decide +kernel
theorem d_Fe_rest_4 : decode cX1_rest 4 = .ok (.getfield 18, 3) := by decide +kernel
theorem d_Fe_rest_7 : decode cX1_rest 7 = .ok (.if_icmp .ge 62, 3) := by decide +kernel
theorem d_Fe_rest_10 : decode cX1_rest 10 = .ok (.aload_n 0, 1) := by decide +kernel
theorem d_Fe_rest_11 : decode cX1_rest 11 = .ok (.iload_n 2, 1) := by decide +kernel
theorem d_Fe_rest_12 : decode cX1_rest 12 = .ok (.aload_n 0, 1) := by decide +kernel
theorem d_Fe_rest_13 : decode cX1_rest 13 = .ok (.getfield 15, 3) := by decide +kernel
theorem d_Fe_rest_16 : decode cX1_rest 16 = .ok (.iload_n 2, 1) := by decide +kernel
theorem d_Fe_rest_17 : decode cX1_rest 17 = .ok (.iaload, 1) := by decide +kernel
theorem d_Fe_rest_18 : decode cX1_rest 18 = .ok (.aload_n 1, 1) := by decide +kernel
theorem d_Fe_rest_19 : decode cX1_rest 19 = .ok (.invokevirtual 48, 3) := by decide +kernel
theorem d_Fe_rest_22 : decode cX1_rest 22 = .ok (.istore_n 3, 1) := by decide +kernel
theorem d_Fe_rest_23 : decode cX1_rest 23 = .ok (.iconst 0, 1) := by decide +kernel
theorem d_Fe_rest_24 : decode cX1_rest 24 = .ok (.istore 4, 2) := by decide +kernel
theorem d_Fe_rest_26 : decode cX1_rest 26 = .ok (.iload 4, 2) := by decide +kernel
theorem d_Fe_rest_28 : decode cX1_rest 28 = .ok (.bipush 11, 2) := by decide +kernel
theorem d_Fe_rest_30 : decode cX1_rest 30 = .ok (.if_icmp .ge 33, 3) := by decide +kernel
theorem d_Fe_rest_33 : decode cX1_rest 33 = .ok (.aload_n 0, 1) := by decide +kernel
theorem d_Fe_rest_34 : decode cX1_rest 34 = .ok (.iload_n 2, 1) := by decide +kernel
theorem d_Fe_rest_35 : decode cX1_rest 35 = .ok (.iload 4, 2) := by decide +kernel
theorem d_Fe_rest_37 : decode cX1_rest 37 = .ok (.invokevirtual 44, 3) := by decide +kernel
theorem d_Fe_rest_40 : decode cX1_rest 40 = .ok (.ifCond .eq 17, 3) := by decide +kernel
theorem d_Fe_rest_43 : decode cX1_rest 43 = .ok (.aload_n 0, 1) := by decide +kernel
theorem d_Fe_rest_44 : decode cX1_rest 44 = .ok (.iload_n 2, 1) := by decide +kernel
theorem d_Fe_rest_45 : decode cX1_rest 45 = .ok (.iload 4, 2) := by decide +kernel
theorem d_Fe_rest_47 : decode cX1_rest 47 = .ok (.aload_n 1, 1) := by decide +kernel
theorem d_Fe_rest_48 : decode cX1_rest 48 = .ok (.invokevirtual 48, 3) := by decide +kernel
theorem d_Fe_rest_51 : decode cX1_rest 51 = .ok (.iload_n 3, 1) := by decide +kernel
theorem d_Fe_rest_52 : decode cX1_rest 52 = .ok (.if_icmp .le 5, 3) := by decide +kernel
theorem d_Fe_rest_55 : decode cX1_rest 55 = .ok (.iconst 0, 1) := by decide +kernel
theorem d_Fe_rest_56 : decode cX1_rest 56 = .ok (.ireturn, 1) := by decide +kernel
theorem d_Fe_rest_57 : decode cX1_rest 57 = .ok (.iinc 4 1, 3) := by decide +kernel
theorem d_Fe_rest_60 : decode cX1_rest 60 = .ok (.goto (-34), 3) := by decide +kernel
theorem d_Fe_rest_63 : decode cX1_rest 63 = .ok (.iinc 2 1, 3) := by decide +kernel
theorem d_Fe_rest_66 : decode cX1_rest 66 = .ok (.goto (-64), 3) := by decide +kernel
theorem d_Fe_rest_69 : decode cX1_rest 69 = .ok (.iconst 1, 1) := by decide +kernel
theorem d_Fe_rest_70 : decode cX1_rest 70 = .ok (.ireturn, 1) := by decide +kernel
noncomputable def f_Fe_rest (a1 : Nat) (h : mm_H) : Option Int32 := if mm_tg a1 = 20 then (mm_while (σ := Int32) (ρ := Int32) (fun s1 => if (h.1 68 2) ≤ s1 then (some (Sum.inr 1)) else ((mm_ix s1 3).bind fun k4 => (f_Fe_share s1 (h.1 70 k4) a1 h).bind fun v7 => mm_while (σ := Int32) (ρ := (Int32 ⊕ Int32)) (fun s8 => if 11 ≤ s8 then (mm_let (s1 + 1) fun y11 => some (Sum.inr (Sum.inl y11))) else ((f_Fe_mayChoose s1 s8 h).bind fun v14 => mm_jp (fun (j15 : Unit) => (mm_let (s8 + 1) fun y18 => some (Sum.inl y18))) fun k17 => if v14 = 0 then (k17 ()) else ((f_Fe_share s1 s8 a1 h).bind fun v21 => if v21 ≤ v7 then (k17 ()) else (some (Sum.inr (Sum.inr 0)))))) 0)) 0) else none
theorem T_Fe_rest (V : mm_V) (l : Launch) (a1 : Nat) (h : mm_H) (r : Int32) (hf : f_Fe_rest a1 h = some r) : MT V l Y_Fe_rest 3 [.ref 68, .ref a1] (fun r1 h1 => r1 = some (.int r) ∧ h1 = h) h := by
  unfold f_Fe_rest at hf
  obtain ⟨t_a1, hf⟩ := mm_chkE hf
  refine MT.intro (pn_Fe rfl) [(0, .ref 68), (1, .ref a1)] rfl (Nat.le_of_ble_eq_true rfl) ?_
  generalize hZ : mm_Z V _ = Z0
  refine MM.iconst ic_0 d_Fe_rest_0 rfl ?_
  refine MM.istore_n (i := 2) (lv' := [(2, .int 0), (0, .ref 68), (1, .ref a1)]) rfl rfl (Nat.le_of_ble_eq_true rfl) rfl d_Fe_rest_1 rfl ?_
  refine MM.sub [1, 2, 0] (by rfl) (mm_while_ind (fun s1 => MM V l Y_Fe_rest 3 0 0 Z0 2 [(0, .ref 68), (1, .ref a1), (2, .int s1)] [] h) hf (fun s1 q2 hf hx3 => ?_))
  refine MM.iload_n (i := 2) rfl rfl d_Fe_rest_2 rfl ?_
  refine MM.aload_n (i := 0) rfl rfl d_Fe_rest_3 rfl ?_
  refine MM.getI 1 tg_68 lays_1 gq_1_2 ww_311 d_Fe_rest_4 rfl ?_
  obtain ⟨m33, m34⟩ := mm_ifE hf
  refine MM.icmp_ge (tgt := 69) d_Fe_rest_7 rfl rfl (fun c32 => ?_) (fun c32 => ?_)
  · replace hf := m33 c32
    refine MM.iconst ic_1 d_Fe_rest_69 rfl ?_
    obtain rfl := Option.some.inj hf
    replace hf := mm_wxR hx3
    obtain rfl := Option.some.inj hf
    subst hZ
    exact MM.zret (Or.inr rfl) rfl d_Fe_rest_70 ⟨rfl, rfl⟩
  · replace hf := m34 c32
    refine MM.aload_n (i := 0) rfl rfl d_Fe_rest_10 rfl ?_
    refine MM.iload_n (i := 2) rfl rfl d_Fe_rest_11 rfl ?_
    refine MM.aload_n (i := 0) rfl rfl d_Fe_rest_12 rfl ?_
    refine MM.gR 1 2 tg_68 rq_1_1 rfl lays_1 ww_310 d_Fe_rest_13 rfl ?_
    refine MM.iload_n (i := 2) rfl rfl d_Fe_rest_16 rfl ?_
    obtain ⟨k4, e5, hf⟩ := mm_bind hf
    refine MM.gI e5 al_70 d_Fe_rest_17 rfl ?_
    refine MM.aload_n (i := 1) rfl rfl d_Fe_rest_18 rfl ?_
    obtain ⟨v7, e6, hf⟩ := mm_bind hf
    refine MM.callV1 (T_Fe_share V l s1 (h.1 70 k4) a1 h _ e6) (fun _ _ q => q) cal_Fe_share rfl tg_68 ct_1 ww_25 ww_1206 ww_1204 (by decide) (by simp [Value.category]) d_Fe_rest_19 rfl ⟨rfl, rfl⟩ rfl ?_
    refine MM.istore_n (i := 3) (lv' := [(3, .int v7), (0, .ref 68), (1, .ref a1), (2, .int s1)]) rfl rfl (Nat.le_of_ble_eq_true rfl) rfl d_Fe_rest_22 rfl ?_
    refine MM.iconst ic_0 d_Fe_rest_23 rfl ?_
    refine MM.istore (lv' := [(4, .int 0), (3, .int v7), (0, .ref 68), (1, .ref a1), (2, .int s1)]) rfl (Nat.le_of_ble_eq_true rfl) rfl d_Fe_rest_24 rfl ?_
    refine MM.sub [2, 3, 4, 1, 0] (by rfl) (mm_while_ind (fun s8 => MM V l Y_Fe_rest 3 0 0 Z0 26 [(0, .ref 68), (1, .ref a1), (2, .int s1), (3, .int v7), (4, .int s8)] [] h) hf (fun s8 q9 hf hx10 => ?_))
    refine MM.iload rfl d_Fe_rest_26 rfl ?_
    refine MM.bipush bp_11 d_Fe_rest_28 rfl ?_
    obtain ⟨m30, m31⟩ := mm_ifE hf
    refine MM.icmp_ge (tgt := 63) d_Fe_rest_30 rfl rfl (fun c29 => ?_) (fun c29 => ?_)
    · replace hf := m30 c29
      obtain ⟨y11, e12, hf⟩ := mm_letE hf
      refine MM.iinc (k0 := 2) (lv' := [(2, .int y11), (0, .ref 68), (1, .ref a1), (3, .int v7), (4, .int s8)]) (by rw [ic_1]; exact e12) rfl (Nat.le_of_ble_eq_true rfl) rfl d_Fe_rest_63 rfl ?_
      refine MM.goto (tgt := 2) d_Fe_rest_66 rfl ?_
      obtain rfl := Option.some.inj hf
      replace hf := mm_wxR hx10
      obtain rfl := Option.some.inj hf
      have h9 := mm_wxL hx3
      exact MM.sub [1, 2, 0] (by rfl) h9
    · replace hf := m31 c29
      refine MM.aload_n (i := 0) rfl rfl d_Fe_rest_33 rfl ?_
      refine MM.iload_n (i := 2) rfl rfl d_Fe_rest_34 rfl ?_
      refine MM.iload rfl d_Fe_rest_35 rfl ?_
      obtain ⟨v14, e13, hf⟩ := mm_bind hf
      refine MM.callV1 (T_Fe_mayChoose V l s1 s8 h _ e13) (fun _ _ q => q) cal_Fe_mayChoose rfl tg_68 ct_1 ww_23 ww_1198 ww_1196 (by decide) (by simp [Value.category]) d_Fe_rest_37 rfl ⟨rfl, rfl⟩ rfl ?_
      obtain ⟨k17, e28, hf⟩ := mm_jpE hf
      have K16 : ∀ j15, k17 j15 = some q9 → MM V l Y_Fe_rest 3 0 0 Z0 57 [(0, .ref 68), (1, .ref a1), (2, .int s1), (3, .int v7), (4, .int s8)] [] h := by
        intro j15 hf
        rw [e28] at hf
        obtain ⟨y18, e19, hf⟩ := mm_letE hf
        refine MM.iinc (k0 := 4) (lv' := [(4, .int y18), (0, .ref 68), (1, .ref a1), (2, .int s1), (3, .int v7)]) (by rw [ic_1]; exact e19) rfl (Nat.le_of_ble_eq_true rfl) rfl d_Fe_rest_57 rfl ?_
        refine MM.goto (tgt := 26) d_Fe_rest_60 rfl ?_
        obtain rfl := Option.some.inj hf
        have h9 := mm_wxL hx10
        exact MM.sub [1, 2, 3, 4, 0] (by rfl) h9
      clear e28
      obtain ⟨m26, m27⟩ := mm_ifE hf
      refine MM.if_eq (tgt := 57) d_Fe_rest_40 rfl rfl (fun c25 => ?_) (fun c25 => ?_)
      · replace hf := m26 c25
        exact MM.sub [0, 1, 2, 3, 4] (by rfl) (K16 _ hf)
      · replace hf := m27 c25
        refine MM.aload_n (i := 0) rfl rfl d_Fe_rest_43 rfl ?_
        refine MM.iload_n (i := 2) rfl rfl d_Fe_rest_44 rfl ?_
        refine MM.iload rfl d_Fe_rest_45 rfl ?_
        refine MM.aload_n (i := 1) rfl rfl d_Fe_rest_47 rfl ?_
        obtain ⟨v21, e20, hf⟩ := mm_bind hf
        refine MM.callV1 (T_Fe_share V l s1 s8 a1 h _ e20) (fun _ _ q => q) cal_Fe_share rfl tg_68 ct_1 ww_25 ww_1206 ww_1204 (by decide) (by simp [Value.category]) d_Fe_rest_48 rfl ⟨rfl, rfl⟩ rfl ?_
        refine MM.iload_n (i := 3) rfl rfl d_Fe_rest_51 rfl ?_
        obtain ⟨m23, m24⟩ := mm_ifE hf
        refine MM.icmp_le (tgt := 57) d_Fe_rest_52 rfl rfl (fun c22 => ?_) (fun c22 => ?_)
        · replace hf := m23 c22
          exact MM.sub [0, 1, 2, 3, 4] (by rfl) (K16 _ hf)
        · replace hf := m24 c22
          refine MM.iconst ic_0 d_Fe_rest_55 rfl ?_
          obtain rfl := Option.some.inj hf
          replace hf := mm_wxR hx10
          obtain rfl := Option.some.inj hf
          replace hf := mm_wxR hx3
          obtain rfl := Option.some.inj hf
          subst hZ
          exact MM.zret (Or.inl rfl) rfl d_Fe_rest_56 ⟨rfl, rfl⟩
theorem d_Fe_atRest_0 : decode cX1_atRest 0 = .ok (.iconst 1, 1) := by decide +kernel
theorem d_Fe_atRest_1 : decode cX1_atRest 1 = .ok (.istore_n 3, 1) := by decide +kernel
theorem d_Fe_atRest_2 : decode cX1_atRest 2 = .ok (.iconst 0, 1) := by decide +kernel
theorem d_Fe_atRest_3 : decode cX1_atRest 3 = .ok (.istore 4, 2) := by decide +kernel
theorem d_Fe_atRest_5 : decode cX1_atRest 5 = .ok (.iload 4, 2) := by decide +kernel
theorem d_Fe_atRest_7 : decode cX1_atRest 7 = .ok (.aload_n 0, 1) := by decide +kernel
theorem d_Fe_atRest_8 : decode cX1_atRest 8 = .ok (.getfield 18, 3) := by decide +kernel
theorem d_Fe_atRest_11 : decode cX1_atRest 11 = .ok (.if_icmp .ge 14, 3) := by decide +kernel
theorem d_Fe_atRest_14 : decode cX1_atRest 14 = .ok (.iload_n 3, 1) := by decide +kernel
theorem d_Fe_atRest_15 : decode cX1_atRest 15 = .ok (.bipush 11, 2) := by decide +kernel
theorem d_Fe_atRest_17 : decode cX1_atRest 17 = .ok (.imul, 1) := by decide +kernel
theorem d_Fe_atRest_18 : decode cX1_atRest 18 = .ok (.istore_n 3, 1) := by decide +kernel
theorem d_Fe_atRest_19 : decode cX1_atRest 19 = .ok (.iinc 4 1, 3) := by decide +kernel
theorem d_Fe_atRest_22 : decode cX1_atRest 22 = .ok (.goto (-17), 3) := by decide +kernel
theorem d_Fe_atRest_25 : decode cX1_atRest 25 = .ok (.iconst 0, 1) := by decide +kernel
theorem d_Fe_atRest_26 : decode cX1_atRest 26 = .ok (.istore 4, 2) := by decide +kernel
theorem d_Fe_atRest_28 : decode cX1_atRest 28 = .ok (.iconst 0, 1) := by decide +kernel
theorem d_Fe_atRest_29 : decode cX1_atRest 29 = .ok (.istore 5, 2) := by decide +kernel
theorem d_Fe_atRest_31 : decode cX1_atRest 31 = .ok (.iload 5, 2) := by decide +kernel
theorem d_Fe_atRest_33 : decode cX1_atRest 33 = .ok (.iload_n 3, 1) := by decide +kernel
theorem d_Fe_atRest_34 : decode cX1_atRest 34 = .ok (.if_icmp .ge 38, 3) := by decide +kernel
theorem d_Fe_atRest_37 : decode cX1_atRest 37 = .ok (.aload_n 0, 1) := by decide +kernel
theorem d_Fe_atRest_38 : decode cX1_atRest 38 = .ok (.iload 5, 2) := by decide +kernel
theorem d_Fe_atRest_40 : decode cX1_atRest 40 = .ok (.invokevirtual 36, 3) := by decide +kernel
theorem d_Fe_atRest_43 : decode cX1_atRest 43 = .ok (.ifCond .eq 23, 3) := by decide +kernel
theorem d_Fe_atRest_46 : decode cX1_atRest 46 = .ok (.aload_n 0, 1) := by decide +kernel
theorem d_Fe_atRest_47 : decode cX1_atRest 47 = .ok (.aload_n 1, 1) := by decide +kernel
theorem d_Fe_atRest_48 : decode cX1_atRest 48 = .ok (.invokevirtual 40, 3) := by decide +kernel
theorem d_Fe_atRest_51 : decode cX1_atRest 51 = .ok (.ifCond .eq 15, 3) := by decide +kernel
theorem d_Fe_atRest_54 : decode cX1_atRest 54 = .ok (.iload 4, 2) := by decide +kernel
theorem d_Fe_atRest_56 : decode cX1_atRest 56 = .ok (.iload_n 2, 1) := by decide +kernel
theorem d_Fe_atRest_57 : decode cX1_atRest 57 = .ok (.if_icmp .ne 6, 3) := by decide +kernel
theorem d_Fe_atRest_60 : decode cX1_atRest 60 = .ok (.iload 5, 2) := by decide +kernel
theorem d_Fe_atRest_62 : decode cX1_atRest 62 = .ok (.ireturn, 1) := by decide +kernel
theorem d_Fe_atRest_63 : decode cX1_atRest 63 = .ok (.iinc 4 1, 3) := by decide +kernel
theorem d_Fe_atRest_66 : decode cX1_atRest 66 = .ok (.iinc 5 1, 3) := by decide +kernel
theorem d_Fe_atRest_69 : decode cX1_atRest 69 = .ok (.goto (-38), 3) := by decide +kernel
theorem d_Fe_atRest_72 : decode cX1_atRest 72 = .ok (.iload_n 2, 1) := by decide +kernel
theorem d_Fe_atRest_73 : decode cX1_atRest 73 = .ok (.iconst (-1), 1) := by decide +kernel
theorem d_Fe_atRest_74 : decode cX1_atRest 74 = .ok (.if_icmp .ne 8, 3) := by decide +kernel
theorem d_Fe_atRest_77 : decode cX1_atRest 77 = .ok (.iload 4, 2) := by decide +kernel
theorem d_Fe_atRest_79 : decode cX1_atRest 79 = .ok (.goto 4, 3) := by decide +kernel
theorem d_Fe_atRest_82 : decode cX1_atRest 82 = .ok (.iconst (-1), 1) := by decide +kernel
theorem d_Fe_atRest_83 : decode cX1_atRest 83 = .ok (.ireturn, 1) := by decide +kernel
noncomputable def f_Fe_atRest (a1 : Nat) (x2 : Int32) (h : mm_H) : Option (Int32 × mm_H) := if mm_tg a1 = 20 then ((mm_while (σ := (Int32 × Int32)) (ρ := Int32) (fun s1 => if (h.1 68 2) ≤ s1.2 then (some (Sum.inr s1.1)) else (mm_let (s1.1 * 11) fun y7 => mm_let (s1.2 + 1) fun y9 => some (Sum.inl (y7, y9)))) (1, 0)).bind fun v4 => mm_while (σ := (Int32 × Int32 × mm_H)) (ρ := (Int32 × mm_H)) (fun s14 => if v4 ≤ s14.2.1 then (if x2 = (-1) then (some (Sum.inr (s14.1, s14.2.2))) else (some (Sum.inr ((-1), s14.2.2)))) else ((f_Fe_choose s14.2.1 s14.2.2).bind fun v21 => mm_jp (fun (j22 : Int32) => (mm_let (s14.2.1 + 1) fun y25 => some (Sum.inl (j22, y25, v21.2)))) fun k24 => if v21.1 = 0 then (k24 s14.1) else ((f_Fe_rest a1 v21.2).bind fun v28 => if v28 = 0 then (k24 s14.1) else (if s14.1 = x2 then (some (Sum.inr (s14.2.1, v21.2))) else (mm_let (s14.1 + 1) fun y29 => k24 y29))))) (0, 0, h)) else none
theorem T_Fe_atRest (V : mm_V) (l : Launch) (a1 : Nat) (x2 : Int32) (h : mm_H) (r : (Int32 × mm_H)) (hf : f_Fe_atRest a1 x2 h = some r) : MT V l Y_Fe_atRest 4 [.ref 68, .ref a1, .int x2] (fun r1 h1 => r1 = some (.int r.1) ∧ h1 = r.2) h := by
  unfold f_Fe_atRest at hf
  obtain ⟨t_a1, hf⟩ := mm_chkE hf
  refine MT.intro (pn_Fe rfl) [(0, .ref 68), (1, .ref a1), (2, .int x2)] rfl (Nat.le_of_ble_eq_true rfl) ?_
  generalize hZ : mm_Z V _ = Z0
  refine MM.iconst ic_1 d_Fe_atRest_0 rfl ?_
  refine MM.istore_n (i := 3) (lv' := [(3, .int 1), (0, .ref 68), (1, .ref a1), (2, .int x2)]) rfl rfl (Nat.le_of_ble_eq_true rfl) rfl d_Fe_atRest_1 rfl ?_
  refine MM.iconst ic_0 d_Fe_atRest_2 rfl ?_
  refine MM.istore (lv' := [(4, .int 0), (3, .int 1), (0, .ref 68), (1, .ref a1), (2, .int x2)]) rfl (Nat.le_of_ble_eq_true rfl) rfl d_Fe_atRest_3 rfl ?_
  obtain ⟨v4, e6, hf⟩ := mm_bind hf
  have K5 : MM V l Y_Fe_atRest 4 0 0 Z0 25 [(0, .ref 68), (1, .ref a1), (2, .int x2), (3, .int v4)] [] h := by
    refine MM.iconst ic_0 d_Fe_atRest_25 rfl ?_
    refine MM.istore (lv' := [(4, .int 0), (0, .ref 68), (1, .ref a1), (2, .int x2), (3, .int v4)]) rfl (Nat.le_of_ble_eq_true rfl) rfl d_Fe_atRest_26 rfl ?_
    refine MM.iconst ic_0 d_Fe_atRest_28 rfl ?_
    refine MM.istore (lv' := [(5, .int 0), (4, .int 0), (0, .ref 68), (1, .ref a1), (2, .int x2), (3, .int v4)]) rfl (Nat.le_of_ble_eq_true rfl) rfl d_Fe_atRest_29 rfl ?_
    refine MM.sub [2, 3, 4, 5, 1, 0] (by rfl) (mm_while_ind (fun s14 => MM V l Y_Fe_atRest 4 0 0 Z0 31 [(0, .ref 68), (1, .ref a1), (2, .int x2), (3, .int v4), (4, .int s14.1), (5, .int s14.2.1)] [] s14.2.2) hf (fun s14 q15 hf hx16 => ?_))
    refine MM.iload rfl d_Fe_atRest_31 rfl ?_
    refine MM.iload_n (i := 3) rfl rfl d_Fe_atRest_33 rfl ?_
    obtain ⟨m42, m43⟩ := mm_ifE hf
    refine MM.icmp_ge (tgt := 72) d_Fe_atRest_34 rfl rfl (fun c41 => ?_) (fun c41 => ?_)
    · replace hf := m42 c41
      refine MM.iload_n (i := 2) rfl rfl d_Fe_atRest_72 rfl ?_
      refine MM.iconst ic_m1 d_Fe_atRest_73 rfl ?_
      obtain ⟨m18, m19⟩ := mm_ifE hf
      refine MM.icmp_ne (tgt := 82) d_Fe_atRest_74 rfl rfl (fun c17 => ?_) (fun c17 => ?_)
      · replace hf := m19 c17
        refine MM.iconst ic_m1 d_Fe_atRest_82 rfl ?_
        obtain rfl := Option.some.inj hf
        replace hf := mm_wxR hx16
        obtain rfl := Option.some.inj hf
        subst hZ
        exact MM.iret rfl d_Fe_atRest_83 ⟨rfl, rfl⟩
      · replace hf := m18 c17
        refine MM.iload rfl d_Fe_atRest_77 rfl ?_
        refine MM.goto (tgt := 83) d_Fe_atRest_79 rfl ?_
        obtain rfl := Option.some.inj hf
        replace hf := mm_wxR hx16
        obtain rfl := Option.some.inj hf
        subst hZ
        exact MM.iret rfl d_Fe_atRest_83 ⟨rfl, rfl⟩
    · replace hf := m43 c41
      refine MM.aload_n (i := 0) rfl rfl d_Fe_atRest_37 rfl ?_
      refine MM.iload rfl d_Fe_atRest_38 rfl ?_
      obtain ⟨v21, e20, hf⟩ := mm_bind hf
      refine MM.callV1 (T_Fe_choose V l s14.2.1 s14.2.2 _ e20) (fun _ _ q => q) cal_Fe_choose rfl tg_68 ct_1 ww_22 ww_1194 ww_1192 (by decide) (by simp [Value.category]) d_Fe_atRest_40 rfl ⟨rfl, rfl⟩ rfl ?_
      obtain ⟨k24, e40, hf⟩ := mm_jpE hf
      have K23 : ∀ j22, k24 j22 = some q15 → MM V l Y_Fe_atRest 4 0 0 Z0 66 [(0, .ref 68), (1, .ref a1), (2, .int x2), (3, .int v4), (4, .int j22), (5, .int s14.2.1)] [] v21.2 := by
        intro j22 hf
        rw [e40] at hf
        obtain ⟨y25, e26, hf⟩ := mm_letE hf
        refine MM.iinc (k0 := 5) (lv' := [(5, .int y25), (0, .ref 68), (1, .ref a1), (2, .int x2), (3, .int v4), (4, .int j22)]) (by rw [ic_1]; exact e26) rfl (Nat.le_of_ble_eq_true rfl) rfl d_Fe_atRest_66 rfl ?_
        refine MM.goto (tgt := 31) d_Fe_atRest_69 rfl ?_
        obtain rfl := Option.some.inj hf
        have h9 := mm_wxL hx16
        exact MM.sub [1, 2, 3, 4, 5, 0] (by rfl) h9
      clear e40
      obtain ⟨m38, m39⟩ := mm_ifE hf
      refine MM.if_eq (tgt := 66) d_Fe_atRest_43 rfl rfl (fun c37 => ?_) (fun c37 => ?_)
      · replace hf := m38 c37
        exact MM.sub [0, 1, 2, 3, 4, 5] (by rfl) (K23 _ hf)
      · replace hf := m39 c37
        refine MM.aload_n (i := 0) rfl rfl d_Fe_atRest_46 rfl ?_
        refine MM.aload_n (i := 1) rfl rfl d_Fe_atRest_47 rfl ?_
        obtain ⟨v28, e27, hf⟩ := mm_bind hf
        refine MM.callV1 (T_Fe_rest V l a1 v21.2 _ e27) (fun _ _ q => q) cal_Fe_rest rfl tg_68 ct_1 ww_24 ww_1202 ww_1200 (by decide) (by simp [Value.category]) d_Fe_atRest_48 rfl ⟨rfl, rfl⟩ rfl ?_
        obtain ⟨m35, m36⟩ := mm_ifE hf
        refine MM.if_eq (tgt := 66) d_Fe_atRest_51 rfl rfl (fun c34 => ?_) (fun c34 => ?_)
        · replace hf := m35 c34
          exact MM.sub [0, 1, 2, 3, 4, 5] (by rfl) (K23 _ hf)
        · replace hf := m36 c34
          refine MM.iload rfl d_Fe_atRest_54 rfl ?_
          refine MM.iload_n (i := 2) rfl rfl d_Fe_atRest_56 rfl ?_
          obtain ⟨m32, m33⟩ := mm_ifE hf
          refine MM.icmp_ne (tgt := 63) d_Fe_atRest_57 rfl rfl (fun c31 => ?_) (fun c31 => ?_)
          · replace hf := m33 c31
            obtain ⟨y29, e30, hf⟩ := mm_letE hf
            refine MM.iinc (k0 := 4) (lv' := [(4, .int y29), (0, .ref 68), (1, .ref a1), (2, .int x2), (3, .int v4), (5, .int s14.2.1)]) (by rw [ic_1]; exact e30) rfl (Nat.le_of_ble_eq_true rfl) rfl d_Fe_atRest_63 rfl ?_
            exact MM.sub [1, 2, 3, 4, 0, 5] (by rfl) (K23 _ hf)
          · replace hf := m32 c31
            refine MM.iload rfl d_Fe_atRest_60 rfl ?_
            obtain rfl := Option.some.inj hf
            replace hf := mm_wxR hx16
            obtain rfl := Option.some.inj hf
            subst hZ
            exact MM.iret rfl d_Fe_atRest_62 ⟨rfl, rfl⟩
  clear hf
  refine MM.sub [2, 3, 4, 1, 0] (by rfl) (mm_while_ind (fun s1 => MM V l Y_Fe_atRest 4 0 0 Z0 5 [(0, .ref 68), (1, .ref a1), (2, .int x2), (3, .int s1.1), (4, .int s1.2)] [] h) e6 (fun s1 q2 hf hx3 => ?_))
  refine MM.iload rfl d_Fe_atRest_5 rfl ?_
  refine MM.aload_n (i := 0) rfl rfl d_Fe_atRest_7 rfl ?_
  refine MM.getI 1 tg_68 lays_1 gq_1_2 ww_311 d_Fe_atRest_8 rfl ?_
  obtain ⟨m12, m13⟩ := mm_ifE hf
  refine MM.icmp_ge (tgt := 25) d_Fe_atRest_11 rfl rfl (fun c11 => ?_) (fun c11 => ?_)
  · replace hf := m12 c11
    obtain rfl := Option.some.inj hf
    obtain rfl := Option.some.inj (mm_wxR hx3)
    exact MM.sub [0, 1, 2, 3] (by rfl) K5
  · replace hf := m13 c11
    refine MM.iload_n (i := 3) rfl rfl d_Fe_atRest_14 rfl ?_
    refine MM.bipush bp_11 d_Fe_atRest_15 rfl ?_
    refine MM.imul d_Fe_atRest_17 rfl ?_
    obtain ⟨y7, e8, hf⟩ := mm_letE hf
    refine MM.istore_n (i := 3) (lv' := [(3, .int y7), (0, .ref 68), (1, .ref a1), (2, .int x2), (4, .int s1.2)]) e8 rfl (Nat.le_of_ble_eq_true rfl) rfl d_Fe_atRest_18 rfl ?_
    obtain ⟨y9, e10, hf⟩ := mm_letE hf
    refine MM.iinc (k0 := 4) (lv' := [(4, .int y9), (3, .int y7), (0, .ref 68), (1, .ref a1), (2, .int x2)]) (by rw [ic_1]; exact e10) rfl (Nat.le_of_ble_eq_true rfl) rfl d_Fe_atRest_19 rfl ?_
    refine MM.goto (tgt := 5) d_Fe_atRest_22 rfl ?_
    obtain rfl := Option.some.inj hf
    have h9 := mm_wxL hx3
    exact MM.sub [2, 3, 4, 1, 0] (by rfl) h9
theorem d_X_rests_0 : decode cX11_rests 0 = .ok (.iload_n 1, 1) := by decide +kernel
theorem d_X_rests_1 : decode cX11_rests 1 = .ok (.invokestatic 299, 3) := by decide +kernel
theorem d_X_rests_4 : decode cX11_rests 4 = .ok (.istore_n 3, 1) := by decide +kernel
theorem d_X_rests_5 : decode cX11_rests 5 = .ok (.iload_n 1, 1) := by decide +kernel
theorem d_X_rests_6 : decode cX11_rests 6 = .ok (.ifCond .lt 31, 3) := by decide +kernel
theorem d_X_rests_9 : decode cX11_rests 9 = .ok (.iload_n 1, 1) := by decide +kernel
theorem d_X_rests_10 : decode cX11_rests 10 = .ok (.iconst 1, 1) := by decide +kernel
theorem d_X_rests_11 : decode cX11_rests 11 = .ok (.aload_n 0, 1) := by decide +kernel
theorem d_X_rests_12 : decode cX11_rests 12 = .ok (.getfield 81, 3) := by decide +kernel
theorem d_X_rests_15 : decode cX11_rests 15 = .ok (.getfield 304, 3) := by decide +kernel
theorem d_X_rests_18 : decode cX11_rests 18 = .ok (.ishl, 1) := by decide +kernel
theorem d_X_rests_19 : decode cX11_rests 19 = .ok (.if_icmp .ge 18, 3) := by decide +kernel
theorem d_X_rests_22 : decode cX11_rests 22 = .ok (.iload_n 3, 1) := by decide +kernel
theorem d_X_rests_23 : decode cX11_rests 23 = .ok (.iconst 2, 1) := by decide +kernel
theorem d_X_rests_24 : decode cX11_rests 24 = .ok (.if_icmp .lt 13, 3) := by decide +kernel
theorem d_X_rests_27 : decode cX11_rests 27 = .ok (.iload_n 3, 1) := by decide +kernel
theorem d_X_rests_28 : decode cX11_rests 28 = .ok (.iconst 3, 1) := by decide +kernel
theorem d_X_rests_29 : decode cX11_rests 29 = .ok (.if_icmp .gt 8, 3) := by decide +kernel
theorem d_X_rests_32 : decode cX11_rests 32 = .ok (.iload_n 2, 1) := by decide +kernel
theorem d_X_rests_33 : decode cX11_rests 33 = .ok (.iconst (-1), 1) := by decide +kernel
theorem d_X_rests_34 : decode cX11_rests 34 = .ok (.if_icmp .ge 5, 3) := by decide +kernel
theorem d_X_rests_37 : decode cX11_rests 37 = .ok (.iconst (-1), 1) := by decide +kernel
theorem d_X_rests_38 : decode cX11_rests 38 = .ok (.ireturn, 1) := by decide +kernel
theorem d_X_rests_39 : decode cX11_rests 39 = .ok (.aload_n 0, 1) := by decide +kernel
theorem d_X_rests_40 : decode cX11_rests 40 = .ok (.getfield 57, 3) := by decide +kernel
theorem d_X_rests_43 : decode cX11_rests 43 = .ok (.aload_n 0, 1) := by decide +kernel
theorem d_X_rests_44 : decode cX11_rests 44 = .ok (.getfield 81, 3) := by decide +kernel
theorem d_X_rests_47 : decode cX11_rests 47 = .ok (.aload_n 0, 1) := by decide +kernel
theorem d_X_rests_48 : decode cX11_rests 48 = .ok (.getfield 19, 3) := by decide +kernel
theorem d_X_rests_51 : decode cX11_rests 51 = .ok (.iload_n 1, 1) := by decide +kernel
theorem d_X_rests_52 : decode cX11_rests 52 = .ok (.invokevirtual 307, 3) := by decide +kernel
theorem d_X_rests_55 : decode cX11_rests 55 = .ok (.aload_n 0, 1) := by decide +kernel
theorem d_X_rests_56 : decode cX11_rests 56 = .ok (.getfield 57, 3) := by decide +kernel
theorem d_X_rests_59 : decode cX11_rests 59 = .ok (.aload_n 0, 1) := by decide +kernel
theorem d_X_rests_60 : decode cX11_rests 60 = .ok (.aload_n 0, 1) := by decide +kernel
theorem d_X_rests_61 : decode cX11_rests 61 = .ok (.getfield 19, 3) := by decide +kernel
theorem d_X_rests_64 : decode cX11_rests 64 = .ok (.invokevirtual 153, 3) := by decide +kernel
theorem d_X_rests_67 : decode cX11_rests 67 = .ok (.iload_n 2, 1) := by decide +kernel
theorem d_X_rests_68 : decode cX11_rests 68 = .ok (.invokevirtual 311, 3) := by decide +kernel
theorem d_X_rests_71 : decode cX11_rests 71 = .ok (.ireturn, 1) := by decide +kernel
noncomputable def f_X_rests (x1 : Int32) (x2 : Int32) (h : mm_H) : Option (Int32 × mm_H) := (f_JI_bitCount x1).bind fun v2 => if x1 < 0 then (some ((-1), h)) else ((mm_gT h 14).bind fun t3 => if ((1 : Int32) <<< ((h.1 t3 0) &&& 31)) ≤ x1 then (some ((-1), h)) else (if v2 < 2 then (some ((-1), h)) else (if 3 < v2 then (some ((-1), h)) else (if (-1) ≤ x2 then ((mm_gT h 14).bind fun t5 => (f_Fe_invite t5 35 x1 h).bind fun v8 => (f_X_weighed 35 v8).bind fun v10 => (f_Fe_atRest 76 x2 v10).bind fun v12 => some (v12.1, v12.2)) else (some ((-1), h))))))
theorem T_X_rests (V : mm_V) (l : Launch) (x1 : Int32) (x2 : Int32) (h : mm_H) (r : (Int32 × mm_H)) (hf : f_X_rests x1 x2 h = some r) : MT V l Y_X_rests 6 [.ref 32, .int x1, .int x2] (fun r1 h1 => r1 = some (.int r.1) ∧ h1 = r.2) h := by
  unfold f_X_rests at hf
  refine MT.intro (pn_X rfl) [(0, .ref 32), (1, .int x1), (2, .int x2)] rfl (Nat.le_of_ble_eq_true rfl) ?_
  generalize hZ : mm_Z V _ = Z0
  refine MM.iload_n (i := 1) rfl rfl d_X_rests_0 rfl ?_
  obtain ⟨v2, e1, hf⟩ := mm_bind hf
  refine MM.callS1 (T_JI_bitCount V l x1 h _ e1) (fun _ _ q => q) cal_JI_bitCount rfl ww_893 ww_1040 (by decide) (by simp [Value.category]) d_X_rests_1 rfl ⟨rfl, rfl⟩ rfl ?_
  refine MM.istore_n (i := 3) (lv' := [(3, .int v2), (0, .ref 32), (1, .int x1), (2, .int x2)]) rfl rfl (Nat.le_of_ble_eq_true rfl) rfl d_X_rests_4 rfl ?_
  refine MM.iload_n (i := 1) rfl rfl d_X_rests_5 rfl ?_
  obtain ⟨m26, m27⟩ := mm_ifE hf
  refine MM.if_lt (tgt := 37) d_X_rests_6 rfl rfl (fun c25 => ?_) (fun c25 => ?_)
  · replace hf := m26 c25
    refine MM.iconst ic_m1 d_X_rests_37 rfl ?_
    obtain rfl := Option.some.inj hf
    subst hZ
    exact MM.iret rfl d_X_rests_38 ⟨rfl, rfl⟩
  · replace hf := m27 c25
    refine MM.iload_n (i := 1) rfl rfl d_X_rests_9 rfl ?_
    refine MM.iconst ic_1 d_X_rests_10 rfl ?_
    refine MM.aload_n (i := 0) rfl rfl d_X_rests_11 rfl ?_
    obtain ⟨t3, e4, hf⟩ := mm_bind hf
    obtain ⟨e4, t_t3⟩ := mm_gTE e4
    refine MM.gT e4 tg_32 tq_14 lays_8 ww_486 d_X_rests_12 rfl ?_
    refine MM.getI 7 t_t3 lays_7 gq_7_0 ww_369 d_X_rests_15 rfl ?_
    refine MM.ishl d_X_rests_18 rfl ?_
    obtain ⟨m23, m24⟩ := mm_ifE hf
    refine MM.icmp_ge (tgt := 37) d_X_rests_19 rfl rfl (fun c22 => ?_) (fun c22 => ?_)
    · replace hf := m23 c22
      refine MM.iconst ic_m1 d_X_rests_37 rfl ?_
      obtain rfl := Option.some.inj hf
      subst hZ
      exact MM.iret rfl d_X_rests_38 ⟨rfl, rfl⟩
    · replace hf := m24 c22
      refine MM.iload_n (i := 3) rfl rfl d_X_rests_22 rfl ?_
      refine MM.iconst ic_2 d_X_rests_23 rfl ?_
      obtain ⟨m20, m21⟩ := mm_ifE hf
      refine MM.icmp_lt (tgt := 37) d_X_rests_24 rfl rfl (fun c19 => ?_) (fun c19 => ?_)
      · replace hf := m20 c19
        refine MM.iconst ic_m1 d_X_rests_37 rfl ?_
        obtain rfl := Option.some.inj hf
        subst hZ
        exact MM.iret rfl d_X_rests_38 ⟨rfl, rfl⟩
      · replace hf := m21 c19
        refine MM.iload_n (i := 3) rfl rfl d_X_rests_27 rfl ?_
        refine MM.iconst ic_3 d_X_rests_28 rfl ?_
        obtain ⟨m17, m18⟩ := mm_ifE hf
        refine MM.icmp_gt (tgt := 37) d_X_rests_29 rfl rfl (fun c16 => ?_) (fun c16 => ?_)
        · replace hf := m17 c16
          refine MM.iconst ic_m1 d_X_rests_37 rfl ?_
          obtain rfl := Option.some.inj hf
          subst hZ
          exact MM.iret rfl d_X_rests_38 ⟨rfl, rfl⟩
        · replace hf := m18 c16
          refine MM.iload_n (i := 2) rfl rfl d_X_rests_32 rfl ?_
          refine MM.iconst ic_m1 d_X_rests_33 rfl ?_
          obtain ⟨m14, m15⟩ := mm_ifE hf
          refine MM.icmp_ge (tgt := 39) d_X_rests_34 rfl rfl (fun c13 => ?_) (fun c13 => ?_)
          · replace hf := m14 c13
            refine MM.aload_n (i := 0) rfl rfl d_X_rests_39 rfl ?_
            refine MM.gR 8 36 tg_32 rq_8_9 rfl lays_8 ww_481 d_X_rests_40 rfl ?_
            refine MM.aload_n (i := 0) rfl rfl d_X_rests_43 rfl ?_
            obtain ⟨t5, e6, hf⟩ := mm_bind hf
            obtain ⟨e6, t_t5⟩ := mm_gTE e6
            refine MM.gT e6 tg_32 tq_14 lays_8 ww_486 d_X_rests_44 rfl ?_
            refine MM.aload_n (i := 0) rfl rfl d_X_rests_47 rfl ?_
            refine MM.gR 8 3 tg_32 rq_8_1 rfl lays_8 ww_473 d_X_rests_48 rfl ?_
            refine MM.iload_n (i := 1) rfl rfl d_X_rests_51 rfl ?_
            obtain ⟨v8, e7, hf⟩ := mm_bind hf
            refine MM.callV0 (T_Fe_invite V l t5 35 x1 h _ e7) (fun _ _ q => q) cal_Fe_invite rfl tg_68 ct_1 ww_1184 ww_1183 ww_1182 (by decide) (by simp [Value.category]) d_X_rests_52 rfl ⟨rfl, rfl⟩ rfl ?_
            refine MM.aload_n (i := 0) rfl rfl d_X_rests_55 rfl ?_
            refine MM.gR 8 36 tg_32 rq_8_9 rfl lays_8 ww_481 d_X_rests_56 rfl ?_
            refine MM.aload_n (i := 0) rfl rfl d_X_rests_59 rfl ?_
            refine MM.aload_n (i := 0) rfl rfl d_X_rests_60 rfl ?_
            refine MM.gR 8 3 tg_32 rq_8_1 rfl lays_8 ww_473 d_X_rests_61 rfl ?_
            obtain ⟨v10, e9, hf⟩ := mm_bind hf
            refine MM.callV1 (T_X_weighed V l 35 v8 _ e9) (fun _ _ q => q) cal_X_weighed rfl tg_32 ct_8 ww_8 ww_900 ww_898 (by decide) (by simp [Value.category]) d_X_rests_64 rfl ⟨rfl, rfl⟩ rfl ?_
            refine MM.iload_n (i := 2) rfl rfl d_X_rests_67 rfl ?_
            obtain ⟨v12, e11, hf⟩ := mm_bind hf
            refine MM.callV1 (T_Fe_atRest V l 76 x2 v10 _ e11) (fun _ _ q => q) cal_Fe_atRest rfl tg_68 ct_1 ww_1190 ww_1189 ww_1188 (by decide) (by simp [Value.category]) d_X_rests_68 rfl ⟨rfl, rfl⟩ rfl ?_
            obtain rfl := Option.some.inj hf
            subst hZ
            exact MM.iret rfl d_X_rests_71 ⟨rfl, rfl⟩
          · replace hf := m15 c13
            refine MM.iconst ic_m1 d_X_rests_37 rfl ?_
            obtain rfl := Option.some.inj hf
            subst hZ
            exact MM.iret rfl d_X_rests_38 ⟨rfl, rfl⟩
theorem d_X_draw_0 : decode cX11_draw 0 = .ok (.aload_n 0, 1) := by decide +kernel
theorem d_X_draw_1 : decode cX11_draw 1 = .ok (.aload_n 0, 1) := by decide +kernel
theorem d_X_draw_2 : decode cX11_draw 2 = .ok (.getfield 98, 3) := by decide +kernel
theorem d_X_draw_5 : decode cX11_draw 5 = .ok (.ldc2_w 422, 3) := by decide +kernel
theorem d_X_draw_8 : decode cX11_draw 8 = .ok (.lmul, 1) := by decide +kernel
theorem d_X_draw_9 : decode cX11_draw 9 = .ok (.ldc2_w 424, 3) := by decide +kernel
theorem d_X_draw_12 : decode cX11_draw 12 = .ok (.ladd, 1) := by decide +kernel
theorem d_X_draw_13 : decode cX11_draw 13 = .ok (.ldc2_w 426, 3) := by decide +kernel
theorem d_X_draw_16 : decode cX11_draw 16 = .ok (.land, 1) := by decide +kernel
theorem d_X_draw_17 : decode cX11_draw 17 = .ok (.putfield 98, 3) := by decide +kernel
theorem d_X_draw_20 : decode cX11_draw 20 = .ok (.iload_n 1, 1) := by decide +kernel
theorem d_X_draw_21 : decode cX11_draw 21 = .ok (.ifCond .gt 7, 3) := by decide +kernel
theorem d_X_draw_24 : decode cX11_draw 24 = .ok (.iconst 0, 1) := by decide +kernel
theorem d_X_draw_25 : decode cX11_draw 25 = .ok (.goto 14, 3) := by decide +kernel
theorem d_X_draw_28 : decode cX11_draw 28 = .ok (.aload_n 0, 1) := by decide +kernel
theorem d_X_draw_29 : decode cX11_draw 29 = .ok (.getfield 98, 3) := by decide +kernel
theorem d_X_draw_32 : decode cX11_draw 32 = .ok (.ldc2_w 428, 3) := by decide +kernel
theorem d_X_draw_35 : decode cX11_draw 35 = .ok (.ldiv, 1) := by decide +kernel
theorem d_X_draw_36 : decode cX11_draw 36 = .ok (.l2i, 1) := by decide +kernel
theorem d_X_draw_37 : decode cX11_draw 37 = .ok (.iload_n 1, 1) := by decide +kernel
theorem d_X_draw_38 : decode cX11_draw 38 = .ok (.irem, 1) := by decide +kernel
theorem d_X_draw_39 : decode cX11_draw 39 = .ok (.ireturn, 1) := by decide +kernel
noncomputable def f_X_draw (x1 : Int32) (h : mm_H) : Option (Int32 × mm_H) := mm_let (mm_pL h 32 19 ((((h.2.1 32 19) * 1103515245) + 12345) &&& 2147483647)) fun h1 => if 0 < x1 then ((mm_nzI x1).bind fun _ => some (((Int64.toInt32 ((h1.2.1 32 19) / 65536)) - (Int64.toInt32 ((h1.2.1 32 19) / 65536)) / x1 * x1), h1)) else (some (0, h1))
theorem T_X_draw (V : mm_V) (l : Launch) (x1 : Int32) (h : mm_H) (r : (Int32 × mm_H)) (hf : f_X_draw x1 h = some r) : MT V l Y_X_draw 1 [.ref 32, .int x1] (fun r1 h1 => r1 = some (.int r.1) ∧ h1 = r.2) h := by
  unfold f_X_draw at hf
  refine MT.intro (pn_X rfl) [(0, .ref 32), (1, .int x1)] rfl (Nat.le_of_ble_eq_true rfl) ?_
  generalize hZ : mm_Z V _ = Z0
  refine MM.aload_n (i := 0) rfl rfl d_X_draw_0 rfl ?_
  refine MM.aload_n (i := 0) rfl rfl d_X_draw_1 rfl ?_
  refine MM.getL 8 tg_32 lays_8 gq_8_19 ww_491 d_X_draw_2 rfl ?_
  refine MM.ldc2 ww_1224 d_X_draw_5 rfl ?_
  refine MM.lmul d_X_draw_8 rfl ?_
  refine MM.ldc2 ww_1225 d_X_draw_9 rfl ?_
  refine MM.ladd d_X_draw_12 rfl ?_
  refine MM.ldc2 ww_1226 d_X_draw_13 rfl ?_
  refine MM.land d_X_draw_16 rfl ?_
  obtain ⟨h1, e2, hf⟩ := mm_letE hf
  refine MM.putL e2 8 tg_32 lays_8 toks_8 pq_8_19 ww_491 d_X_draw_17 rfl ?_
  refine MM.iload_n (i := 1) rfl rfl d_X_draw_20 rfl ?_
  obtain ⟨m6, m7⟩ := mm_ifE hf
  refine MM.if_gt (tgt := 28) d_X_draw_21 rfl rfl (fun c5 => ?_) (fun c5 => ?_)
  · replace hf := m6 c5
    refine MM.aload_n (i := 0) rfl rfl d_X_draw_28 rfl ?_
    refine MM.getL 8 tg_32 lays_8 gq_8_19 ww_491 d_X_draw_29 rfl ?_
    refine MM.ldc2 ww_1227 d_X_draw_32 rfl ?_
    refine MM.ldiv (by decide) d_X_draw_35 rfl ?_
    refine MM.l2i d_X_draw_36 rfl ?_
    refine MM.iload_n (i := 1) rfl rfl d_X_draw_37 rfl ?_
    obtain ⟨u3, e4, hf⟩ := mm_bind hf
    refine MM.irem (mm_nzIE e4) d_X_draw_38 rfl ?_
    obtain rfl := Option.some.inj hf
    subst hZ
    exact MM.iret rfl d_X_draw_39 ⟨rfl, rfl⟩
  · replace hf := m7 c5
    refine MM.iconst ic_0 d_X_draw_24 rfl ?_
    refine MM.goto (tgt := 39) d_X_draw_25 rfl ?_
    obtain rfl := Option.some.inj hf
    subst hZ
    exact MM.iret rfl d_X_draw_39 ⟨rfl, rfl⟩
theorem d_X_useEar_0 : decode cX11_useEar 0 = .ok (.aload_n 0, 1) := by decide +kernel
theorem d_X_useEar_1 : decode cX11_useEar 1 = .ok (.bipush 10, 2) := by decide +kernel
theorem d_X_useEar_3 : decode cX11_useEar 3 = .ok (.invokevirtual 419, 3) := by decide +kernel
theorem d_X_useEar_6 : decode cX11_useEar 6 = .ok (.aload_n 0, 1) := by decide +kernel
theorem d_X_useEar_7 : decode cX11_useEar 7 = .ok (.getfield 81, 3) := by decide +kernel
theorem d_X_useEar_10 : decode cX11_useEar 10 = .ok (.iload_n 1, 1) := by decide +kernel
theorem d_X_useEar_11 : decode cX11_useEar 11 = .ok (.iload_n 2, 1) := by decide +kernel
theorem d_X_useEar_12 : decode cX11_useEar 12 = .ok (.invokevirtual 213, 3) := by decide +kernel
theorem d_X_useEar_15 : decode cX11_useEar 15 = .ok (.if_icmp .ge 13, 3) := by decide +kernel
theorem d_X_useEar_18 : decode cX11_useEar 18 = .ok (.aload_n 0, 1) := by decide +kernel
theorem d_X_useEar_19 : decode cX11_useEar 19 = .ok (.getfield 81, 3) := by decide +kernel
theorem d_X_useEar_22 : decode cX11_useEar 22 = .ok (.getfield 319, 3) := by decide +kernel
theorem d_X_useEar_25 : decode cX11_useEar 25 = .ok (.ifCond .ne 5, 3) := by decide +kernel
theorem d_X_useEar_28 : decode cX11_useEar 28 = .ok (.iconst 0, 1) := by decide +kernel
theorem d_X_useEar_29 : decode cX11_useEar 29 = .ok (.ireturn, 1) := by decide +kernel
theorem d_X_useEar_30 : decode cX11_useEar 30 = .ok (.aload_n 0, 1) := by decide +kernel
theorem d_X_useEar_31 : decode cX11_useEar 31 = .ok (.aload_n 0, 1) := by decide +kernel
theorem d_X_useEar_32 : decode cX11_useEar 32 = .ok (.getfield 81, 3) := by decide +kernel
theorem d_X_useEar_35 : decode cX11_useEar 35 = .ok (.getfield 319, 3) := by decide +kernel
theorem d_X_useEar_38 : decode cX11_useEar 38 = .ok (.invokevirtual 419, 3) := by decide +kernel
theorem d_X_useEar_41 : decode cX11_useEar 41 = .ok (.istore_n 3, 1) := by decide +kernel
theorem d_X_useEar_42 : decode cX11_useEar 42 = .ok (.aload_n 0, 1) := by decide +kernel
theorem d_X_useEar_43 : decode cX11_useEar 43 = .ok (.getfield 23, 3) := by decide +kernel
theorem d_X_useEar_46 : decode cX11_useEar 46 = .ok (.aload_n 0, 1) := by decide +kernel
theorem d_X_useEar_47 : decode cX11_useEar 47 = .ok (.getfield 81, 3) := by decide +kernel
theorem d_X_useEar_50 : decode cX11_useEar 50 = .ok (.iload_n 1, 1) := by decide +kernel
theorem d_X_useEar_51 : decode cX11_useEar 51 = .ok (.iload_n 2, 1) := by decide +kernel
theorem d_X_useEar_52 : decode cX11_useEar 52 = .ok (.iload_n 3, 1) := by decide +kernel
theorem d_X_useEar_53 : decode cX11_useEar 53 = .ok (.invokevirtual 216, 3) := by decide +kernel
theorem d_X_useEar_56 : decode cX11_useEar 56 = .ok (.ifCond .ne 5, 3) := by decide +kernel
theorem d_X_useEar_59 : decode cX11_useEar 59 = .ok (.iconst 0, 1) := by decide +kernel
theorem d_X_useEar_60 : decode cX11_useEar 60 = .ok (.ireturn, 1) := by decide +kernel
theorem d_X_useEar_61 : decode cX11_useEar 61 = .ok (.aload_n 0, 1) := by decide +kernel
theorem d_X_useEar_62 : decode cX11_useEar 62 = .ok (.getfield 23, 3) := by decide +kernel
theorem d_X_useEar_65 : decode cX11_useEar 65 = .ok (.aload_n 0, 1) := by decide +kernel
theorem d_X_useEar_66 : decode cX11_useEar 66 = .ok (.getfield 81, 3) := by decide +kernel
theorem d_X_useEar_69 : decode cX11_useEar 69 = .ok (.iload_n 1, 1) := by decide +kernel
theorem d_X_useEar_70 : decode cX11_useEar 70 = .ok (.iload_n 2, 1) := by decide +kernel
theorem d_X_useEar_71 : decode cX11_useEar 71 = .ok (.iload_n 3, 1) := by decide +kernel
theorem d_X_useEar_72 : decode cX11_useEar 72 = .ok (.invokevirtual 223, 3) := by decide +kernel
theorem d_X_useEar_75 : decode cX11_useEar 75 = .ok (.iconst 1, 1) := by decide +kernel
theorem d_X_useEar_76 : decode cX11_useEar 76 = .ok (.ireturn, 1) := by decide +kernel
noncomputable def f_X_useEar (x1 : Int32) (x2 : Int32) (h : mm_H) : Option (Int32 × mm_H) := (f_X_draw 10 h).bind fun v2 => (mm_gT v2.2 14).bind fun t3 => (f_To_chance t3 x1 x2 v2.2).bind fun v6 => if v6 ≤ v2.1 then (some (0, v2.2)) else ((mm_gT v2.2 14).bind fun t7 => if (v2.2.1 t7 6) = 0 then (some (0, v2.2)) else ((mm_gT v2.2 14).bind fun t9 => (f_X_draw (v2.2.1 t9 6) v2.2).bind fun v12 => (mm_gT v12.2 14).bind fun t13 => (f_St_mayTell 41 t13 x1 x2 v12.1 v12.2).bind fun v16 => if v16 = 0 then (some (0, v12.2)) else ((mm_gT v12.2 14).bind fun t17 => (f_St_whisper 41 t17 x1 x2 v12.1 v12.2).bind fun v20 => some (1, v20))))
theorem T_X_useEar (V : mm_V) (l : Launch) (x1 : Int32) (x2 : Int32) (h : mm_H) (r : (Int32 × mm_H)) (hf : f_X_useEar x1 x2 h = some r) : MT V l Y_X_useEar 4 [.ref 32, .int x1, .int x2] (fun r1 h1 => r1 = some (.int r.1) ∧ h1 = r.2) h := by
  unfold f_X_useEar at hf
  refine MT.intro (pn_X rfl) [(0, .ref 32), (1, .int x1), (2, .int x2)] rfl (Nat.le_of_ble_eq_true rfl) ?_
  generalize hZ : mm_Z V _ = Z0
  refine MM.aload_n (i := 0) rfl rfl d_X_useEar_0 rfl ?_
  refine MM.bipush bp_10 d_X_useEar_1 rfl ?_
  obtain ⟨v2, e1, hf⟩ := mm_bind hf
  refine MM.callV1 (T_X_draw V l 10 h _ e1) (fun _ _ q => q) cal_X_draw rfl tg_32 ct_8 ww_28 ww_1222 ww_1220 (by decide) (by simp [Value.category]) d_X_useEar_3 rfl ⟨rfl, rfl⟩ rfl ?_
  refine MM.aload_n (i := 0) rfl rfl d_X_useEar_6 rfl ?_
  obtain ⟨t3, e4, hf⟩ := mm_bind hf
  obtain ⟨e4, t_t3⟩ := mm_gTE e4
  refine MM.gT e4 tg_32 tq_14 lays_8 ww_486 d_X_useEar_7 rfl ?_
  refine MM.iload_n (i := 1) rfl rfl d_X_useEar_10 rfl ?_
  refine MM.iload_n (i := 2) rfl rfl d_X_useEar_11 rfl ?_
  obtain ⟨v6, e5, hf⟩ := mm_bind hf
  refine MM.callV1 (T_To_chance V l t3 x1 x2 v2.2 _ e5) (fun _ _ q => q) cal_To_chance rfl t_t3 ct_7 ww_946 ww_945 ww_944 (by decide) (by simp [Value.category]) d_X_useEar_12 rfl ⟨rfl, rfl⟩ rfl ?_
  obtain ⟨m28, m29⟩ := mm_ifE hf
  refine MM.icmp_ge (tgt := 28) d_X_useEar_15 rfl rfl (fun c27 => ?_) (fun c27 => ?_)
  · replace hf := m28 c27
    refine MM.iconst ic_0 d_X_useEar_28 rfl ?_
    obtain rfl := Option.some.inj hf
    subst hZ
    exact MM.iret rfl d_X_useEar_29 ⟨rfl, rfl⟩
  · replace hf := m29 c27
    refine MM.aload_n (i := 0) rfl rfl d_X_useEar_18 rfl ?_
    obtain ⟨t7, e8, hf⟩ := mm_bind hf
    obtain ⟨e8, t_t7⟩ := mm_gTE e8
    refine MM.gT e8 tg_32 tq_14 lays_8 ww_486 d_X_useEar_19 rfl ?_
    refine MM.getI 7 t_t7 lays_7 gq_7_6 ww_389 d_X_useEar_22 rfl ?_
    obtain ⟨m25, m26⟩ := mm_ifE hf
    refine MM.if_ne (tgt := 30) d_X_useEar_25 rfl rfl (fun c24 => ?_) (fun c24 => ?_)
    · replace hf := m26 c24
      refine MM.aload_n (i := 0) rfl rfl d_X_useEar_30 rfl ?_
      refine MM.aload_n (i := 0) rfl rfl d_X_useEar_31 rfl ?_
      obtain ⟨t9, e10, hf⟩ := mm_bind hf
      obtain ⟨e10, t_t9⟩ := mm_gTE e10
      refine MM.gT e10 tg_32 tq_14 lays_8 ww_486 d_X_useEar_32 rfl ?_
      refine MM.getI 7 t_t9 lays_7 gq_7_6 ww_389 d_X_useEar_35 rfl ?_
      obtain ⟨v12, e11, hf⟩ := mm_bind hf
      refine MM.callV1 (T_X_draw V l (v2.2.1 t9 6) v2.2 _ e11) (fun _ _ q => q) cal_X_draw rfl tg_32 ct_8 ww_28 ww_1222 ww_1220 (by decide) (by simp [Value.category]) d_X_useEar_38 rfl ⟨rfl, rfl⟩ rfl ?_
      refine MM.istore_n (i := 3) (lv' := [(3, .int v12.1), (0, .ref 32), (1, .int x1), (2, .int x2)]) rfl rfl (Nat.le_of_ble_eq_true rfl) rfl d_X_useEar_41 rfl ?_
      refine MM.aload_n (i := 0) rfl rfl d_X_useEar_42 rfl ?_
      refine MM.gR 8 9 tg_32 rq_8_2 rfl lays_8 ww_474 d_X_useEar_43 rfl ?_
      refine MM.aload_n (i := 0) rfl rfl d_X_useEar_46 rfl ?_
      obtain ⟨t13, e14, hf⟩ := mm_bind hf
      obtain ⟨e14, t_t13⟩ := mm_gTE e14
      refine MM.gT e14 tg_32 tq_14 lays_8 ww_486 d_X_useEar_47 rfl ?_
      refine MM.iload_n (i := 1) rfl rfl d_X_useEar_50 rfl ?_
      refine MM.iload_n (i := 2) rfl rfl d_X_useEar_51 rfl ?_
      refine MM.iload_n (i := 3) rfl rfl d_X_useEar_52 rfl ?_
      obtain ⟨v16, e15, hf⟩ := mm_bind hf
      refine MM.callV1 (T_St_mayTell V l 41 t13 x1 x2 v12.1 v12.2 _ e15) (fun _ _ q => q) cal_St_mayTell rfl tg_41 ct_4 ww_955 ww_954 ww_953 (by decide) (by simp [Value.category]) d_X_useEar_53 rfl ⟨rfl, rfl⟩ rfl ?_
      obtain ⟨m22, m23⟩ := mm_ifE hf
      refine MM.if_ne (tgt := 61) d_X_useEar_56 rfl rfl (fun c21 => ?_) (fun c21 => ?_)
      · replace hf := m23 c21
        refine MM.aload_n (i := 0) rfl rfl d_X_useEar_61 rfl ?_
        refine MM.gR 8 9 tg_32 rq_8_2 rfl lays_8 ww_474 d_X_useEar_62 rfl ?_
        refine MM.aload_n (i := 0) rfl rfl d_X_useEar_65 rfl ?_
        obtain ⟨t17, e18, hf⟩ := mm_bind hf
        obtain ⟨e18, t_t17⟩ := mm_gTE e18
        refine MM.gT e18 tg_32 tq_14 lays_8 ww_486 d_X_useEar_66 rfl ?_
        refine MM.iload_n (i := 1) rfl rfl d_X_useEar_69 rfl ?_
        refine MM.iload_n (i := 2) rfl rfl d_X_useEar_70 rfl ?_
        refine MM.iload_n (i := 3) rfl rfl d_X_useEar_71 rfl ?_
        obtain ⟨v20, e19, hf⟩ := mm_bind hf
        refine MM.callV0 (T_St_whisper V l 41 t17 x1 x2 v12.1 v12.2 _ e19) (fun _ _ q => q) cal_St_whisper rfl tg_41 ct_4 ww_974 ww_973 ww_972 (by decide) (by simp [Value.category]) d_X_useEar_72 rfl ⟨rfl, rfl⟩ rfl ?_
        refine MM.iconst ic_1 d_X_useEar_75 rfl ?_
        obtain rfl := Option.some.inj hf
        subst hZ
        exact MM.iret rfl d_X_useEar_76 ⟨rfl, rfl⟩
      · replace hf := m22 c21
        refine MM.iconst ic_0 d_X_useEar_59 rfl ?_
        obtain rfl := Option.some.inj hf
        subst hZ
        exact MM.iret rfl d_X_useEar_60 ⟨rfl, rfl⟩
    · replace hf := m25 c24
      refine MM.iconst ic_0 d_X_useEar_28 rfl ?_
      obtain rfl := Option.some.inj hf
      subst hZ
      exact MM.iret rfl d_X_useEar_29 ⟨rfl, rfl⟩
theorem d_X_quarterDay_0 : decode cX11_quarterDay 0 = .ok (.aload_n 0, 1) := by decide +kernel
theorem d_X_quarterDay_1 : decode cX11_quarterDay 1 = .ok (.getfield 50, 3) := by decide +kernel
theorem d_X_quarterDay_4 : decode cX11_quarterDay 4 = .ok (.aload_n 0, 1) := by decide +kernel
theorem d_X_quarterDay_5 : decode cX11_quarterDay 5 = .ok (.getfield 81, 3) := by decide +kernel
theorem d_X_quarterDay_8 : decode cX11_quarterDay 8 = .ok (.aload_n 0, 1) := by decide +kernel
theorem d_X_quarterDay_9 : decode cX11_quarterDay 9 = .ok (.aload_n 0, 1) := by decide +kernel
theorem d_X_quarterDay_10 : decode cX11_quarterDay 10 = .ok (.getfield 23, 3) := by decide +kernel
theorem d_X_quarterDay_13 : decode cX11_quarterDay 13 = .ok (.invokevirtual 153, 3) := by decide +kernel
theorem d_X_quarterDay_16 : decode cX11_quarterDay 16 = .ok (.invokevirtual 258, 3) := by decide +kernel
theorem d_X_quarterDay_19 : decode cX11_quarterDay 19 = .ok (.iconst 0, 1) := by decide +kernel
theorem d_X_quarterDay_20 : decode cX11_quarterDay 20 = .ok (.istore_n 1, 1) := by decide +kernel
theorem d_X_quarterDay_21 : decode cX11_quarterDay 21 = .ok (.iload_n 1, 1) := by decide +kernel
theorem d_X_quarterDay_22 : decode cX11_quarterDay 22 = .ok (.aload_n 0, 1) := by decide +kernel
theorem d_X_quarterDay_23 : decode cX11_quarterDay 23 = .ok (.getfield 81, 3) := by decide +kernel
theorem d_X_quarterDay_26 : decode cX11_quarterDay 26 = .ok (.getfield 304, 3) := by decide +kernel
theorem d_X_quarterDay_29 : decode cX11_quarterDay 29 = .ok (.if_icmp .ge 56, 3) := by decide +kernel
theorem d_X_quarterDay_32 : decode cX11_quarterDay 32 = .ok (.aload_n 0, 1) := by decide +kernel
theorem d_X_quarterDay_33 : decode cX11_quarterDay 33 = .ok (.getfield 81, 3) := by decide +kernel
theorem d_X_quarterDay_36 : decode cX11_quarterDay 36 = .ok (.getfield 146, 3) := by decide +kernel
theorem d_X_quarterDay_39 : decode cX11_quarterDay 39 = .ok (.iload_n 1, 1) := by decide +kernel
theorem d_X_quarterDay_40 : decode cX11_quarterDay 40 = .ok (.iaload, 1) := by decide +kernel
theorem d_X_quarterDay_41 : decode cX11_quarterDay 41 = .ok (.ifCond .le 22, 3) := by decide +kernel
theorem d_X_quarterDay_44 : decode cX11_quarterDay 44 = .ok (.aload_n 0, 1) := by decide +kernel
theorem d_X_quarterDay_45 : decode cX11_quarterDay 45 = .ok (.getfield 50, 3) := by decide +kernel
theorem d_X_quarterDay_48 : decode cX11_quarterDay 48 = .ok (.aload_n 0, 1) := by decide +kernel
theorem d_X_quarterDay_49 : decode cX11_quarterDay 49 = .ok (.getfield 81, 3) := by decide +kernel
theorem d_X_quarterDay_52 : decode cX11_quarterDay 52 = .ok (.aload_n 0, 1) := by decide +kernel
theorem d_X_quarterDay_53 : decode cX11_quarterDay 53 = .ok (.getfield 23, 3) := by decide +kernel
theorem d_X_quarterDay_56 : decode cX11_quarterDay 56 = .ok (.iload_n 1, 1) := by decide +kernel
theorem d_X_quarterDay_57 : decode cX11_quarterDay 57 = .ok (.invokevirtual 262, 3) := by decide +kernel
theorem d_X_quarterDay_60 : decode cX11_quarterDay 60 = .ok (.goto 4, 3) := by decide +kernel
theorem d_X_quarterDay_63 : decode cX11_quarterDay 63 = .ok (.iconst (-1), 1) := by decide +kernel
theorem d_X_quarterDay_64 : decode cX11_quarterDay 64 = .ok (.istore_n 2, 1) := by decide +kernel
theorem d_X_quarterDay_65 : decode cX11_quarterDay 65 = .ok (.iload_n 2, 1) := by decide +kernel
theorem d_X_quarterDay_66 : decode cX11_quarterDay 66 = .ok (.iconst (-1), 1) := by decide +kernel
theorem d_X_quarterDay_67 : decode cX11_quarterDay 67 = .ok (.if_icmp .eq 12, 3) := by decide +kernel
theorem d_X_quarterDay_70 : decode cX11_quarterDay 70 = .ok (.aload_n 0, 1) := by decide +kernel
theorem d_X_quarterDay_71 : decode cX11_quarterDay 71 = .ok (.getfield 23, 3) := by decide +kernel
theorem d_X_quarterDay_74 : decode cX11_quarterDay 74 = .ok (.iload_n 1, 1) := by decide +kernel
theorem d_X_quarterDay_75 : decode cX11_quarterDay 75 = .ok (.iload_n 2, 1) := by decide +kernel
theorem d_X_quarterDay_76 : decode cX11_quarterDay 76 = .ok (.invokevirtual 231, 3) := by decide +kernel
theorem d_X_quarterDay_79 : decode cX11_quarterDay 79 = .ok (.iinc 1 1, 3) := by decide +kernel
theorem d_X_quarterDay_82 : decode cX11_quarterDay 82 = .ok (.goto (-61), 3) := by decide +kernel
theorem d_X_quarterDay_85 : decode cX11_quarterDay 85 = .ok (.aload_n 0, 1) := by decide +kernel
theorem d_X_quarterDay_86 : decode cX11_quarterDay 86 = .ok (.getfield 23, 3) := by decide +kernel
theorem d_X_quarterDay_89 : decode cX11_quarterDay 89 = .ok (.aload_n 0, 1) := by decide +kernel
theorem d_X_quarterDay_90 : decode cX11_quarterDay 90 = .ok (.getfield 81, 3) := by decide +kernel
theorem d_X_quarterDay_93 : decode cX11_quarterDay 93 = .ok (.invokevirtual 235, 3) := by decide +kernel
theorem d_X_quarterDay_96 : decode cX11_quarterDay 96 = .ok (.ireturn, 1) := by decide +kernel
noncomputable def f_X_quarterDay (h : mm_H) : Option (Int32 × mm_H) := (mm_gT h 14).bind fun t1 => (f_X_weighed 41 h).bind fun v4 => (f_Co_weighSets t1 76 v4).bind fun v6 => (mm_while (σ := (Int32 × mm_H)) (ρ := mm_H) (fun s7 => (mm_gT s7.2 14).bind fun t13 => if (s7.2.1 t13 0) ≤ s7.1 then (some (Sum.inr s7.2)) else ((mm_gT s7.2 14).bind fun t15 => (mm_ix s7.1 6).bind fun k17 => (if (s7.2.1 (t15 + 4) k17) ≤ 0 then (some (-1)) else ((mm_gT s7.2 14).bind fun t21 => (f_Co_fewest t21 41 s7.1 s7.2).bind fun v24 => some v24) : Option Int32).bind fun j19 => (if j19 = (-1) then (some s7.2) else ((f_St_take 41 s7.1 j19 s7.2).bind fun v31 => some v31) : Option mm_H).bind fun j28 => mm_let (s7.1 + 1) fun y35 => some (Sum.inl (y35, j28)))) (0, v6)).bind fun v10 => (mm_gT v10 14).bind fun t42 => (f_St_endQuarter 41 t42 v10).bind fun v45 => some (v45.1, v45.2)
theorem T_X_quarterDay (V : mm_V) (l : Launch) (h : mm_H) (r : (Int32 × mm_H)) (hf : f_X_quarterDay h = some r) : MT V l Y_X_quarterDay 6 [.ref 32] (fun r1 h1 => r1 = some (.int r.1) ∧ h1 = r.2) h := by
  unfold f_X_quarterDay at hf
  refine MT.intro (pn_X rfl) [(0, .ref 32)] rfl (Nat.le_of_ble_eq_true rfl) ?_
  generalize hZ : mm_Z V _ = Z0
  refine MM.aload_n (i := 0) rfl rfl d_X_quarterDay_0 rfl ?_
  refine MM.gR 8 32 tg_32 rq_8_8 rfl lays_8 ww_480 d_X_quarterDay_1 rfl ?_
  refine MM.aload_n (i := 0) rfl rfl d_X_quarterDay_4 rfl ?_
  obtain ⟨t1, e2, hf⟩ := mm_bind hf
  obtain ⟨e2, t_t1⟩ := mm_gTE e2
  refine MM.gT e2 tg_32 tq_14 lays_8 ww_486 d_X_quarterDay_5 rfl ?_
  refine MM.aload_n (i := 0) rfl rfl d_X_quarterDay_8 rfl ?_
  refine MM.aload_n (i := 0) rfl rfl d_X_quarterDay_9 rfl ?_
  refine MM.gR 8 9 tg_32 rq_8_2 rfl lays_8 ww_474 d_X_quarterDay_10 rfl ?_
  obtain ⟨v4, e3, hf⟩ := mm_bind hf
  refine MM.callV1 (T_X_weighed V l 41 h _ e3) (fun _ _ q => q) cal_X_weighed rfl tg_32 ct_8 ww_8 ww_900 ww_898 (by decide) (by simp [Value.category]) d_X_quarterDay_13 rfl ⟨rfl, rfl⟩ rfl ?_
  obtain ⟨v6, e5, hf⟩ := mm_bind hf
  refine MM.callV0 (T_Co_weighSets V l t1 76 v4 _ e5) (fun _ _ q => q) cal_Co_weighSets rfl tg_64 ct_0 ww_1055 ww_1054 ww_1053 (by decide) (by simp [Value.category]) d_X_quarterDay_16 rfl ⟨rfl, rfl⟩ rfl ?_
  refine MM.iconst ic_0 d_X_quarterDay_19 rfl ?_
  refine MM.istore_n (i := 1) (lv' := [(1, .int 0), (0, .ref 32)]) rfl rfl (Nat.le_of_ble_eq_true rfl) rfl d_X_quarterDay_20 rfl ?_
  obtain ⟨v10, e12, hf⟩ := mm_bind hf
  have K11 : MM V l Y_X_quarterDay 6 0 0 Z0 85 [(0, .ref 32)] [] v10 := by
    refine MM.aload_n (i := 0) rfl rfl d_X_quarterDay_85 rfl ?_
    refine MM.gR 8 9 tg_32 rq_8_2 rfl lays_8 ww_474 d_X_quarterDay_86 rfl ?_
    refine MM.aload_n (i := 0) rfl rfl d_X_quarterDay_89 rfl ?_
    obtain ⟨t42, e43, hf⟩ := mm_bind hf
    obtain ⟨e43, t_t42⟩ := mm_gTE e43
    refine MM.gT e43 tg_32 tq_14 lays_8 ww_486 d_X_quarterDay_90 rfl ?_
    obtain ⟨v45, e44, hf⟩ := mm_bind hf
    refine MM.callV1 (T_St_endQuarter V l 41 t42 v10 _ e44) (fun _ _ q => q) cal_St_endQuarter rfl tg_41 ct_4 ww_1011 ww_1010 ww_1009 (by decide) (by simp [Value.category]) d_X_quarterDay_93 rfl ⟨rfl, rfl⟩ rfl ?_
    obtain rfl := Option.some.inj hf
    subst hZ
    exact MM.iret rfl d_X_quarterDay_96 ⟨rfl, rfl⟩
  clear hf
  refine MM.sub [1, 0] (by rfl) (mm_while_ind (fun s7 => MM V l Y_X_quarterDay 6 0 0 Z0 21 [(0, .ref 32), (1, .int s7.1)] [] s7.2) e12 (fun s7 q8 hf hx9 => ?_))
  refine MM.iload_n (i := 1) rfl rfl d_X_quarterDay_21 rfl ?_
  refine MM.aload_n (i := 0) rfl rfl d_X_quarterDay_22 rfl ?_
  obtain ⟨t13, e14, hf⟩ := mm_bind hf
  obtain ⟨e14, t_t13⟩ := mm_gTE e14
  refine MM.gT e14 tg_32 tq_14 lays_8 ww_486 d_X_quarterDay_23 rfl ?_
  refine MM.getI 7 t_t13 lays_7 gq_7_0 ww_369 d_X_quarterDay_26 rfl ?_
  obtain ⟨m40, m41⟩ := mm_ifE hf
  refine MM.icmp_ge (tgt := 85) d_X_quarterDay_29 rfl rfl (fun c39 => ?_) (fun c39 => ?_)
  · replace hf := m40 c39
    obtain rfl := Option.some.inj hf
    obtain rfl := Option.some.inj (mm_wxR hx9)
    exact MM.sub [0] (by rfl) K11
  · replace hf := m41 c39
    refine MM.aload_n (i := 0) rfl rfl d_X_quarterDay_32 rfl ?_
    obtain ⟨t15, e16, hf⟩ := mm_bind hf
    obtain ⟨e16, t_t15⟩ := mm_gTE e16
    refine MM.gT e16 tg_32 tq_14 lays_8 ww_486 d_X_quarterDay_33 rfl ?_
    refine MM.gR 7 4 t_t15 rq_7_4 rfl lays_7 ww_380 d_X_quarterDay_36 rfl ?_
    refine MM.iload_n (i := 1) rfl rfl d_X_quarterDay_39 rfl ?_
    obtain ⟨k17, e18, hf⟩ := mm_bind hf
    refine MM.gI e18 (al_7_4f t_t15) d_X_quarterDay_40 rfl ?_
    obtain ⟨j19, e38, hf⟩ := mm_bind hf
    have K20 : MM V l Y_X_quarterDay 6 0 0 Z0 64 [(0, .ref 32), (1, .int s7.1)] [.int j19] s7.2 := by
      refine MM.istore_n (i := 2) (lv' := [(2, .int j19), (0, .ref 32), (1, .int s7.1)]) rfl rfl (Nat.le_of_ble_eq_true rfl) rfl d_X_quarterDay_64 rfl ?_
      refine MM.iload_n (i := 2) rfl rfl d_X_quarterDay_65 rfl ?_
      refine MM.iconst ic_m1 d_X_quarterDay_66 rfl ?_
      obtain ⟨j28, e37, hf⟩ := mm_bind hf
      have K29 : MM V l Y_X_quarterDay 6 0 0 Z0 79 [(0, .ref 32), (1, .int s7.1)] [] j28 := by
        obtain ⟨y35, e36, hf⟩ := mm_letE hf
        refine MM.iinc (k0 := 1) (lv' := [(1, .int y35), (0, .ref 32)]) (by rw [ic_1]; exact e36) rfl (Nat.le_of_ble_eq_true rfl) rfl d_X_quarterDay_79 rfl ?_
        refine MM.goto (tgt := 21) d_X_quarterDay_82 rfl ?_
        obtain rfl := Option.some.inj hf
        have h9 := mm_wxL hx9
        exact MM.sub [1, 0] (by rfl) h9
      clear hf
      have hf := e37
      clear e37
      obtain ⟨m33, m34⟩ := mm_ifE hf
      refine MM.icmp_eq (tgt := 79) d_X_quarterDay_67 rfl rfl (fun c32 => ?_) (fun c32 => ?_)
      · replace hf := m33 c32
        obtain rfl := Option.some.inj hf
        exact MM.sub [1, 2] (by rfl) K29
      · replace hf := m34 c32
        refine MM.aload_n (i := 0) rfl rfl d_X_quarterDay_70 rfl ?_
        refine MM.gR 8 9 tg_32 rq_8_2 rfl lays_8 ww_474 d_X_quarterDay_71 rfl ?_
        refine MM.iload_n (i := 1) rfl rfl d_X_quarterDay_74 rfl ?_
        refine MM.iload_n (i := 2) rfl rfl d_X_quarterDay_75 rfl ?_
        obtain ⟨v31, e30, hf⟩ := mm_bind hf
        refine MM.callV0 (T_St_take V l 41 s7.1 j19 s7.2 _ e30) (fun _ _ q => q) cal_St_take rfl tg_41 ct_4 ww_998 ww_997 ww_996 (by decide) (by simp [Value.category]) d_X_quarterDay_76 rfl ⟨rfl, rfl⟩ rfl ?_
        obtain rfl := Option.some.inj hf
        exact MM.sub [1, 2] (by rfl) K29
    clear hf
    have hf := e38
    clear e38
    obtain ⟨m26, m27⟩ := mm_ifE hf
    refine MM.if_le (tgt := 63) d_X_quarterDay_41 rfl rfl (fun c25 => ?_) (fun c25 => ?_)
    · replace hf := m26 c25
      refine MM.iconst ic_m1 d_X_quarterDay_63 rfl ?_
      obtain rfl := Option.some.inj hf
      exact MM.sub [0, 1] (by rfl) K20
    · replace hf := m27 c25
      refine MM.aload_n (i := 0) rfl rfl d_X_quarterDay_44 rfl ?_
      refine MM.gR 8 32 tg_32 rq_8_8 rfl lays_8 ww_480 d_X_quarterDay_45 rfl ?_
      refine MM.aload_n (i := 0) rfl rfl d_X_quarterDay_48 rfl ?_
      obtain ⟨t21, e22, hf⟩ := mm_bind hf
      obtain ⟨e22, t_t21⟩ := mm_gTE e22
      refine MM.gT e22 tg_32 tq_14 lays_8 ww_486 d_X_quarterDay_49 rfl ?_
      refine MM.aload_n (i := 0) rfl rfl d_X_quarterDay_52 rfl ?_
      refine MM.gR 8 9 tg_32 rq_8_2 rfl lays_8 ww_474 d_X_quarterDay_53 rfl ?_
      refine MM.iload_n (i := 1) rfl rfl d_X_quarterDay_56 rfl ?_
      obtain ⟨v24, e23, hf⟩ := mm_bind hf
      refine MM.callV1 (T_Co_fewest V l t21 41 s7.1 s7.2 _ e23) (fun _ _ q => q) cal_Co_fewest rfl tg_64 ct_0 ww_1059 ww_1058 ww_1057 (by decide) (by simp [Value.category]) d_X_quarterDay_57 rfl ⟨rfl, rfl⟩ rfl ?_
      refine MM.goto (tgt := 64) d_X_quarterDay_60 rfl ?_
      obtain rfl := Option.some.inj hf
      exact MM.sub [0, 1] (by rfl) K20
theorem d_X_live_0 : decode cX11_live 0 = .ok (.aload_n 0, 1) := by decide +kernel
theorem d_X_live_1 : decode cX11_live 1 = .ok (.getfield 23, 3) := by decide +kernel
theorem d_X_live_4 : decode cX11_live 4 = .ok (.aload_n 0, 1) := by decide +kernel
theorem d_X_live_5 : decode cX11_live 5 = .ok (.getfield 19, 3) := by decide +kernel
theorem d_X_live_8 : decode cX11_live 8 = .ok (.invokevirtual 251, 3) := by decide +kernel
theorem d_X_live_11 : decode cX11_live 11 = .ok (.aload_n 0, 1) := by decide +kernel
theorem d_X_live_12 : decode cX11_live 12 = .ok (.iload_n 1, 1) := by decide +kernel
theorem d_X_live_13 : decode cX11_live 13 = .ok (.i2l, 1) := by decide +kernel
theorem d_X_live_14 : decode cX11_live 14 = .ok (.putfield 98, 3) := by decide +kernel
theorem d_X_live_17 : decode cX11_live 17 = .ok (.aload_n 0, 1) := by decide +kernel
theorem d_X_live_18 : decode cX11_live 18 = .ok (.getfield 75, 3) := by decide +kernel
theorem d_X_live_21 : decode cX11_live 21 = .ok (.iconst 0, 1) := by decide +kernel
theorem d_X_live_22 : decode cX11_live 22 = .ok (.iconst 0, 1) := by decide +kernel
theorem d_X_live_23 : decode cX11_live 23 = .ok (.iastore, 1) := by decide +kernel
theorem d_X_live_24 : decode cX11_live 24 = .ok (.aload_n 0, 1) := by decide +kernel
theorem d_X_live_25 : decode cX11_live 25 = .ok (.getfield 75, 3) := by decide +kernel
theorem d_X_live_28 : decode cX11_live 28 = .ok (.iconst 1, 1) := by decide +kernel
theorem d_X_live_29 : decode cX11_live 29 = .ok (.iconst 0, 1) := by decide +kernel
theorem d_X_live_30 : decode cX11_live 30 = .ok (.iastore, 1) := by decide +kernel
theorem d_X_live_31 : decode cX11_live 31 = .ok (.iconst 1, 1) := by decide +kernel
theorem d_X_live_32 : decode cX11_live 32 = .ok (.istore_n 3, 1) := by decide +kernel
theorem d_X_live_33 : decode cX11_live 33 = .ok (.iload_n 3, 1) := by decide +kernel
theorem d_X_live_34 : decode cX11_live 34 = .ok (.iload_n 2, 1) := by decide +kernel
theorem d_X_live_35 : decode cX11_live 35 = .ok (.if_icmp .gt 86, 3) := by decide +kernel
theorem d_X_live_38 : decode cX11_live 38 = .ok (.iconst 0, 1) := by decide +kernel
theorem d_X_live_39 : decode cX11_live 39 = .ok (.istore 4, 2) := by decide +kernel
theorem d_X_live_41 : decode cX11_live 41 = .ok (.iload 4, 2) := by decide +kernel
theorem d_X_live_43 : decode cX11_live 43 = .ok (.aload_n 0, 1) := by decide +kernel
theorem d_X_live_44 : decode cX11_live 44 = .ok (.getfield 81, 3) := by decide +kernel
theorem d_X_live_47 : decode cX11_live 47 = .ok (.getfield 322, 3) := by decide +kernel
theorem d_X_live_50 : decode cX11_live 50 = .ok (.if_icmp .ge 42, 3) := by decide +kernel
theorem d_X_live_53 : decode cX11_live 53 = .ok (.aload_n 0, 1) := by decide +kernel
theorem d_X_live_54 : decode cX11_live 54 = .ok (.getfield 75, 3) := by decide +kernel
theorem d_X_live_57 : decode cX11_live 57 = .ok (.iconst 0, 1) := by decide +kernel
theorem d_X_live_58 : decode cX11_live 58 = .ok (.dup2, 1) := by decide +kernel
theorem d_X_live_59 : decode cX11_live 59 = .ok (.iaload, 1) := by decide +kernel
theorem d_X_live_60 : decode cX11_live 60 = .ok (.aload_n 0, 1) := by decide +kernel
theorem d_X_live_61 : decode cX11_live 61 = .ok (.aload_n 0, 1) := by decide +kernel
theorem d_X_live_62 : decode cX11_live 62 = .ok (.getfield 81, 3) := by decide +kernel
theorem d_X_live_65 : decode cX11_live 65 = .ok (.getfield 407, 3) := by decide +kernel
theorem d_X_live_68 : decode cX11_live 68 = .ok (.iload 4, 2) := by decide +kernel
theorem d_X_live_70 : decode cX11_live 70 = .ok (.iaload, 1) := by decide +kernel
theorem d_X_live_71 : decode cX11_live 71 = .ok (.aload_n 0, 1) := by decide +kernel
theorem d_X_live_72 : decode cX11_live 72 = .ok (.getfield 81, 3) := by decide +kernel
theorem d_X_live_75 : decode cX11_live 75 = .ok (.getfield 410, 3) := by decide +kernel
theorem d_X_live_78 : decode cX11_live 78 = .ok (.iload 4, 2) := by decide +kernel
theorem d_X_live_80 : decode cX11_live 80 = .ok (.iaload, 1) := by decide +kernel
theorem d_X_live_81 : decode cX11_live 81 = .ok (.invokevirtual 413, 3) := by decide +kernel
theorem d_X_live_84 : decode cX11_live 84 = .ok (.iadd, 1) := by decide +kernel
theorem d_X_live_85 : decode cX11_live 85 = .ok (.iastore, 1) := by decide +kernel
theorem d_X_live_86 : decode cX11_live 86 = .ok (.iinc 4 1, 3) := by decide +kernel
theorem d_X_live_89 : decode cX11_live 89 = .ok (.goto (-48), 3) := by decide +kernel
theorem d_X_live_92 : decode cX11_live 92 = .ok (.iload_n 3, 1) := by decide +kernel
theorem d_X_live_93 : decode cX11_live 93 = .ok (.bipush 10, 2) := by decide +kernel
theorem d_X_live_95 : decode cX11_live 95 = .ok (.irem, 1) := by decide +kernel
theorem d_X_live_96 : decode cX11_live 96 = .ok (.ifCond .ne 19, 3) := by decide +kernel
theorem d_X_live_99 : decode cX11_live 99 = .ok (.aload_n 0, 1) := by decide +kernel
theorem d_X_live_100 : decode cX11_live 100 = .ok (.getfield 75, 3) := by decide +kernel
theorem d_X_live_103 : decode cX11_live 103 = .ok (.iconst 1, 1) := by decide +kernel
theorem d_X_live_104 : decode cX11_live 104 = .ok (.dup2, 1) := by decide +kernel
theorem d_X_live_105 : decode cX11_live 105 = .ok (.iaload, 1) := by decide +kernel
theorem d_X_live_106 : decode cX11_live 106 = .ok (.aload_n 0, 1) := by decide +kernel
theorem d_X_live_107 : decode cX11_live 107 = .ok (.invokevirtual 416, 3) := by decide +kernel
theorem d_X_live_110 : decode cX11_live 110 = .ok (.invokestatic 299, 3) := by decide +kernel
theorem d_X_live_113 : decode cX11_live 113 = .ok (.iadd, 1) := by decide +kernel
theorem d_X_live_114 : decode cX11_live 114 = .ok (.iastore, 1) := by decide +kernel
theorem d_X_live_115 : decode cX11_live 115 = .ok (.iinc 3 1, 3) := by decide +kernel
theorem d_X_live_118 : decode cX11_live 118 = .ok (.goto (-85), 3) := by decide +kernel
theorem d_X_live_121 : decode cX11_live 121 = .ok (.aload_n 0, 1) := by decide +kernel
theorem d_X_live_122 : decode cX11_live 122 = .ok (.getfield 75, 3) := by decide +kernel
theorem d_X_live_125 : decode cX11_live 125 = .ok (.iconst 2, 1) := by decide +kernel
theorem d_X_live_126 : decode cX11_live 126 = .ok (.aload_n 0, 1) := by decide +kernel
theorem d_X_live_127 : decode cX11_live 127 = .ok (.aload_n 0, 1) := by decide +kernel
theorem d_X_live_128 : decode cX11_live 128 = .ok (.getfield 23, 3) := by decide +kernel
theorem d_X_live_131 : decode cX11_live 131 = .ok (.invokevirtual 153, 3) := by decide +kernel
theorem d_X_live_134 : decode cX11_live 134 = .ok (.aload_n 0, 1) := by decide +kernel
theorem d_X_live_135 : decode cX11_live 135 = .ok (.getfield 81, 3) := by decide +kernel
theorem d_X_live_138 : decode cX11_live 138 = .ok (.invokevirtual 331, 3) := by decide +kernel
theorem d_X_live_141 : decode cX11_live 141 = .ok (.invokestatic 157, 3) := by decide +kernel
theorem d_X_live_144 : decode cX11_live 144 = .ok (.iastore, 1) := by decide +kernel
theorem d_X_live_145 : decode cX11_live 145 = .ok (.return_, 1) := by decide +kernel
noncomputable def f_X_live (x1 : Int32) (x2 : Int32) (h : mm_H) : Option mm_H := (f_St_copyFrom 41 35 h).bind fun v2 => mm_let (mm_pL v2 32 19 (Int32.toInt64 x1)) fun h3 => mm_let (mm_pI h3 78 0 0) fun h5 => mm_let (mm_pI h5 78 1 0) fun h7 => (mm_while (σ := (Int32 × mm_H)) (ρ := mm_H) (fun s9 => if x2 < s9.1 then (some (Sum.inr s9.2)) else ((mm_while (σ := (Int32 × mm_H)) (ρ := mm_H) (fun s15 => (mm_gT s15.2 14).bind fun t21 => if (s15.2.1 t21 13) ≤ s15.1 then (some (Sum.inr s15.2)) else ((mm_gT s15.2 14).bind fun t23 => (mm_ix s15.1 30).bind fun k25 => (mm_gT s15.2 14).bind fun t27 => (mm_ix s15.1 30).bind fun k29 => (f_X_useEar (s15.2.1 (t23 + 10) k25) (s15.2.1 (t27 + 11) k29) s15.2).bind fun v32 => mm_let (mm_pI v32.2 78 0 ((s15.2.1 78 0) + v32.1)) fun h33 => mm_let (s15.1 + 1) fun y35 => some (Sum.inl (y35, h33)))) (0, s9.2)).bind fun v18 => (if (s9.1 - s9.1 / 10 * 10) = 0 then ((f_X_quarterDay v18).bind fun v43 => (f_JI_bitCount v43.1).bind fun v45 => mm_let (mm_pI v43.2 78 1 ((v18.1 78 1) + v45)) fun h46 => some h46) else (some v18) : Option mm_H).bind fun j40 => mm_let (s9.1 + 1) fun y51 => some (Sum.inl (y51, j40)))) (1, h7)).bind fun v12 => (f_X_weighed 41 v12).bind fun v58 => (mm_gT v58 14).bind fun t59 => (f_To_allSecrets t59 v58).bind fun v62 => (f_X_together 76 v62 v58).bind fun v64 => mm_let (mm_pI v58 78 2 v64) fun h65 => some h65
theorem T_X_live (V : mm_V) (l : Launch) (x1 : Int32) (x2 : Int32) (h : mm_H) (r : mm_H) (hf : f_X_live x1 x2 h = some r) : MT V l Y_X_live 7 [.ref 32, .int x1, .int x2] (fun r1 h1 => r1 = none ∧ h1 = r) h := by
  unfold f_X_live at hf
  refine MT.intro (pn_X rfl) [(0, .ref 32), (1, .int x1), (2, .int x2)] rfl (Nat.le_of_ble_eq_true rfl) ?_
  generalize hZ : mm_Z V _ = Z0
  refine MM.aload_n (i := 0) rfl rfl d_X_live_0 rfl ?_
  refine MM.gR 8 9 tg_32 rq_8_2 rfl lays_8 ww_474 d_X_live_1 rfl ?_
  refine MM.aload_n (i := 0) rfl rfl d_X_live_4 rfl ?_
  refine MM.gR 8 3 tg_32 rq_8_1 rfl lays_8 ww_473 d_X_live_5 rfl ?_
  obtain ⟨v2, e1, hf⟩ := mm_bind hf
  refine MM.callV0 (T_St_copyFrom V l 41 35 h _ e1) (fun _ _ q => q) cal_St_copyFrom rfl tg_41 ct_4 ww_969 ww_968 ww_967 (by decide) (by simp [Value.category]) d_X_live_8 rfl ⟨rfl, rfl⟩ rfl ?_
  refine MM.aload_n (i := 0) rfl rfl d_X_live_11 rfl ?_
  refine MM.iload_n (i := 1) rfl rfl d_X_live_12 rfl ?_
  refine MM.i2l d_X_live_13 rfl ?_
  obtain ⟨h3, e4, hf⟩ := mm_letE hf
  refine MM.putL e4 8 tg_32 lays_8 toks_8 pq_8_19 ww_491 d_X_live_14 rfl ?_
  refine MM.aload_n (i := 0) rfl rfl d_X_live_17 rfl ?_
  refine MM.gR 8 46 tg_32 rq_8_13 rfl lays_8 ww_485 d_X_live_18 rfl ?_
  refine MM.iconst ic_0 d_X_live_21 rfl ?_
  refine MM.iconst ic_0 d_X_live_22 rfl ?_
  obtain ⟨h5, e6, hf⟩ := mm_letE hf
  refine MM.sI ix_0_4 e6 al_78 d_X_live_23 rfl ?_
  refine MM.aload_n (i := 0) rfl rfl d_X_live_24 rfl ?_
  refine MM.gR 8 46 tg_32 rq_8_13 rfl lays_8 ww_485 d_X_live_25 rfl ?_
  refine MM.iconst ic_1 d_X_live_28 rfl ?_
  refine MM.iconst ic_0 d_X_live_29 rfl ?_
  obtain ⟨h7, e8, hf⟩ := mm_letE hf
  refine MM.sI ix_1_4 e8 al_78 d_X_live_30 rfl ?_
  refine MM.iconst ic_1 d_X_live_31 rfl ?_
  refine MM.istore_n (i := 3) (lv' := [(3, .int 1), (0, .ref 32), (1, .int x1), (2, .int x2)]) rfl rfl (Nat.le_of_ble_eq_true rfl) rfl d_X_live_32 rfl ?_
  obtain ⟨v12, e14, hf⟩ := mm_bind hf
  have K13 : MM V l Y_X_live 7 0 0 Z0 121 [(0, .ref 32)] [] v12 := by
    refine MM.aload_n (i := 0) rfl rfl d_X_live_121 rfl ?_
    refine MM.gR 8 46 tg_32 rq_8_13 rfl lays_8 ww_485 d_X_live_122 rfl ?_
    refine MM.iconst ic_2 d_X_live_125 rfl ?_
    refine MM.aload_n (i := 0) rfl rfl d_X_live_126 rfl ?_
    refine MM.aload_n (i := 0) rfl rfl d_X_live_127 rfl ?_
    refine MM.gR 8 9 tg_32 rq_8_2 rfl lays_8 ww_474 d_X_live_128 rfl ?_
    obtain ⟨v58, e57, hf⟩ := mm_bind hf
    refine MM.callV1 (T_X_weighed V l 41 v12 _ e57) (fun _ _ q => q) cal_X_weighed rfl tg_32 ct_8 ww_8 ww_900 ww_898 (by decide) (by simp [Value.category]) d_X_live_131 rfl ⟨rfl, rfl⟩ rfl ?_
    refine MM.aload_n (i := 0) rfl rfl d_X_live_134 rfl ?_
    obtain ⟨t59, e60, hf⟩ := mm_bind hf
    obtain ⟨e60, t_t59⟩ := mm_gTE e60
    refine MM.gT e60 tg_32 tq_14 lays_8 ww_486 d_X_live_135 rfl ?_
    obtain ⟨v62, e61, hf⟩ := mm_bind hf
    refine MM.callV1 (T_To_allSecrets V l t59 v58 _ e61) (fun _ _ q => q) cal_To_allSecrets rfl t_t59 ct_7 ww_1047 ww_1046 ww_1045 (by decide) (by simp [Value.category]) d_X_live_138 rfl ⟨rfl, rfl⟩ rfl ?_
    obtain ⟨v64, e63, hf⟩ := mm_bind hf
    refine MM.callS1 (T_X_together V l 76 v62 v58 _ e63) (fun _ _ q => q) cal_X_together rfl ww_994 ww_1000 (by decide) (by simp [Value.category]) d_X_live_141 rfl ⟨rfl, rfl⟩ rfl ?_
    obtain ⟨h65, e66, hf⟩ := mm_letE hf
    refine MM.sI ix_2_4 e66 al_78 d_X_live_144 rfl ?_
    obtain rfl := Option.some.inj hf
    subst hZ
    exact MM.vret rfl d_X_live_145 ⟨rfl, rfl⟩
  clear hf
  refine MM.sub [1, 3, 0] (by rfl) (mm_while_ind (fun s9 => MM V l Y_X_live 7 0 0 Z0 33 [(0, .ref 32), (2, .int x2), (3, .int s9.1)] [] s9.2) e14 (fun s9 q10 hf hx11 => ?_))
  refine MM.iload_n (i := 3) rfl rfl d_X_live_33 rfl ?_
  refine MM.iload_n (i := 2) rfl rfl d_X_live_34 rfl ?_
  obtain ⟨m55, m56⟩ := mm_ifE hf
  refine MM.icmp_gt (tgt := 121) d_X_live_35 rfl rfl (fun c54 => ?_) (fun c54 => ?_)
  · replace hf := m55 c54
    obtain rfl := Option.some.inj hf
    obtain rfl := Option.some.inj (mm_wxR hx11)
    exact MM.sub [0] (by rfl) K13
  · replace hf := m56 c54
    refine MM.iconst ic_0 d_X_live_38 rfl ?_
    refine MM.istore (lv' := [(4, .int 0), (0, .ref 32), (2, .int x2), (3, .int s9.1)]) rfl (Nat.le_of_ble_eq_true rfl) rfl d_X_live_39 rfl ?_
    obtain ⟨v18, e20, hf⟩ := mm_bind hf
    have K19 : MM V l Y_X_live 7 0 0 Z0 92 [(0, .ref 32), (2, .int x2), (3, .int s9.1)] [] v18 := by
      refine MM.iload_n (i := 3) rfl rfl d_X_live_92 rfl ?_
      refine MM.bipush bp_10 d_X_live_93 rfl ?_
      refine MM.irem (by decide) d_X_live_95 rfl ?_
      obtain ⟨j40, e53, hf⟩ := mm_bind hf
      have K41 : MM V l Y_X_live 7 0 0 Z0 115 [(0, .ref 32), (2, .int x2), (3, .int s9.1)] [] j40 := by
        obtain ⟨y51, e52, hf⟩ := mm_letE hf
        refine MM.iinc (k0 := 2) (lv' := [(3, .int y51), (0, .ref 32), (2, .int x2)]) (by rw [ic_1]; exact e52) rfl (Nat.le_of_ble_eq_true rfl) rfl d_X_live_115 rfl ?_
        refine MM.goto (tgt := 33) d_X_live_118 rfl ?_
        obtain rfl := Option.some.inj hf
        have h9 := mm_wxL hx11
        exact MM.sub [1, 2, 0] (by rfl) h9
      clear hf
      have hf := e53
      clear e53
      obtain ⟨m49, m50⟩ := mm_ifE hf
      refine MM.if_ne (tgt := 115) d_X_live_96 rfl rfl (fun c48 => ?_) (fun c48 => ?_)
      · replace hf := m50 c48
        obtain rfl := Option.some.inj hf
        exact MM.sub [0, 1, 2] (by rfl) K41
      · replace hf := m49 c48
        refine MM.aload_n (i := 0) rfl rfl d_X_live_99 rfl ?_
        refine MM.gR 8 46 tg_32 rq_8_13 rfl lays_8 ww_485 d_X_live_100 rfl ?_
        refine MM.iconst ic_1 d_X_live_103 rfl ?_
        refine MM.dup2 rfl rfl d_X_live_104 rfl ?_
        refine MM.gI ix_1_4 al_78 d_X_live_105 rfl ?_
        refine MM.aload_n (i := 0) rfl rfl d_X_live_106 rfl ?_
        obtain ⟨v43, e42, hf⟩ := mm_bind hf
        refine MM.callV1 (T_X_quarterDay V l  v18 _ e42) (fun _ _ q => q) cal_X_quarterDay rfl tg_32 ct_8 ww_29 ww_1230 ww_1228 (by decide) (by simp [Value.category]) d_X_live_107 rfl ⟨rfl, rfl⟩ rfl ?_
        obtain ⟨v45, e44, hf⟩ := mm_bind hf
        refine MM.callS1 (T_JI_bitCount V l v43.1 v43.2 _ e44) (fun _ _ q => q) cal_JI_bitCount rfl ww_893 ww_1040 (by decide) (by simp [Value.category]) d_X_live_110 rfl ⟨rfl, rfl⟩ rfl ?_
        refine MM.iadd d_X_live_113 rfl ?_
        obtain ⟨h46, e47, hf⟩ := mm_letE hf
        refine MM.sI ix_1_4 e47 al_78 d_X_live_114 rfl ?_
        obtain rfl := Option.some.inj hf
        exact MM.sub [0, 1, 2] (by rfl) K41
    clear hf
    refine MM.sub [1, 2, 3, 0] (by rfl) (mm_while_ind (fun s15 => MM V l Y_X_live 7 0 0 Z0 41 [(0, .ref 32), (2, .int x2), (3, .int s9.1), (4, .int s15.1)] [] s15.2) e20 (fun s15 q16 hf hx17 => ?_))
    refine MM.iload rfl d_X_live_41 rfl ?_
    refine MM.aload_n (i := 0) rfl rfl d_X_live_43 rfl ?_
    obtain ⟨t21, e22, hf⟩ := mm_bind hf
    obtain ⟨e22, t_t21⟩ := mm_gTE e22
    refine MM.gT e22 tg_32 tq_14 lays_8 ww_486 d_X_live_44 rfl ?_
    refine MM.getI 7 t_t21 lays_7 gq_7_13 ww_413 d_X_live_47 rfl ?_
    obtain ⟨m38, m39⟩ := mm_ifE hf
    refine MM.icmp_ge (tgt := 92) d_X_live_50 rfl rfl (fun c37 => ?_) (fun c37 => ?_)
    · replace hf := m38 c37
      obtain rfl := Option.some.inj hf
      obtain rfl := Option.some.inj (mm_wxR hx17)
      exact MM.sub [0, 1, 2] (by rfl) K19
    · replace hf := m39 c37
      refine MM.aload_n (i := 0) rfl rfl d_X_live_53 rfl ?_
      refine MM.gR 8 46 tg_32 rq_8_13 rfl lays_8 ww_485 d_X_live_54 rfl ?_
      refine MM.iconst ic_0 d_X_live_57 rfl ?_
      refine MM.dup2 rfl rfl d_X_live_58 rfl ?_
      refine MM.gI ix_0_4 al_78 d_X_live_59 rfl ?_
      refine MM.aload_n (i := 0) rfl rfl d_X_live_60 rfl ?_
      refine MM.aload_n (i := 0) rfl rfl d_X_live_61 rfl ?_
      obtain ⟨t23, e24, hf⟩ := mm_bind hf
      obtain ⟨e24, t_t23⟩ := mm_gTE e24
      refine MM.gT e24 tg_32 tq_14 lays_8 ww_486 d_X_live_62 rfl ?_
      refine MM.gR 7 10 t_t23 rq_7_14 rfl lays_7 ww_416 d_X_live_65 rfl ?_
      refine MM.iload rfl d_X_live_68 rfl ?_
      obtain ⟨k25, e26, hf⟩ := mm_bind hf
      refine MM.gI e26 (al_7_14f t_t23) d_X_live_70 rfl ?_
      refine MM.aload_n (i := 0) rfl rfl d_X_live_71 rfl ?_
      obtain ⟨t27, e28, hf⟩ := mm_bind hf
      obtain ⟨e28, t_t27⟩ := mm_gTE e28
      refine MM.gT e28 tg_32 tq_14 lays_8 ww_486 d_X_live_72 rfl ?_
      refine MM.gR 7 11 t_t27 rq_7_15 rfl lays_7 ww_419 d_X_live_75 rfl ?_
      refine MM.iload rfl d_X_live_78 rfl ?_
      obtain ⟨k29, e30, hf⟩ := mm_bind hf
      refine MM.gI e30 (al_7_15f t_t27) d_X_live_80 rfl ?_
      obtain ⟨v32, e31, hf⟩ := mm_bind hf
      refine MM.callV1 (T_X_useEar V l (s15.2.1 (t23 + 10) k25) (s15.2.1 (t27 + 11) k29) s15.2 _ e31) (fun _ _ q => q) cal_X_useEar rfl tg_32 ct_8 ww_27 ww_1218 ww_1216 (by decide) (by simp [Value.category]) d_X_live_81 rfl ⟨rfl, rfl⟩ rfl ?_
      refine MM.iadd d_X_live_84 rfl ?_
      obtain ⟨h33, e34, hf⟩ := mm_letE hf
      refine MM.sI ix_0_4 e34 al_78 d_X_live_85 rfl ?_
      obtain ⟨y35, e36, hf⟩ := mm_letE hf
      refine MM.iinc (k0 := 3) (lv' := [(4, .int y35), (0, .ref 32), (2, .int x2), (3, .int s9.1)]) (by rw [ic_1]; exact e36) rfl (Nat.le_of_ble_eq_true rfl) rfl d_X_live_86 rfl ?_
      refine MM.goto (tgt := 41) d_X_live_89 rfl ?_
      obtain rfl := Option.some.inj hf
      have h9 := mm_wxL hx17
      exact MM.sub [1, 2, 3, 0] (by rfl) h9
theorem d_X_years_0 : decode cX11_years 0 = .ok (.iload_n 1, 1) := by decide +kernel
theorem d_X_years_1 : decode cX11_years 1 = .ok (.ifCond .lt 30, 3) := by decide +kernel
theorem d_X_years_4 : decode cX11_years 4 = .ok (.iload_n 1, 1) := by decide +kernel
theorem d_X_years_5 : decode cX11_years 5 = .ok (.sipush 9999, 3) := by decide +kernel
theorem d_X_years_8 : decode cX11_years 8 = .ok (.if_icmp .gt 23, 3) := by decide +kernel
theorem d_X_years_11 : decode cX11_years 11 = .ok (.iload_n 2, 1) := by decide +kernel
theorem d_X_years_12 : decode cX11_years 12 = .ok (.iconst 1, 1) := by decide +kernel
theorem d_X_years_13 : decode cX11_years 13 = .ok (.if_icmp .lt 18, 3) := by decide +kernel
theorem d_X_years_16 : decode cX11_years 16 = .ok (.iload_n 2, 1) := by decide +kernel
theorem d_X_years_17 : decode cX11_years 17 = .ok (.bipush 100, 2) := by decide +kernel
theorem d_X_years_19 : decode cX11_years 19 = .ok (.if_icmp .gt 12, 3) := by decide +kernel
theorem d_X_years_22 : decode cX11_years 22 = .ok (.iload_n 3, 1) := by decide +kernel
theorem d_X_years_23 : decode cX11_years 23 = .ok (.ifCond .lt 8, 3) := by decide +kernel
theorem d_X_years_26 : decode cX11_years 26 = .ok (.iload_n 3, 1) := by decide +kernel
theorem d_X_years_27 : decode cX11_years 27 = .ok (.iconst 2, 1) := by decide +kernel
theorem d_X_years_28 : decode cX11_years 28 = .ok (.if_icmp .le 5, 3) := by decide +kernel
theorem d_X_years_31 : decode cX11_years 31 = .ok (.iconst (-1), 1) := by decide +kernel
theorem d_X_years_32 : decode cX11_years 32 = .ok (.ireturn, 1) := by decide +kernel
theorem d_X_years_33 : decode cX11_years 33 = .ok (.aload_n 0, 1) := by decide +kernel
theorem d_X_years_34 : decode cX11_years 34 = .ok (.iload_n 1, 1) := by decide +kernel
theorem d_X_years_35 : decode cX11_years 35 = .ok (.iload_n 2, 1) := by decide +kernel
theorem d_X_years_36 : decode cX11_years 36 = .ok (.invokevirtual 314, 3) := by decide +kernel
theorem d_X_years_39 : decode cX11_years 39 = .ok (.aload_n 0, 1) := by decide +kernel
theorem d_X_years_40 : decode cX11_years 40 = .ok (.getfield 75, 3) := by decide +kernel
theorem d_X_years_43 : decode cX11_years 43 = .ok (.iload_n 3, 1) := by decide +kernel
theorem d_X_years_44 : decode cX11_years 44 = .ok (.iaload, 1) := by decide +kernel
theorem d_X_years_45 : decode cX11_years 45 = .ok (.ireturn, 1) := by decide +kernel
noncomputable def f_X_years (x1 : Int32) (x2 : Int32) (x3 : Int32) (h : mm_H) : Option (Int32 × mm_H) := if x1 < 0 then (some ((-1), h)) else (if 9999 < x1 then (some ((-1), h)) else (if x2 < 1 then (some ((-1), h)) else (if 100 < x2 then (some ((-1), h)) else (if x3 < 0 then (some ((-1), h)) else (if x3 ≤ 2 then ((f_X_live x1 x2 h).bind fun v2 => (mm_ix x3 4).bind fun k3 => some ((v2.1 78 k3), v2)) else (some ((-1), h)))))))
theorem T_X_years (V : mm_V) (l : Launch) (x1 : Int32) (x2 : Int32) (x3 : Int32) (h : mm_H) (r : (Int32 × mm_H)) (hf : f_X_years x1 x2 x3 h = some r) : MT V l Y_X_years 8 [.ref 32, .int x1, .int x2, .int x3] (fun r1 h1 => r1 = some (.int r.1) ∧ h1 = r.2) h := by
  unfold f_X_years at hf
  refine MT.intro (pn_X rfl) [(0, .ref 32), (1, .int x1), (2, .int x2), (3, .int x3)] rfl (Nat.le_of_ble_eq_true rfl) ?_
  generalize hZ : mm_Z V _ = Z0
  refine MM.iload_n (i := 1) rfl rfl d_X_years_0 rfl ?_
  obtain ⟨m21, m22⟩ := mm_ifE hf
  refine MM.if_lt (tgt := 31) d_X_years_1 rfl rfl (fun c20 => ?_) (fun c20 => ?_)
  · replace hf := m21 c20
    refine MM.iconst ic_m1 d_X_years_31 rfl ?_
    obtain rfl := Option.some.inj hf
    subst hZ
    exact MM.iret rfl d_X_years_32 ⟨rfl, rfl⟩
  · replace hf := m22 c20
    refine MM.iload_n (i := 1) rfl rfl d_X_years_4 rfl ?_
    refine MM.sipush sp_9999 d_X_years_5 rfl ?_
    obtain ⟨m18, m19⟩ := mm_ifE hf
    refine MM.icmp_gt (tgt := 31) d_X_years_8 rfl rfl (fun c17 => ?_) (fun c17 => ?_)
    · replace hf := m18 c17
      refine MM.iconst ic_m1 d_X_years_31 rfl ?_
      obtain rfl := Option.some.inj hf
      subst hZ
      exact MM.iret rfl d_X_years_32 ⟨rfl, rfl⟩
    · replace hf := m19 c17
      refine MM.iload_n (i := 2) rfl rfl d_X_years_11 rfl ?_
      refine MM.iconst ic_1 d_X_years_12 rfl ?_
      obtain ⟨m15, m16⟩ := mm_ifE hf
      refine MM.icmp_lt (tgt := 31) d_X_years_13 rfl rfl (fun c14 => ?_) (fun c14 => ?_)
      · replace hf := m15 c14
        refine MM.iconst ic_m1 d_X_years_31 rfl ?_
        obtain rfl := Option.some.inj hf
        subst hZ
        exact MM.iret rfl d_X_years_32 ⟨rfl, rfl⟩
      · replace hf := m16 c14
        refine MM.iload_n (i := 2) rfl rfl d_X_years_16 rfl ?_
        refine MM.bipush bp_100 d_X_years_17 rfl ?_
        obtain ⟨m12, m13⟩ := mm_ifE hf
        refine MM.icmp_gt (tgt := 31) d_X_years_19 rfl rfl (fun c11 => ?_) (fun c11 => ?_)
        · replace hf := m12 c11
          refine MM.iconst ic_m1 d_X_years_31 rfl ?_
          obtain rfl := Option.some.inj hf
          subst hZ
          exact MM.iret rfl d_X_years_32 ⟨rfl, rfl⟩
        · replace hf := m13 c11
          refine MM.iload_n (i := 3) rfl rfl d_X_years_22 rfl ?_
          obtain ⟨m9, m10⟩ := mm_ifE hf
          refine MM.if_lt (tgt := 31) d_X_years_23 rfl rfl (fun c8 => ?_) (fun c8 => ?_)
          · replace hf := m9 c8
            refine MM.iconst ic_m1 d_X_years_31 rfl ?_
            obtain rfl := Option.some.inj hf
            subst hZ
            exact MM.iret rfl d_X_years_32 ⟨rfl, rfl⟩
          · replace hf := m10 c8
            refine MM.iload_n (i := 3) rfl rfl d_X_years_26 rfl ?_
            refine MM.iconst ic_2 d_X_years_27 rfl ?_
            obtain ⟨m6, m7⟩ := mm_ifE hf
            refine MM.icmp_le (tgt := 33) d_X_years_28 rfl rfl (fun c5 => ?_) (fun c5 => ?_)
            · replace hf := m6 c5
              refine MM.aload_n (i := 0) rfl rfl d_X_years_33 rfl ?_
              refine MM.iload_n (i := 1) rfl rfl d_X_years_34 rfl ?_
              refine MM.iload_n (i := 2) rfl rfl d_X_years_35 rfl ?_
              obtain ⟨v2, e1, hf⟩ := mm_bind hf
              refine MM.callV0 (T_X_live V l x1 x2 h _ e1) (fun _ _ q => q) cal_X_live rfl tg_32 ct_8 ww_26 ww_1214 ww_1212 (by decide) (by simp [Value.category]) d_X_years_36 rfl ⟨rfl, rfl⟩ rfl ?_
              refine MM.aload_n (i := 0) rfl rfl d_X_years_39 rfl ?_
              refine MM.gR 8 46 tg_32 rq_8_13 rfl lays_8 ww_485 d_X_years_40 rfl ?_
              refine MM.iload_n (i := 3) rfl rfl d_X_years_43 rfl ?_
              obtain ⟨k3, e4, hf⟩ := mm_bind hf
              refine MM.gI e4 al_78 d_X_years_44 rfl ?_
              obtain rfl := Option.some.inj hf
              subst hZ
              exact MM.iret rfl d_X_years_45 ⟨rfl, rfl⟩
            · replace hf := m7 c5
              refine MM.iconst ic_m1 d_X_years_31 rfl ?_
              obtain rfl := Option.some.inj hf
              subst hZ
              exact MM.iret rfl d_X_years_32 ⟨rfl, rfl⟩
theorem d_Tk_copyFrom_0 : decode cX6_copyFrom 0 = .ok (.aload_n 0, 1) := by decide +kernel
theorem d_Tk_copyFrom_1 : decode cX6_copyFrom 1 = .ok (.aload_n 1, 1) := by decide +kernel
theorem d_Tk_copyFrom_2 : decode cX6_copyFrom 2 = .ok (.invokevirtual 43, 3) := by decide +kernel
theorem d_Tk_copyFrom_5 : decode cX6_copyFrom 5 = .ok (.aload_n 0, 1) := by decide +kernel
theorem d_Tk_copyFrom_6 : decode cX6_copyFrom 6 = .ok (.aload_n 1, 1) := by decide +kernel
theorem d_Tk_copyFrom_7 : decode cX6_copyFrom 7 = .ok (.getfield 28, 3) := by decide +kernel
theorem d_Tk_copyFrom_10 : decode cX6_copyFrom 10 = .ok (.putfield 28, 3) := by decide +kernel
theorem d_Tk_copyFrom_13 : decode cX6_copyFrom 13 = .ok (.aload_n 1, 1) := by decide +kernel
theorem d_Tk_copyFrom_14 : decode cX6_copyFrom 14 = .ok (.getfield 31, 3) := by decide +kernel
theorem d_Tk_copyFrom_17 : decode cX6_copyFrom 17 = .ok (.iconst 0, 1) := by decide +kernel
theorem d_Tk_copyFrom_18 : decode cX6_copyFrom 18 = .ok (.aload_n 0, 1) := by decide +kernel
theorem d_Tk_copyFrom_19 : decode cX6_copyFrom 19 = .ok (.getfield 31, 3) := by decide +kernel
theorem d_Tk_copyFrom_22 : decode cX6_copyFrom 22 = .ok (.iconst 0, 1) := by decide +kernel
theorem d_Tk_copyFrom_23 : decode cX6_copyFrom 23 = .ok (.bipush 10, 2) := by decide +kernel
theorem d_Tk_copyFrom_25 : decode cX6_copyFrom 25 = .ok (.invokestatic 37, 3) := by decide +kernel
theorem d_Tk_copyFrom_28 : decode cX6_copyFrom 28 = .ok (.aload_n 1, 1) := by decide +kernel
theorem d_Tk_copyFrom_29 : decode cX6_copyFrom 29 = .ok (.getfield 34, 3) := by decide +kernel
theorem d_Tk_copyFrom_32 : decode cX6_copyFrom 32 = .ok (.iconst 0, 1) := by decide +kernel
theorem d_Tk_copyFrom_33 : decode cX6_copyFrom 33 = .ok (.aload_n 0, 1) := by decide +kernel
theorem d_Tk_copyFrom_34 : decode cX6_copyFrom 34 = .ok (.getfield 34, 3) := by decide +kernel
theorem d_Tk_copyFrom_37 : decode cX6_copyFrom 37 = .ok (.iconst 0, 1) := by decide +kernel
theorem d_Tk_copyFrom_38 : decode cX6_copyFrom 38 = .ok (.bipush 10, 2) := by decide +kernel
theorem d_Tk_copyFrom_40 : decode cX6_copyFrom 40 = .ok (.invokestatic 37, 3) := by decide +kernel
theorem d_Tk_copyFrom_43 : decode cX6_copyFrom 43 = .ok (.return_, 1) := by decide +kernel
noncomputable def f_Tk_copyFrom (a0 : Nat) (a1 : Nat) (h : mm_H) : Option mm_H := if mm_tg a0 = 5 ∧ mm_tg a1 = 5 then ((f_Tk_copyLines a0 a1 h).bind fun v2 => mm_let (mm_pI v2 a0 5 (v2.1 a1 5)) fun h3 => mm_let (mm_cpI h3 (a1 + 5) (a0 + 5) 10) fun h5 => mm_let (mm_cpI h5 (a1 + 6) (a0 + 6) 10) fun h7 => some h7) else none
theorem T_Tk_copyFrom (V : mm_V) (l : Launch) (a0 : Nat) (a1 : Nat) (h : mm_H) (r : mm_H) (hf : f_Tk_copyFrom a0 a1 h = some r) : MT V l Y_Tk_copyFrom 2 [.ref a0, .ref a1] (fun r1 h1 => r1 = none ∧ h1 = r) h := by
  unfold f_Tk_copyFrom at hf
  obtain ⟨⟨t_a0, t_a1⟩, hf⟩ := mm_chkE hf
  refine MT.intro (pn_Tk rfl) [(0, .ref a0), (1, .ref a1)] rfl (Nat.le_of_ble_eq_true rfl) ?_
  generalize hZ : mm_Z V _ = Z0
  refine MM.aload_n (i := 0) rfl rfl d_Tk_copyFrom_0 rfl ?_
  refine MM.aload_n (i := 1) rfl rfl d_Tk_copyFrom_1 rfl ?_
  obtain ⟨v2, e1, hf⟩ := mm_bind hf
  refine MM.callV0 (T_Tk_copyLines V l a0 a1 h _ e1) (fun _ _ q => q) cal_Tk_copyLines rfl t_a0 ct_5 ww_876 ww_875 ww_1240 (by decide) (by simp [Value.category]) d_Tk_copyFrom_2 rfl ⟨rfl, rfl⟩ rfl ?_
  refine MM.aload_n (i := 0) rfl rfl d_Tk_copyFrom_5 rfl ?_
  refine MM.aload_n (i := 1) rfl rfl d_Tk_copyFrom_6 rfl ?_
  refine MM.getI 5 t_a1 lays_5 gq_5_5 ww_262 d_Tk_copyFrom_7 rfl ?_
  obtain ⟨h3, e4, hf⟩ := mm_letE hf
  refine MM.putI e4 5 t_a0 lays_5 toks_5 pq_5_5 ww_262 d_Tk_copyFrom_10 rfl ?_
  refine MM.aload_n (i := 1) rfl rfl d_Tk_copyFrom_13 rfl ?_
  refine MM.gR 5 5 t_a1 rq_5_6 rfl lays_5 ww_264 d_Tk_copyFrom_14 rfl ?_
  refine MM.iconst ic_0 d_Tk_copyFrom_17 rfl ?_
  refine MM.aload_n (i := 0) rfl rfl d_Tk_copyFrom_18 rfl ?_
  refine MM.gR 5 5 t_a0 rq_5_6 rfl lays_5 ww_264 d_Tk_copyFrom_19 rfl ?_
  refine MM.iconst ic_0 d_Tk_copyFrom_22 rfl ?_
  refine MM.bipush bp_10 d_Tk_copyFrom_23 rfl ?_
  obtain ⟨h5, e6, hf⟩ := mm_letE hf
  refine MM.copyI (n := 10) e6 (al_5_6f t_a1) (al_5_6f t_a0) ww_878 ww_828 ww_827 ww_130 (by decide) (by decide) (by decide +kernel) (by decide) (by decide) d_Tk_copyFrom_25 rfl ?_
  refine MM.aload_n (i := 1) rfl rfl d_Tk_copyFrom_28 rfl ?_
  refine MM.gR 5 6 t_a1 rq_5_7 rfl lays_5 ww_266 d_Tk_copyFrom_29 rfl ?_
  refine MM.iconst ic_0 d_Tk_copyFrom_32 rfl ?_
  refine MM.aload_n (i := 0) rfl rfl d_Tk_copyFrom_33 rfl ?_
  refine MM.gR 5 6 t_a0 rq_5_7 rfl lays_5 ww_266 d_Tk_copyFrom_34 rfl ?_
  refine MM.iconst ic_0 d_Tk_copyFrom_37 rfl ?_
  refine MM.bipush bp_10 d_Tk_copyFrom_38 rfl ?_
  obtain ⟨h7, e8, hf⟩ := mm_letE hf
  refine MM.copyI (n := 10) e8 (al_5_7f t_a1) (al_5_7f t_a0) ww_878 ww_828 ww_827 ww_130 (by decide) (by decide) (by decide +kernel) (by decide) (by decide) d_Tk_copyFrom_40 rfl ?_
  obtain rfl := Option.some.inj hf
  subst hZ
  exact MM.vret rfl d_Tk_copyFrom_43 ⟨rfl, rfl⟩
theorem d_X_mark_0 : decode cX11_mark 0 = .ok (.iload_n 1, 1) := by decide +kernel
theorem d_X_mark_1 : decode cX11_mark 1 = .ok (.ifCond .lt 23, 3) := by decide +kernel
theorem d_X_mark_4 : decode cX11_mark 4 = .ok (.iload_n 1, 1) := by decide +kernel
theorem d_X_mark_5 : decode cX11_mark 5 = .ok (.iconst 4, 1) := by decide +kernel
theorem d_X_mark_6 : decode cX11_mark 6 = .ok (.if_icmp .ge 18, 3) := by decide +kernel
theorem d_X_mark_9 : decode cX11_mark 9 = .ok (.iload_n 2, 1) := by decide +kernel
theorem d_X_mark_10 : decode cX11_mark 10 = .ok (.ifCond .eq 16, 3) := by decide +kernel
theorem d_X_mark_13 : decode cX11_mark 13 = .ok (.aload_n 0, 1) := by decide +kernel
theorem d_X_mark_14 : decode cX11_mark 14 = .ok (.getfield 95, 3) := by decide +kernel
theorem d_X_mark_17 : decode cX11_mark 17 = .ok (.iload_n 1, 1) := by decide +kernel
theorem d_X_mark_18 : decode cX11_mark 18 = .ok (.invokestatic 164, 3) := by decide +kernel
theorem d_X_mark_21 : decode cX11_mark 21 = .ok (.ifCond .ne 5, 3) := by decide +kernel
theorem d_X_mark_24 : decode cX11_mark 24 = .ok (.iconst 0, 1) := by decide +kernel
theorem d_X_mark_25 : decode cX11_mark 25 = .ok (.ireturn, 1) := by decide +kernel
theorem d_X_mark_26 : decode cX11_mark 26 = .ok (.iload_n 2, 1) := by decide +kernel
theorem d_X_mark_27 : decode cX11_mark 27 = .ok (.ifCond .eq 37, 3) := by decide +kernel
theorem d_X_mark_30 : decode cX11_mark 30 = .ok (.aload_n 0, 1) := by decide +kernel
theorem d_X_mark_31 : decode cX11_mark 31 = .ok (.getfield 19, 3) := by decide +kernel
theorem d_X_mark_34 : decode cX11_mark 34 = .ok (.aload_n 0, 1) := by decide +kernel
theorem d_X_mark_35 : decode cX11_mark 35 = .ok (.getfield 40, 3) := by decide +kernel
theorem d_X_mark_38 : decode cX11_mark 38 = .ok (.iload_n 1, 1) := by decide +kernel
theorem d_X_mark_39 : decode cX11_mark 39 = .ok (.aaload, 1) := by decide +kernel
theorem d_X_mark_40 : decode cX11_mark 40 = .ok (.invokevirtual 251, 3) := by decide +kernel
theorem d_X_mark_43 : decode cX11_mark 43 = .ok (.aload_n 0, 1) := by decide +kernel
theorem d_X_mark_44 : decode cX11_mark 44 = .ok (.getfield 29, 3) := by decide +kernel
theorem d_X_mark_47 : decode cX11_mark 47 = .ok (.aload_n 0, 1) := by decide +kernel
theorem d_X_mark_48 : decode cX11_mark 48 = .ok (.getfield 43, 3) := by decide +kernel
theorem d_X_mark_51 : decode cX11_mark 51 = .ok (.iload_n 1, 1) := by decide +kernel
theorem d_X_mark_52 : decode cX11_mark 52 = .ok (.aaload, 1) := by decide +kernel
theorem d_X_mark_53 : decode cX11_mark 53 = .ok (.invokevirtual 317, 3) := by decide +kernel
theorem d_X_mark_56 : decode cX11_mark 56 = .ok (.aload_n 0, 1) := by decide +kernel
theorem d_X_mark_57 : decode cX11_mark 57 = .ok (.iconst 0, 1) := by decide +kernel
theorem d_X_mark_58 : decode cX11_mark 58 = .ok (.putfield 88, 3) := by decide +kernel
theorem d_X_mark_61 : decode cX11_mark 61 = .ok (.goto 41, 3) := by decide +kernel
theorem d_X_mark_64 : decode cX11_mark 64 = .ok (.aload_n 0, 1) := by decide +kernel
theorem d_X_mark_65 : decode cX11_mark 65 = .ok (.getfield 40, 3) := by decide +kernel
theorem d_X_mark_68 : decode cX11_mark 68 = .ok (.iload_n 1, 1) := by decide +kernel
theorem d_X_mark_69 : decode cX11_mark 69 = .ok (.aaload, 1) := by decide +kernel
theorem d_X_mark_70 : decode cX11_mark 70 = .ok (.aload_n 0, 1) := by decide +kernel
theorem d_X_mark_71 : decode cX11_mark 71 = .ok (.getfield 19, 3) := by decide +kernel
theorem d_X_mark_74 : decode cX11_mark 74 = .ok (.invokevirtual 251, 3) := by decide +kernel
theorem d_X_mark_77 : decode cX11_mark 77 = .ok (.aload_n 0, 1) := by decide +kernel
theorem d_X_mark_78 : decode cX11_mark 78 = .ok (.getfield 43, 3) := by decide +kernel
theorem d_X_mark_81 : decode cX11_mark 81 = .ok (.iload_n 1, 1) := by decide +kernel
theorem d_X_mark_82 : decode cX11_mark 82 = .ok (.aaload, 1) := by decide +kernel
theorem d_X_mark_83 : decode cX11_mark 83 = .ok (.aload_n 0, 1) := by decide +kernel
theorem d_X_mark_84 : decode cX11_mark 84 = .ok (.getfield 29, 3) := by decide +kernel
theorem d_X_mark_87 : decode cX11_mark 87 = .ok (.invokevirtual 317, 3) := by decide +kernel
theorem d_X_mark_90 : decode cX11_mark 90 = .ok (.aload_n 0, 1) := by decide +kernel
theorem d_X_mark_91 : decode cX11_mark 91 = .ok (.dup, 1) := by decide +kernel
theorem d_X_mark_92 : decode cX11_mark 92 = .ok (.getfield 95, 3) := by decide +kernel
theorem d_X_mark_95 : decode cX11_mark 95 = .ok (.iconst 1, 1) := by decide +kernel
theorem d_X_mark_96 : decode cX11_mark 96 = .ok (.iload_n 1, 1) := by decide +kernel
theorem d_X_mark_97 : decode cX11_mark 97 = .ok (.ishl, 1) := by decide +kernel
theorem d_X_mark_98 : decode cX11_mark 98 = .ok (.ior, 1) := by decide +kernel
theorem d_X_mark_99 : decode cX11_mark 99 = .ok (.putfield 95, 3) := by decide +kernel
theorem d_X_mark_102 : decode cX11_mark 102 = .ok (.iconst 1, 1) := by decide +kernel
theorem d_X_mark_103 : decode cX11_mark 103 = .ok (.ireturn, 1) := by decide +kernel
noncomputable def f_X_mark (x1 : Int32) (x2 : Int32) (h : mm_H) : Option (Int32 × mm_H) := if x1 < 0 then (some (0, h)) else (if 4 ≤ x1 then (some (0, h)) else (mm_jp (fun (j1 : Unit) => (if x2 = 0 then ((mm_ix x1 4).bind fun k4 => (f_St_copyFrom (209 + 13 * k4) 35 h).bind fun v9 => (mm_ix x1 4).bind fun k10 => (f_Tk_copyFrom (215 + 13 * k10) 47 v9).bind fun v15 => mm_let (mm_pI v15 32 18 ((v15.1 32 18) ||| ((1 : Int32) <<< (x1 &&& 31)))) fun h16 => some (1, h16)) else ((mm_ix x1 4).bind fun k18 => (f_St_copyFrom 35 (209 + 13 * k18) h).bind fun v23 => (mm_ix x1 4).bind fun k24 => (f_Tk_copyFrom 47 (215 + 13 * k24) v23).bind fun v29 => mm_let (mm_pI v29 32 16 0) fun h30 => some (1, h30)))) fun k3 => if x2 = 0 then (k3 ()) else ((f_X_bit (h.1 32 18) x1).bind fun v36 => if v36 = 0 then (some (0, h)) else (k3 ()))))
theorem T_X_mark (V : mm_V) (l : Launch) (x1 : Int32) (x2 : Int32) (h : mm_H) (r : (Int32 × mm_H)) (hf : f_X_mark x1 x2 h = some r) : MT V l Y_X_mark 3 [.ref 32, .int x1, .int x2] (fun r1 h1 => r1 = some (.int r.1) ∧ h1 = r.2) h := by
  unfold f_X_mark at hf
  refine MT.intro (pn_X rfl) [(0, .ref 32), (1, .int x1), (2, .int x2)] rfl (Nat.le_of_ble_eq_true rfl) ?_
  generalize hZ : mm_Z V _ = Z0
  refine MM.iload_n (i := 1) rfl rfl d_X_mark_0 rfl ?_
  obtain ⟨m48, m49⟩ := mm_ifE hf
  refine MM.if_lt (tgt := 24) d_X_mark_1 rfl rfl (fun c47 => ?_) (fun c47 => ?_)
  · replace hf := m48 c47
    refine MM.iconst ic_0 d_X_mark_24 rfl ?_
    obtain rfl := Option.some.inj hf
    subst hZ
    exact MM.zret (Or.inl rfl) rfl d_X_mark_25 ⟨rfl, rfl⟩
  · replace hf := m49 c47
    refine MM.iload_n (i := 1) rfl rfl d_X_mark_4 rfl ?_
    refine MM.iconst ic_4 d_X_mark_5 rfl ?_
    obtain ⟨m45, m46⟩ := mm_ifE hf
    refine MM.icmp_ge (tgt := 24) d_X_mark_6 rfl rfl (fun c44 => ?_) (fun c44 => ?_)
    · replace hf := m45 c44
      refine MM.iconst ic_0 d_X_mark_24 rfl ?_
      obtain rfl := Option.some.inj hf
      subst hZ
      exact MM.zret (Or.inl rfl) rfl d_X_mark_25 ⟨rfl, rfl⟩
    · replace hf := m46 c44
      refine MM.iload_n (i := 2) rfl rfl d_X_mark_9 rfl ?_
      obtain ⟨k3, e43, hf⟩ := mm_jpE hf
      have K2 : ∀ j1, k3 j1 = some r → MM V l Y_X_mark 3 0 0 Z0 26 [(0, .ref 32), (1, .int x1), (2, .int x2)] [] h := by
        intro j1 hf
        rw [e43] at hf
        refine MM.iload_n (i := 2) rfl rfl d_X_mark_26 rfl ?_
        obtain ⟨m33, m34⟩ := mm_ifE hf
        refine MM.if_eq (tgt := 64) d_X_mark_27 rfl rfl (fun c32 => ?_) (fun c32 => ?_)
        · replace hf := m33 c32
          refine MM.aload_n (i := 0) rfl rfl d_X_mark_64 rfl ?_
          refine MM.gR 8 30 tg_32 rq_8_6 rfl lays_8 ww_478 d_X_mark_65 rfl ?_
          refine MM.iload_n (i := 1) rfl rfl d_X_mark_68 rfl ?_
          obtain ⟨k4, e5, hf⟩ := mm_bind hf
          refine MM.gS62 e5 (rfl : (209 + 13 * k4) = (209 + 13 * k4)) d_X_mark_69 rfl ?_
          refine MM.aload_n (i := 0) rfl rfl d_X_mark_70 rfl ?_
          refine MM.gR 8 3 tg_32 rq_8_1 rfl lays_8 ww_473 d_X_mark_71 rfl ?_
          obtain ⟨v9, e8, hf⟩ := mm_bind hf
          refine MM.callV0 (T_St_copyFrom V l (209 + 13 * k4) 35 h _ e8) (fun _ _ q => q) cal_St_copyFrom rfl (tgs_62 e5) ct_4 ww_969 ww_968 ww_967 (by decide) (by simp [Value.category]) d_X_mark_74 rfl ⟨rfl, rfl⟩ rfl ?_
          refine MM.aload_n (i := 0) rfl rfl d_X_mark_77 rfl ?_
          refine MM.gR 8 31 tg_32 rq_8_7 rfl lays_8 ww_479 d_X_mark_78 rfl ?_
          refine MM.iload_n (i := 1) rfl rfl d_X_mark_81 rfl ?_
          obtain ⟨k10, e11, hf⟩ := mm_bind hf
          refine MM.gS63 e11 (rfl : (215 + 13 * k10) = (215 + 13 * k10)) d_X_mark_82 rfl ?_
          refine MM.aload_n (i := 0) rfl rfl d_X_mark_83 rfl ?_
          refine MM.gR 8 15 tg_32 rq_8_3 rfl lays_8 ww_475 d_X_mark_84 rfl ?_
          obtain ⟨v15, e14, hf⟩ := mm_bind hf
          refine MM.callV0 (T_Tk_copyFrom V l (215 + 13 * k10) 47 v9 _ e14) (fun _ _ q => q) cal_Tk_copyFrom rfl (tgs_63 e11) ct_5 ww_1238 ww_1237 ww_1236 (by decide) (by simp [Value.category]) d_X_mark_87 rfl ⟨rfl, rfl⟩ rfl ?_
          refine MM.aload_n (i := 0) rfl rfl d_X_mark_90 rfl ?_
          refine MM.dup rfl d_X_mark_91 rfl ?_
          refine MM.getI 8 tg_32 lays_8 gq_8_18 ww_490 d_X_mark_92 rfl ?_
          refine MM.iconst ic_1 d_X_mark_95 rfl ?_
          refine MM.iload_n (i := 1) rfl rfl d_X_mark_96 rfl ?_
          refine MM.ishl d_X_mark_97 rfl ?_
          refine MM.ior d_X_mark_98 rfl ?_
          obtain ⟨h16, e17, hf⟩ := mm_letE hf
          refine MM.putI e17 8 tg_32 lays_8 toks_8 pq_8_18 ww_490 d_X_mark_99 rfl ?_
          refine MM.iconst ic_1 d_X_mark_102 rfl ?_
          obtain rfl := Option.some.inj hf
          subst hZ
          exact MM.zret (Or.inr rfl) rfl d_X_mark_103 ⟨rfl, rfl⟩
        · replace hf := m34 c32
          refine MM.aload_n (i := 0) rfl rfl d_X_mark_30 rfl ?_
          refine MM.gR 8 3 tg_32 rq_8_1 rfl lays_8 ww_473 d_X_mark_31 rfl ?_
          refine MM.aload_n (i := 0) rfl rfl d_X_mark_34 rfl ?_
          refine MM.gR 8 30 tg_32 rq_8_6 rfl lays_8 ww_478 d_X_mark_35 rfl ?_
          refine MM.iload_n (i := 1) rfl rfl d_X_mark_38 rfl ?_
          obtain ⟨k18, e19, hf⟩ := mm_bind hf
          refine MM.gS62 e19 (rfl : (209 + 13 * k18) = (209 + 13 * k18)) d_X_mark_39 rfl ?_
          obtain ⟨v23, e22, hf⟩ := mm_bind hf
          refine MM.callV0 (T_St_copyFrom V l 35 (209 + 13 * k18) h _ e22) (fun _ _ q => q) cal_St_copyFrom rfl tg_35 ct_4 ww_969 ww_968 ww_967 (by decide) (by simp [Value.category]) d_X_mark_40 rfl ⟨rfl, rfl⟩ rfl ?_
          refine MM.aload_n (i := 0) rfl rfl d_X_mark_43 rfl ?_
          refine MM.gR 8 15 tg_32 rq_8_3 rfl lays_8 ww_475 d_X_mark_44 rfl ?_
          refine MM.aload_n (i := 0) rfl rfl d_X_mark_47 rfl ?_
          refine MM.gR 8 31 tg_32 rq_8_7 rfl lays_8 ww_479 d_X_mark_48 rfl ?_
          refine MM.iload_n (i := 1) rfl rfl d_X_mark_51 rfl ?_
          obtain ⟨k24, e25, hf⟩ := mm_bind hf
          refine MM.gS63 e25 (rfl : (215 + 13 * k24) = (215 + 13 * k24)) d_X_mark_52 rfl ?_
          obtain ⟨v29, e28, hf⟩ := mm_bind hf
          refine MM.callV0 (T_Tk_copyFrom V l 47 (215 + 13 * k24) v23 _ e28) (fun _ _ q => q) cal_Tk_copyFrom rfl tg_47 ct_5 ww_1238 ww_1237 ww_1236 (by decide) (by simp [Value.category]) d_X_mark_53 rfl ⟨rfl, rfl⟩ rfl ?_
          refine MM.aload_n (i := 0) rfl rfl d_X_mark_56 rfl ?_
          refine MM.iconst ic_0 d_X_mark_57 rfl ?_
          obtain ⟨h30, e31, hf⟩ := mm_letE hf
          refine MM.putI e31 8 tg_32 lays_8 toks_8 pq_8_16 ww_488 d_X_mark_58 rfl ?_
          refine MM.goto (tgt := 102) d_X_mark_61 rfl ?_
          refine MM.iconst ic_1 d_X_mark_102 rfl ?_
          obtain rfl := Option.some.inj hf
          subst hZ
          exact MM.zret (Or.inr rfl) rfl d_X_mark_103 ⟨rfl, rfl⟩
      clear e43
      obtain ⟨m41, m42⟩ := mm_ifE hf
      refine MM.if_eq (tgt := 26) d_X_mark_10 rfl rfl (fun c40 => ?_) (fun c40 => ?_)
      · replace hf := m41 c40
        exact MM.sub [0, 1, 2] (by rfl) (K2 _ hf)
      · replace hf := m42 c40
        refine MM.aload_n (i := 0) rfl rfl d_X_mark_13 rfl ?_
        refine MM.getI 8 tg_32 lays_8 gq_8_18 ww_490 d_X_mark_14 rfl ?_
        refine MM.iload_n (i := 1) rfl rfl d_X_mark_17 rfl ?_
        obtain ⟨v36, e35, hf⟩ := mm_bind hf
        refine MM.callS1 (T_X_bit V l (h.1 32 18) x1 h _ e35) (fun _ _ q => q) cal_X_bit rfl ww_763 ww_887 (by decide) (by simp [Value.category]) d_X_mark_18 rfl ⟨rfl, rfl⟩ rfl ?_
        obtain ⟨m38, m39⟩ := mm_ifE hf
        refine MM.if_ne (tgt := 26) d_X_mark_21 rfl rfl (fun c37 => ?_) (fun c37 => ?_)
        · replace hf := m39 c37
          exact MM.sub [0, 1, 2] (by rfl) (K2 _ hf)
        · replace hf := m38 c37
          refine MM.iconst ic_0 d_X_mark_24 rfl ?_
          obtain rfl := Option.some.inj hf
          subst hZ
          exact MM.zret (Or.inl rfl) rfl d_X_mark_25 ⟨rfl, rfl⟩
theorem d_X_count_0 : decode cX11_count 0 = .ok (.iload_n 1, 1) := by decide +kernel
theorem d_X_count_1 : decode cX11_count 1 = .ok (.tableswitch 155 0 10 #[59, 67, 75, 83, 91, 99, 118, 126, 134, 142, 147], 59) := by decide +kernel
theorem d_X_count_60 : decode cX11_count 60 = .ok (.aload_n 0, 1) := by decide +kernel
theorem d_X_count_61 : decode cX11_count 61 = .ok (.getfield 81, 3) := by decide +kernel
theorem d_X_count_64 : decode cX11_count 64 = .ok (.getfield 304, 3) := by decide +kernel
theorem d_X_count_67 : decode cX11_count 67 = .ok (.ireturn, 1) := by decide +kernel
theorem d_X_count_68 : decode cX11_count 68 = .ok (.aload_n 0, 1) := by decide +kernel
theorem d_X_count_69 : decode cX11_count 69 = .ok (.getfield 81, 3) := by decide +kernel
theorem d_X_count_72 : decode cX11_count 72 = .ok (.getfield 319, 3) := by decide +kernel
theorem d_X_count_75 : decode cX11_count 75 = .ok (.ireturn, 1) := by decide +kernel
theorem d_X_count_76 : decode cX11_count 76 = .ok (.aload_n 0, 1) := by decide +kernel
theorem d_X_count_77 : decode cX11_count 77 = .ok (.getfield 81, 3) := by decide +kernel
theorem d_X_count_80 : decode cX11_count 80 = .ok (.getfield 322, 3) := by decide +kernel
theorem d_X_count_83 : decode cX11_count 83 = .ok (.ireturn, 1) := by decide +kernel
theorem d_X_count_84 : decode cX11_count 84 = .ok (.aload_n 0, 1) := by decide +kernel
theorem d_X_count_85 : decode cX11_count 85 = .ok (.getfield 81, 3) := by decide +kernel
theorem d_X_count_88 : decode cX11_count 88 = .ok (.getfield 325, 3) := by decide +kernel
theorem d_X_count_91 : decode cX11_count 91 = .ok (.ireturn, 1) := by decide +kernel
theorem d_X_count_92 : decode cX11_count 92 = .ok (.aload_n 0, 1) := by decide +kernel
theorem d_X_count_93 : decode cX11_count 93 = .ok (.getfield 19, 3) := by decide +kernel
theorem d_X_count_96 : decode cX11_count 96 = .ok (.getfield 328, 3) := by decide +kernel
theorem d_X_count_99 : decode cX11_count 99 = .ok (.ireturn, 1) := by decide +kernel
theorem d_X_count_100 : decode cX11_count 100 = .ok (.aload_n 0, 1) := by decide +kernel
theorem d_X_count_101 : decode cX11_count 101 = .ok (.aload_n 0, 1) := by decide +kernel
theorem d_X_count_102 : decode cX11_count 102 = .ok (.getfield 19, 3) := by decide +kernel
theorem d_X_count_105 : decode cX11_count 105 = .ok (.invokevirtual 153, 3) := by decide +kernel
theorem d_X_count_108 : decode cX11_count 108 = .ok (.aload_n 0, 1) := by decide +kernel
theorem d_X_count_109 : decode cX11_count 109 = .ok (.getfield 81, 3) := by decide +kernel
theorem d_X_count_112 : decode cX11_count 112 = .ok (.invokevirtual 331, 3) := by decide +kernel
theorem d_X_count_115 : decode cX11_count 115 = .ok (.invokestatic 157, 3) := by decide +kernel
theorem d_X_count_118 : decode cX11_count 118 = .ok (.ireturn, 1) := by decide +kernel
theorem d_X_count_119 : decode cX11_count 119 = .ok (.aload_n 0, 1) := by decide +kernel
theorem d_X_count_120 : decode cX11_count 120 = .ok (.getfield 29, 3) := by decide +kernel
theorem d_X_count_123 : decode cX11_count 123 = .ok (.getfield 335, 3) := by decide +kernel
theorem d_X_count_126 : decode cX11_count 126 = .ok (.ireturn, 1) := by decide +kernel
theorem d_X_count_127 : decode cX11_count 127 = .ok (.aload_n 0, 1) := by decide +kernel
theorem d_X_count_128 : decode cX11_count 128 = .ok (.getfield 29, 3) := by decide +kernel
theorem d_X_count_131 : decode cX11_count 131 = .ok (.getfield 338, 3) := by decide +kernel
theorem d_X_count_134 : decode cX11_count 134 = .ok (.ireturn, 1) := by decide +kernel
theorem d_X_count_135 : decode cX11_count 135 = .ok (.aload_n 0, 1) := by decide +kernel
theorem d_X_count_136 : decode cX11_count 136 = .ok (.getfield 19, 3) := by decide +kernel
theorem d_X_count_139 : decode cX11_count 139 = .ok (.getfield 341, 3) := by decide +kernel
theorem d_X_count_142 : decode cX11_count 142 = .ok (.ireturn, 1) := by decide +kernel
theorem d_X_count_143 : decode cX11_count 143 = .ok (.aload_n 0, 1) := by decide +kernel
theorem d_X_count_144 : decode cX11_count 144 = .ok (.getfield 88, 3) := by decide +kernel
theorem d_X_count_147 : decode cX11_count 147 = .ok (.ireturn, 1) := by decide +kernel
theorem d_X_count_148 : decode cX11_count 148 = .ok (.aload_n 0, 1) := by decide +kernel
theorem d_X_count_149 : decode cX11_count 149 = .ok (.getfield 12, 3) := by decide +kernel
theorem d_X_count_152 : decode cX11_count 152 = .ok (.getfield 106, 3) := by decide +kernel
theorem d_X_count_155 : decode cX11_count 155 = .ok (.ireturn, 1) := by decide +kernel
theorem d_X_count_156 : decode cX11_count 156 = .ok (.iconst (-1), 1) := by decide +kernel
theorem d_X_count_157 : decode cX11_count 157 = .ok (.ireturn, 1) := by decide +kernel
noncomputable def f_X_count (x1 : Int32) (h : mm_H) : Option (Int32 × mm_H) := if x1 = 0 then ((mm_gT h 14).bind fun t1 => some ((h.1 t1 0), h)) else if x1 = 1 then ((mm_gT h 14).bind fun t6 => some ((h.1 t6 6), h)) else if x1 = 2 then ((mm_gT h 14).bind fun t11 => some ((h.1 t11 13), h)) else if x1 = 3 then ((mm_gT h 14).bind fun t16 => some ((h.1 t16 17), h)) else if x1 = 4 then (some ((h.1 35 9), h)) else if x1 = 5 then ((f_X_weighed 35 h).bind fun v25 => (mm_gT v25 14).bind fun t26 => (f_To_allSecrets t26 v25).bind fun v29 => (f_X_together 76 v29 v25).bind fun v31 => some (v31, v25)) else if x1 = 6 then (some ((h.1 47 0), h)) else if x1 = 7 then (some ((h.1 47 5), h)) else if x1 = 8 then (some ((h.1 35 8), h)) else if x1 = 9 then (some ((h.1 32 16), h)) else if x1 = 10 then (some ((h.1 33 1), h)) else (some ((-1), h))
theorem T_X_count (V : mm_V) (l : Launch) (x1 : Int32) (h : mm_H) (r : (Int32 × mm_H)) (hf : f_X_count x1 h = some r) : MT V l Y_X_count 6 [.ref 32, .int x1] (fun r1 h1 => r1 = some (.int r.1) ∧ h1 = r.2) h := by
  unfold f_X_count at hf
  refine MT.intro (pn_X rfl) [(0, .ref 32), (1, .int x1)] rfl (Nat.le_of_ble_eq_true rfl) ?_
  generalize hZ : mm_Z V _ = Z0
  refine MM.iload_n (i := 1) rfl rfl d_X_count_0 rfl ?_
  obtain ⟨m3, m4⟩ := mm_ifE hf
  by_cases c5 : x1 = 0
  · replace hf := m3 c5
    refine MM.tableIn (tgt := 60) 0 (by rw [c5]; decide +kernel) (by decide) d_X_count_1 rfl rfl ?_
    refine MM.aload_n (i := 0) rfl rfl d_X_count_60 rfl ?_
    obtain ⟨t1, e2, hf⟩ := mm_bind hf
    obtain ⟨e2, t_t1⟩ := mm_gTE e2
    refine MM.gT e2 tg_32 tq_14 lays_8 ww_486 d_X_count_61 rfl ?_
    refine MM.getI 7 t_t1 lays_7 gq_7_0 ww_369 d_X_count_64 rfl ?_
    obtain rfl := Option.some.inj hf
    subst hZ
    exact MM.iret rfl d_X_count_67 ⟨rfl, rfl⟩
  replace hf := m4 c5
  obtain ⟨m8, m9⟩ := mm_ifE hf
  by_cases c10 : x1 = 1
  · replace hf := m8 c10
    refine MM.tableIn (tgt := 68) 1 (by rw [c10]; decide +kernel) (by decide) d_X_count_1 rfl rfl ?_
    refine MM.aload_n (i := 0) rfl rfl d_X_count_68 rfl ?_
    obtain ⟨t6, e7, hf⟩ := mm_bind hf
    obtain ⟨e7, t_t6⟩ := mm_gTE e7
    refine MM.gT e7 tg_32 tq_14 lays_8 ww_486 d_X_count_69 rfl ?_
    refine MM.getI 7 t_t6 lays_7 gq_7_6 ww_389 d_X_count_72 rfl ?_
    obtain rfl := Option.some.inj hf
    subst hZ
    exact MM.iret rfl d_X_count_75 ⟨rfl, rfl⟩
  replace hf := m9 c10
  obtain ⟨m13, m14⟩ := mm_ifE hf
  by_cases c15 : x1 = 2
  · replace hf := m13 c15
    refine MM.tableIn (tgt := 76) 2 (by rw [c15]; decide +kernel) (by decide) d_X_count_1 rfl rfl ?_
    refine MM.aload_n (i := 0) rfl rfl d_X_count_76 rfl ?_
    obtain ⟨t11, e12, hf⟩ := mm_bind hf
    obtain ⟨e12, t_t11⟩ := mm_gTE e12
    refine MM.gT e12 tg_32 tq_14 lays_8 ww_486 d_X_count_77 rfl ?_
    refine MM.getI 7 t_t11 lays_7 gq_7_13 ww_413 d_X_count_80 rfl ?_
    obtain rfl := Option.some.inj hf
    subst hZ
    exact MM.iret rfl d_X_count_83 ⟨rfl, rfl⟩
  replace hf := m14 c15
  obtain ⟨m18, m19⟩ := mm_ifE hf
  by_cases c20 : x1 = 3
  · replace hf := m18 c20
    refine MM.tableIn (tgt := 84) 3 (by rw [c20]; decide +kernel) (by decide) d_X_count_1 rfl rfl ?_
    refine MM.aload_n (i := 0) rfl rfl d_X_count_84 rfl ?_
    obtain ⟨t16, e17, hf⟩ := mm_bind hf
    obtain ⟨e17, t_t16⟩ := mm_gTE e17
    refine MM.gT e17 tg_32 tq_14 lays_8 ww_486 d_X_count_85 rfl ?_
    refine MM.getI 7 t_t16 lays_7 gq_7_17 ww_424 d_X_count_88 rfl ?_
    obtain rfl := Option.some.inj hf
    subst hZ
    exact MM.iret rfl d_X_count_91 ⟨rfl, rfl⟩
  replace hf := m19 c20
  obtain ⟨m21, m22⟩ := mm_ifE hf
  by_cases c23 : x1 = 4
  · replace hf := m21 c23
    refine MM.tableIn (tgt := 92) 4 (by rw [c23]; decide +kernel) (by decide) d_X_count_1 rfl rfl ?_
    refine MM.aload_n (i := 0) rfl rfl d_X_count_92 rfl ?_
    refine MM.gR 8 3 tg_32 rq_8_1 rfl lays_8 ww_473 d_X_count_93 rfl ?_
    refine MM.getI 4 tg_35 lays_4 gq_4_9 ww_221 d_X_count_96 rfl ?_
    obtain rfl := Option.some.inj hf
    subst hZ
    exact MM.iret rfl d_X_count_99 ⟨rfl, rfl⟩
  replace hf := m22 c23
  obtain ⟨m32, m33⟩ := mm_ifE hf
  by_cases c34 : x1 = 5
  · replace hf := m32 c34
    refine MM.tableIn (tgt := 100) 5 (by rw [c34]; decide +kernel) (by decide) d_X_count_1 rfl rfl ?_
    refine MM.aload_n (i := 0) rfl rfl d_X_count_100 rfl ?_
    refine MM.aload_n (i := 0) rfl rfl d_X_count_101 rfl ?_
    refine MM.gR 8 3 tg_32 rq_8_1 rfl lays_8 ww_473 d_X_count_102 rfl ?_
    obtain ⟨v25, e24, hf⟩ := mm_bind hf
    refine MM.callV1 (T_X_weighed V l 35 h _ e24) (fun _ _ q => q) cal_X_weighed rfl tg_32 ct_8 ww_8 ww_900 ww_898 (by decide) (by simp [Value.category]) d_X_count_105 rfl ⟨rfl, rfl⟩ rfl ?_
    refine MM.aload_n (i := 0) rfl rfl d_X_count_108 rfl ?_
    obtain ⟨t26, e27, hf⟩ := mm_bind hf
    obtain ⟨e27, t_t26⟩ := mm_gTE e27
    refine MM.gT e27 tg_32 tq_14 lays_8 ww_486 d_X_count_109 rfl ?_
    obtain ⟨v29, e28, hf⟩ := mm_bind hf
    refine MM.callV1 (T_To_allSecrets V l t26 v25 _ e28) (fun _ _ q => q) cal_To_allSecrets rfl t_t26 ct_7 ww_1047 ww_1046 ww_1045 (by decide) (by simp [Value.category]) d_X_count_112 rfl ⟨rfl, rfl⟩ rfl ?_
    obtain ⟨v31, e30, hf⟩ := mm_bind hf
    refine MM.callS1 (T_X_together V l 76 v29 v25 _ e30) (fun _ _ q => q) cal_X_together rfl ww_994 ww_1000 (by decide) (by simp [Value.category]) d_X_count_115 rfl ⟨rfl, rfl⟩ rfl ?_
    obtain rfl := Option.some.inj hf
    subst hZ
    exact MM.iret rfl d_X_count_118 ⟨rfl, rfl⟩
  replace hf := m33 c34
  obtain ⟨m35, m36⟩ := mm_ifE hf
  by_cases c37 : x1 = 6
  · replace hf := m35 c37
    refine MM.tableIn (tgt := 119) 6 (by rw [c37]; decide +kernel) (by decide) d_X_count_1 rfl rfl ?_
    refine MM.aload_n (i := 0) rfl rfl d_X_count_119 rfl ?_
    refine MM.gR 8 15 tg_32 rq_8_3 rfl lays_8 ww_475 d_X_count_120 rfl ?_
    refine MM.getI 5 tg_47 lays_5 gq_5_0 ww_253 d_X_count_123 rfl ?_
    obtain rfl := Option.some.inj hf
    subst hZ
    exact MM.iret rfl d_X_count_126 ⟨rfl, rfl⟩
  replace hf := m36 c37
  obtain ⟨m38, m39⟩ := mm_ifE hf
  by_cases c40 : x1 = 7
  · replace hf := m38 c40
    refine MM.tableIn (tgt := 127) 7 (by rw [c40]; decide +kernel) (by decide) d_X_count_1 rfl rfl ?_
    refine MM.aload_n (i := 0) rfl rfl d_X_count_127 rfl ?_
    refine MM.gR 8 15 tg_32 rq_8_3 rfl lays_8 ww_475 d_X_count_128 rfl ?_
    refine MM.getI 5 tg_47 lays_5 gq_5_5 ww_263 d_X_count_131 rfl ?_
    obtain rfl := Option.some.inj hf
    subst hZ
    exact MM.iret rfl d_X_count_134 ⟨rfl, rfl⟩
  replace hf := m39 c40
  obtain ⟨m41, m42⟩ := mm_ifE hf
  by_cases c43 : x1 = 8
  · replace hf := m41 c43
    refine MM.tableIn (tgt := 135) 8 (by rw [c43]; decide +kernel) (by decide) d_X_count_1 rfl rfl ?_
    refine MM.aload_n (i := 0) rfl rfl d_X_count_135 rfl ?_
    refine MM.gR 8 3 tg_32 rq_8_1 rfl lays_8 ww_473 d_X_count_136 rfl ?_
    refine MM.getI 4 tg_35 lays_4 gq_4_8 ww_219 d_X_count_139 rfl ?_
    obtain rfl := Option.some.inj hf
    subst hZ
    exact MM.iret rfl d_X_count_142 ⟨rfl, rfl⟩
  replace hf := m42 c43
  obtain ⟨m44, m45⟩ := mm_ifE hf
  by_cases c46 : x1 = 9
  · replace hf := m44 c46
    refine MM.tableIn (tgt := 143) 9 (by rw [c46]; decide +kernel) (by decide) d_X_count_1 rfl rfl ?_
    refine MM.aload_n (i := 0) rfl rfl d_X_count_143 rfl ?_
    refine MM.getI 8 tg_32 lays_8 gq_8_16 ww_488 d_X_count_144 rfl ?_
    obtain rfl := Option.some.inj hf
    subst hZ
    exact MM.iret rfl d_X_count_147 ⟨rfl, rfl⟩
  replace hf := m45 c46
  obtain ⟨m47, m48⟩ := mm_ifE hf
  by_cases c49 : x1 = 10
  · replace hf := m47 c49
    refine MM.tableIn (tgt := 148) 10 (by rw [c49]; decide +kernel) (by decide) d_X_count_1 rfl rfl ?_
    refine MM.aload_n (i := 0) rfl rfl d_X_count_148 rfl ?_
    refine MM.gR 8 1 tg_32 rq_8_0 rfl lays_8 ww_472 d_X_count_149 rfl ?_
    refine MM.getI 6 tg_33 lays_6 gq_6_1 ww_153 d_X_count_152 rfl ?_
    obtain rfl := Option.some.inj hf
    subst hZ
    exact MM.iret rfl d_X_count_155 ⟨rfl, rfl⟩
  replace hf := m48 c49
  have zc5 := mm_swOut c5
  have zc10 := mm_swOut c10
  have zc15 := mm_swOut c15
  have zc20 := mm_swOut c20
  have zc23 := mm_swOut c23
  have zc34 := mm_swOut c34
  have zc37 := mm_swOut c37
  have zc40 := mm_swOut c40
  have zc43 := mm_swOut c43
  have zc46 := mm_swOut c46
  have zc49 := mm_swOut c49
  refine MM.tableOut (tgt := 156) (by replace zc5 : _ ≠ (0 : Int) := zc5; replace zc10 : _ ≠ (1 : Int) := zc10; replace zc15 : _ ≠ (2 : Int) := zc15; replace zc20 : _ ≠ (3 : Int) := zc20; replace zc23 : _ ≠ (4 : Int) := zc23; replace zc34 : _ ≠ (5 : Int) := zc34; replace zc37 : _ ≠ (6 : Int) := zc37; replace zc40 : _ ≠ (7 : Int) := zc40; replace zc43 : _ ≠ (8 : Int) := zc43; replace zc46 : _ ≠ (9 : Int) := zc46; replace zc49 : _ ≠ (10 : Int) := zc49; omega) d_X_count_1 rfl ?_
  refine MM.iconst ic_m1 d_X_count_156 rfl ?_
  obtain rfl := Option.some.inj hf
  subst hZ
  exact MM.iret rfl d_X_count_157 ⟨rfl, rfl⟩
theorem d_M_thrown_0 : decode cX12_thrown 0 = .ok (.aload_n 0, 1) := by decide +kernel
theorem d_M_thrown_1 : decode cX12_thrown 1 = .ok (.getfield 175, 3) := by decide +kernel
theorem d_M_thrown_4 : decode cX12_thrown 4 = .ok (.ireturn, 1) := by decide +kernel
noncomputable def f_M_thrown (h : mm_H) : Option Int32 := some (h.1 261 0)
theorem T_M_thrown (V : mm_V) (l : Launch) (h : mm_H) (r : Int32) (hf : f_M_thrown h = some r) : MT V l Y_M_thrown 1 [.ref 261] (fun r1 h1 => r1 = some (.int r) ∧ h1 = h) h := by
  unfold f_M_thrown at hf
  refine MT.intro (pn_M rfl) [(0, .ref 261)] rfl (Nat.le_of_ble_eq_true rfl) ?_
  generalize hZ : mm_Z V _ = Z0
  refine MM.aload_n (i := 0) rfl rfl d_M_thrown_0 rfl ?_
  refine MM.getI 9 tg_261 lays_9 gq_9_0 ww_1358 d_M_thrown_1 rfl ?_
  obtain rfl := Option.some.inj hf
  subst hZ
  exact MM.iret rfl d_M_thrown_4 ⟨rfl, rfl⟩
theorem d_M_within_0 : decode cX12_within 0 = .ok (.iload_n 0, 1) := by decide +kernel
theorem d_M_within_1 : decode cX12_within 1 = .ok (.iload_n 1, 1) := by decide +kernel
theorem d_M_within_2 : decode cX12_within 2 = .ok (.if_icmp .lt 12, 3) := by decide +kernel
theorem d_M_within_5 : decode cX12_within 5 = .ok (.iload_n 0, 1) := by decide +kernel
theorem d_M_within_6 : decode cX12_within 6 = .ok (.iload_n 2, 1) := by decide +kernel
theorem d_M_within_7 : decode cX12_within 7 = .ok (.if_icmp .gt 7, 3) := by decide +kernel
theorem d_M_within_10 : decode cX12_within 10 = .ok (.iconst 1, 1) := by decide +kernel
theorem d_M_within_11 : decode cX12_within 11 = .ok (.goto 4, 3) := by decide +kernel
theorem d_M_within_14 : decode cX12_within 14 = .ok (.iconst 0, 1) := by decide +kernel
theorem d_M_within_15 : decode cX12_within 15 = .ok (.ireturn, 1) := by decide +kernel
noncomputable def f_M_within (x0 : Int32) (x1 : Int32) (x2 : Int32) : Option Int32 := if x0 < x1 then (some 0) else (if x2 < x0 then (some 0) else (some 1))
theorem T_M_within (V : mm_V) (l : Launch) (x0 : Int32) (x1 : Int32) (x2 : Int32) (h : mm_H) (r : Int32) (hf : f_M_within x0 x1 x2 = some r) : MT V l Y_M_within 1 [.int x0, .int x1, .int x2] (fun r1 h1 => r1 = some (.int r) ∧ h1 = h) h := by
  unfold f_M_within at hf
  refine MT.intro (pn_M rfl) [(0, .int x0), (1, .int x1), (2, .int x2)] rfl (Nat.le_of_ble_eq_true rfl) ?_
  generalize hZ : mm_Z V _ = Z0
  refine MM.iload_n (i := 0) rfl rfl d_M_within_0 rfl ?_
  refine MM.iload_n (i := 1) rfl rfl d_M_within_1 rfl ?_
  obtain ⟨m5, m6⟩ := mm_ifE hf
  refine MM.icmp_lt (tgt := 14) d_M_within_2 rfl rfl (fun c4 => ?_) (fun c4 => ?_)
  · replace hf := m5 c4
    refine MM.iconst ic_0 d_M_within_14 rfl ?_
    obtain rfl := Option.some.inj hf
    subst hZ
    exact MM.zret (Or.inl rfl) rfl d_M_within_15 ⟨rfl, rfl⟩
  · replace hf := m6 c4
    refine MM.iload_n (i := 0) rfl rfl d_M_within_5 rfl ?_
    refine MM.iload_n (i := 2) rfl rfl d_M_within_6 rfl ?_
    obtain ⟨m2, m3⟩ := mm_ifE hf
    refine MM.icmp_gt (tgt := 14) d_M_within_7 rfl rfl (fun c1 => ?_) (fun c1 => ?_)
    · replace hf := m2 c1
      refine MM.iconst ic_0 d_M_within_14 rfl ?_
      obtain rfl := Option.some.inj hf
      subst hZ
      exact MM.zret (Or.inl rfl) rfl d_M_within_15 ⟨rfl, rfl⟩
    · replace hf := m3 c1
      refine MM.iconst ic_1 d_M_within_10 rfl ?_
      refine MM.goto (tgt := 15) d_M_within_11 rfl ?_
      obtain rfl := Option.some.inj hf
      subst hZ
      exact MM.zret (Or.inr rfl) rfl d_M_within_15 ⟨rfl, rfl⟩
theorem d_M_between_0 : decode cX12_between 0 = .ok (.iload_n 0, 1) := by decide +kernel
theorem d_M_between_1 : decode cX12_between 1 = .ok (.iload_n 1, 1) := by decide +kernel
theorem d_M_between_2 : decode cX12_between 2 = .ok (.if_icmp .ge 7, 3) := by decide +kernel
theorem d_M_between_5 : decode cX12_between 5 = .ok (.iload_n 1, 1) := by decide +kernel
theorem d_M_between_6 : decode cX12_between 6 = .ok (.goto 13, 3) := by decide +kernel
theorem d_M_between_9 : decode cX12_between 9 = .ok (.iload_n 0, 1) := by decide +kernel
theorem d_M_between_10 : decode cX12_between 10 = .ok (.iload_n 2, 1) := by decide +kernel
theorem d_M_between_11 : decode cX12_between 11 = .ok (.if_icmp .le 7, 3) := by decide +kernel
theorem d_M_between_14 : decode cX12_between 14 = .ok (.iload_n 2, 1) := by decide +kernel
theorem d_M_between_15 : decode cX12_between 15 = .ok (.goto 4, 3) := by decide +kernel
theorem d_M_between_18 : decode cX12_between 18 = .ok (.iload_n 0, 1) := by decide +kernel
theorem d_M_between_19 : decode cX12_between 19 = .ok (.ireturn, 1) := by decide +kernel
noncomputable def f_M_between (x0 : Int32) (x1 : Int32) (x2 : Int32) : Option Int32 := if x1 ≤ x0 then (if x0 ≤ x2 then (some x0) else (some x2)) else (some x1)
theorem T_M_between (V : mm_V) (l : Launch) (x0 : Int32) (x1 : Int32) (x2 : Int32) (h : mm_H) (r : Int32) (hf : f_M_between x0 x1 x2 = some r) : MT V l Y_M_between 1 [.int x0, .int x1, .int x2] (fun r1 h1 => r1 = some (.int r) ∧ h1 = h) h := by
  unfold f_M_between at hf
  refine MT.intro (pn_M rfl) [(0, .int x0), (1, .int x1), (2, .int x2)] rfl (Nat.le_of_ble_eq_true rfl) ?_
  generalize hZ : mm_Z V _ = Z0
  refine MM.iload_n (i := 0) rfl rfl d_M_between_0 rfl ?_
  refine MM.iload_n (i := 1) rfl rfl d_M_between_1 rfl ?_
  obtain ⟨m5, m6⟩ := mm_ifE hf
  refine MM.icmp_ge (tgt := 9) d_M_between_2 rfl rfl (fun c4 => ?_) (fun c4 => ?_)
  · replace hf := m5 c4
    refine MM.iload_n (i := 0) rfl rfl d_M_between_9 rfl ?_
    refine MM.iload_n (i := 2) rfl rfl d_M_between_10 rfl ?_
    obtain ⟨m2, m3⟩ := mm_ifE hf
    refine MM.icmp_le (tgt := 18) d_M_between_11 rfl rfl (fun c1 => ?_) (fun c1 => ?_)
    · replace hf := m2 c1
      refine MM.iload_n (i := 0) rfl rfl d_M_between_18 rfl ?_
      obtain rfl := Option.some.inj hf
      subst hZ
      exact MM.iret rfl d_M_between_19 ⟨rfl, rfl⟩
    · replace hf := m3 c1
      refine MM.iload_n (i := 2) rfl rfl d_M_between_14 rfl ?_
      refine MM.goto (tgt := 19) d_M_between_15 rfl ?_
      obtain rfl := Option.some.inj hf
      subst hZ
      exact MM.iret rfl d_M_between_19 ⟨rfl, rfl⟩
  · replace hf := m6 c4
    refine MM.iload_n (i := 1) rfl rfl d_M_between_5 rfl ?_
    refine MM.goto (tgt := 19) d_M_between_6 rfl ?_
    obtain rfl := Option.some.inj hf
    subst hZ
    exact MM.iret rfl d_M_between_19 ⟨rfl, rfl⟩
theorem d_M_bits_0 : decode cX12_bits 0 = .ok (.iconst 0, 1) := by decide +kernel
theorem d_M_bits_1 : decode cX12_bits 1 = .ok (.istore_n 1, 1) := by decide +kernel
theorem d_M_bits_2 : decode cX12_bits 2 = .ok (.iconst 0, 1) := by decide +kernel
theorem d_M_bits_3 : decode cX12_bits 3 = .ok (.istore_n 2, 1) := by decide +kernel
theorem d_M_bits_4 : decode cX12_bits 4 = .ok (.iload_n 2, 1) := by decide +kernel
theorem d_M_bits_5 : decode cX12_bits 5 = .ok (.bipush 10, 2) := by decide +kernel
theorem d_M_bits_7 : decode cX12_bits 7 = .ok (.if_icmp .ge 17, 3) := by decide +kernel
theorem d_M_bits_10 : decode cX12_bits 10 = .ok (.iload_n 1, 1) := by decide +kernel
theorem d_M_bits_11 : decode cX12_bits 11 = .ok (.iload_n 0, 1) := by decide +kernel
theorem d_M_bits_12 : decode cX12_bits 12 = .ok (.iload_n 2, 1) := by decide +kernel
theorem d_M_bits_13 : decode cX12_bits 13 = .ok (.ishr, 1) := by decide +kernel
theorem d_M_bits_14 : decode cX12_bits 14 = .ok (.iconst 1, 1) := by decide +kernel
theorem d_M_bits_15 : decode cX12_bits 15 = .ok (.iand, 1) := by decide +kernel
theorem d_M_bits_16 : decode cX12_bits 16 = .ok (.iadd, 1) := by decide +kernel
theorem d_M_bits_17 : decode cX12_bits 17 = .ok (.istore_n 1, 1) := by decide +kernel
theorem d_M_bits_18 : decode cX12_bits 18 = .ok (.iinc 2 1, 3) := by decide +kernel
theorem d_M_bits_21 : decode cX12_bits 21 = .ok (.goto (-17), 3) := by decide +kernel
theorem d_M_bits_24 : decode cX12_bits 24 = .ok (.iload_n 1, 1) := by decide +kernel
theorem d_M_bits_25 : decode cX12_bits 25 = .ok (.ireturn, 1) := by decide +kernel
noncomputable def f_M_bits (x0 : Int32) : Option Int32 := (mm_while (σ := (Int32 × Int32)) (ρ := Int32) (fun s1 => if 10 ≤ s1.2 then (some (Sum.inr s1.1)) else (mm_let (s1.1 + ((x0 >>> (s1.2 &&& 31)) &&& 1)) fun y7 => mm_let (s1.2 + 1) fun y9 => some (Sum.inl (y7, y9)))) (0, 0)).bind fun v4 => some v4
theorem T_M_bits (V : mm_V) (l : Launch) (x0 : Int32) (h : mm_H) (r : Int32) (hf : f_M_bits x0 = some r) : MT V l Y_M_bits 1 [.int x0] (fun r1 h1 => r1 = some (.int r) ∧ h1 = h) h := by
  unfold f_M_bits at hf
  refine MT.intro (pn_M rfl) [(0, .int x0)] rfl (Nat.le_of_ble_eq_true rfl) ?_
  generalize hZ : mm_Z V _ = Z0
  refine MM.iconst ic_0 d_M_bits_0 rfl ?_
  refine MM.istore_n (i := 1) (lv' := [(1, .int 0), (0, .int x0)]) rfl rfl (Nat.le_of_ble_eq_true rfl) rfl d_M_bits_1 rfl ?_
  refine MM.iconst ic_0 d_M_bits_2 rfl ?_
  refine MM.istore_n (i := 2) (lv' := [(2, .int 0), (1, .int 0), (0, .int x0)]) rfl rfl (Nat.le_of_ble_eq_true rfl) rfl d_M_bits_3 rfl ?_
  obtain ⟨v4, e6, hf⟩ := mm_bind hf
  have K5 : MM V l Y_M_bits 1 0 0 Z0 24 [(1, .int v4)] [] h := by
    refine MM.iload_n (i := 1) rfl rfl d_M_bits_24 rfl ?_
    obtain rfl := Option.some.inj hf
    subst hZ
    exact MM.iret rfl d_M_bits_25 ⟨rfl, rfl⟩
  clear hf
  refine MM.sub [2, 1, 0] (by rfl) (mm_while_ind (fun s1 => MM V l Y_M_bits 1 0 0 Z0 4 [(0, .int x0), (1, .int s1.1), (2, .int s1.2)] [] h) e6 (fun s1 q2 hf hx3 => ?_))
  refine MM.iload_n (i := 2) rfl rfl d_M_bits_4 rfl ?_
  refine MM.bipush bp_10 d_M_bits_5 rfl ?_
  obtain ⟨m12, m13⟩ := mm_ifE hf
  refine MM.icmp_ge (tgt := 24) d_M_bits_7 rfl rfl (fun c11 => ?_) (fun c11 => ?_)
  · replace hf := m12 c11
    obtain rfl := Option.some.inj hf
    obtain rfl := Option.some.inj (mm_wxR hx3)
    exact MM.sub [1] (by rfl) K5
  · replace hf := m13 c11
    refine MM.iload_n (i := 1) rfl rfl d_M_bits_10 rfl ?_
    refine MM.iload_n (i := 0) rfl rfl d_M_bits_11 rfl ?_
    refine MM.iload_n (i := 2) rfl rfl d_M_bits_12 rfl ?_
    refine MM.ishr d_M_bits_13 rfl ?_
    refine MM.iconst ic_1 d_M_bits_14 rfl ?_
    refine MM.iand d_M_bits_15 rfl ?_
    refine MM.iadd d_M_bits_16 rfl ?_
    obtain ⟨y7, e8, hf⟩ := mm_letE hf
    refine MM.istore_n (i := 1) (lv' := [(1, .int y7), (0, .int x0), (2, .int s1.2)]) e8 rfl (Nat.le_of_ble_eq_true rfl) rfl d_M_bits_17 rfl ?_
    obtain ⟨y9, e10, hf⟩ := mm_letE hf
    refine MM.iinc (k0 := 2) (lv' := [(2, .int y9), (1, .int y7), (0, .int x0)]) (by rw [ic_1]; exact e10) rfl (Nat.le_of_ble_eq_true rfl) rfl d_M_bits_18 rfl ?_
    refine MM.goto (tgt := 4) d_M_bits_21 rfl ?_
    obtain rfl := Option.some.inj hf
    have h9 := mm_wxL hx3
    exact MM.sub [2, 1, 0] (by rfl) h9
