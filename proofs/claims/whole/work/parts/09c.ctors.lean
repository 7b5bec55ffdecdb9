/-! PaidSecrets$State -/
theorem d_St_init_0 : decode cX5_init 0 = .ok (.aload_n 0, 1) := by decide +kernel
theorem d_St_init_1 : decode cX5_init 1 = .ok (.invokespecial 3, 3) := by decide +kernel
theorem d_St_init_4 : decode cX5_init 4 = .ok (.aload_n 0, 1) := by decide +kernel
theorem d_St_init_5 : decode cX5_init 5 = .ok (.bipush 10, 2) := by decide +kernel
theorem d_St_init_7 : decode cX5_init 7 = .ok (.newarray .int, 2) := by decide +kernel
theorem d_St_init_9 : decode cX5_init 9 = .ok (.putfield 9, 3) := by decide +kernel
theorem d_St_init_12 : decode cX5_init 12 = .ok (.aload_n 0, 1) := by decide +kernel
theorem d_St_init_13 : decode cX5_init 13 = .ok (.bipush 6, 2) := by decide +kernel
theorem d_St_init_15 : decode cX5_init 15 = .ok (.newarray .long, 2) := by decide +kernel
theorem d_St_init_17 : decode cX5_init 17 = .ok (.putfield 15, 3) := by decide +kernel
theorem d_St_init_20 : decode cX5_init 20 = .ok (.aload_n 0, 1) := by decide +kernel
theorem d_St_init_21 : decode cX5_init 21 = .ok (.bipush 6, 2) := by decide +kernel
theorem d_St_init_23 : decode cX5_init 23 = .ok (.newarray .int, 2) := by decide +kernel
theorem d_St_init_25 : decode cX5_init 25 = .ok (.putfield 19, 3) := by decide +kernel
theorem d_St_init_28 : decode cX5_init 28 = .ok (.aload_n 0, 1) := by decide +kernel
theorem d_St_init_29 : decode cX5_init 29 = .ok (.bipush 6, 2) := by decide +kernel
theorem d_St_init_31 : decode cX5_init 31 = .ok (.newarray .int, 2) := by decide +kernel
theorem d_St_init_33 : decode cX5_init 33 = .ok (.putfield 22, 3) := by decide +kernel
theorem d_St_init_36 : decode cX5_init 36 = .ok (.aload_n 0, 1) := by decide +kernel
theorem d_St_init_37 : decode cX5_init 37 = .ok (.bipush 6, 2) := by decide +kernel
theorem d_St_init_39 : decode cX5_init 39 = .ok (.newarray .int, 2) := by decide +kernel
theorem d_St_init_41 : decode cX5_init 41 = .ok (.putfield 25, 3) := by decide +kernel
theorem d_St_init_44 : decode cX5_init 44 = .ok (.aload_n 0, 1) := by decide +kernel
theorem d_St_init_45 : decode cX5_init 45 = .ok (.iconst 0, 1) := by decide +kernel
theorem d_St_init_46 : decode cX5_init 46 = .ok (.putfield 28, 3) := by decide +kernel
theorem d_St_init_49 : decode cX5_init 49 = .ok (.aload_n 0, 1) := by decide +kernel
theorem d_St_init_50 : decode cX5_init 50 = .ok (.iconst 0, 1) := by decide +kernel
theorem d_St_init_51 : decode cX5_init 51 = .ok (.putfield 32, 3) := by decide +kernel
theorem d_St_init_54 : decode cX5_init 54 = .ok (.aload_n 0, 1) := by decide +kernel
theorem d_St_init_55 : decode cX5_init 55 = .ok (.iconst 0, 1) := by decide +kernel
theorem d_St_init_56 : decode cX5_init 56 = .ok (.putfield 35, 3) := by decide +kernel
theorem d_St_init_59 : decode cX5_init 59 = .ok (.aload_n 0, 1) := by decide +kernel
theorem d_St_init_60 : decode cX5_init 60 = .ok (.iconst 0, 1) := by decide +kernel
theorem d_St_init_61 : decode cX5_init 61 = .ok (.putfield 38, 3) := by decide +kernel
theorem d_St_init_64 : decode cX5_init 64 = .ok (.aload_n 0, 1) := by decide +kernel
theorem d_St_init_65 : decode cX5_init 65 = .ok (.iconst 0, 1) := by decide +kernel
theorem d_St_init_66 : decode cX5_init 66 = .ok (.putfield 41, 3) := by decide +kernel
theorem d_St_init_69 : decode cX5_init 69 = .ok (.return_, 1) := by decide +kernel
theorem C_St_init (V : mm_V) (l : Launch) (a : Nat) (t_a : mm_tg a = 4) (w : Nat → Nat → Value) : MCT V l Y_St_init 2 5 34 a (mc_df w a) := by
  refine MCT.intro (pn_St rfl) (by decide) ?_
  refine MC.own (fs := [.null, .null, .null, .null, .null, .int 0, .int 0, .int 0, .int 0, .int 0]) rfl (fun k hk => dfl_4 t_a trivial k hk) ?_
  refine MC.aload_n (i := 0) rfl rfl d_St_init_0 rfl ?_
  refine MC.obj ww_200 ww_143 ww_144 (by decide) rfl d_St_init_1 rfl ?_
  refine MC.aload_n (i := 0) rfl rfl d_St_init_4 rfl ?_
  refine MC.bipush bp_10 d_St_init_5 rfl ?_
  refine MC.newarr (nn' := a + 2) (ck' := 1) (sk' := 10) (N := 10) (t := 20) (ty := .int) rfl (al_4_0f t_a) (by decide) (fun _ => rfl) (fun _ _ => rfl) ww_243 n32_10.1 n32_10.2 (Nat.le_of_ble_eq_true rfl) (fun k _ => by rw [mc_own_new (by omega), mc_v_int ((al_4_0f t_a)).1 (by decide)]; rfl) (fun _ => rfl) (by decide) (by decide) rfl rfl rfl d_St_init_7 rfl ?_
  refine MC.putF (k := 0) (v := .ref (a + 1)) t_a (by omega) lays_4 toks_4 fq_4_0 fo_4_0 (fun _ => by rw [nt_4_0]; exact ⟨rfl, rfl⟩) ww_201 d_St_init_9 rfl ?_
  rw [mc_own_set (fs' := [.ref (a + 1), .null, .null, .null, .null, .int 0, .int 0, .int 0, .int 0, .int 0]) (Nat.le_of_ble_eq_true rfl) rfl]
  refine MC.aload_n (i := 0) rfl rfl d_St_init_12 rfl ?_
  refine MC.bipush bp_6 d_St_init_13 rfl ?_
  refine MC.newarr (nn' := a + 3) (ck' := 2) (sk' := 16) (N := 6) (t := 21) (ty := .long) rfl (al_4_1f t_a) (by decide) (fun _ => rfl) (fun _ _ => rfl) ww_244 n32_6.1 n32_6.2 (Nat.le_of_ble_eq_true rfl) (fun k _ => by rw [mc_own_new (by omega), mc_v_long ((al_4_1f t_a)).1]; rfl) (fun _ => rfl) (by decide) (by decide) rfl rfl rfl d_St_init_15 rfl ?_
  refine MC.putF (k := 1) (v := .ref (a + 2)) t_a (by omega) lays_4 toks_4 fq_4_1 fo_4_1 (fun _ => by rw [nt_4_1]; exact ⟨rfl, rfl⟩) ww_203 d_St_init_17 rfl ?_
  rw [mc_own_set (fs' := [.ref (a + 1), .ref (a + 2), .null, .null, .null, .int 0, .int 0, .int 0, .int 0, .int 0]) (Nat.le_of_ble_eq_true rfl) rfl]
  refine MC.aload_n (i := 0) rfl rfl d_St_init_20 rfl ?_
  refine MC.bipush bp_6 d_St_init_21 rfl ?_
  refine MC.newarr (nn' := a + 4) (ck' := 3) (sk' := 22) (N := 6) (t := 20) (ty := .int) rfl (al_4_2f t_a) (by decide) (fun _ => rfl) (fun _ _ => rfl) ww_243 n32_6.1 n32_6.2 (Nat.le_of_ble_eq_true rfl) (fun k _ => by rw [mc_own_new (by omega), mc_v_int ((al_4_2f t_a)).1 (by decide)]; rfl) (fun _ => rfl) (by decide) (by decide) rfl rfl rfl d_St_init_23 rfl ?_
  refine MC.putF (k := 2) (v := .ref (a + 3)) t_a (by omega) lays_4 toks_4 fq_4_2 fo_4_2 (fun _ => by rw [nt_4_2]; exact ⟨rfl, rfl⟩) ww_204 d_St_init_25 rfl ?_
  rw [mc_own_set (fs' := [.ref (a + 1), .ref (a + 2), .ref (a + 3), .null, .null, .int 0, .int 0, .int 0, .int 0, .int 0]) (Nat.le_of_ble_eq_true rfl) rfl]
  refine MC.aload_n (i := 0) rfl rfl d_St_init_28 rfl ?_
  refine MC.bipush bp_6 d_St_init_29 rfl ?_
  refine MC.newarr (nn' := a + 5) (ck' := 4) (sk' := 28) (N := 6) (t := 20) (ty := .int) rfl (al_4_3f t_a) (by decide) (fun _ => rfl) (fun _ _ => rfl) ww_243 n32_6.1 n32_6.2 (Nat.le_of_ble_eq_true rfl) (fun k _ => by rw [mc_own_new (by omega), mc_v_int ((al_4_3f t_a)).1 (by decide)]; rfl) (fun _ => rfl) (by decide) (by decide) rfl rfl rfl d_St_init_31 rfl ?_
  refine MC.putF (k := 3) (v := .ref (a + 4)) t_a (by omega) lays_4 toks_4 fq_4_3 fo_4_3 (fun _ => by rw [nt_4_3]; exact ⟨rfl, rfl⟩) ww_206 d_St_init_33 rfl ?_
  rw [mc_own_set (fs' := [.ref (a + 1), .ref (a + 2), .ref (a + 3), .ref (a + 4), .null, .int 0, .int 0, .int 0, .int 0, .int 0]) (Nat.le_of_ble_eq_true rfl) rfl]
  refine MC.aload_n (i := 0) rfl rfl d_St_init_36 rfl ?_
  refine MC.bipush bp_6 d_St_init_37 rfl ?_
  refine MC.newarr (nn' := a + 6) (ck' := 5) (sk' := 34) (N := 6) (t := 20) (ty := .int) rfl (al_4_4f t_a) (by decide) (fun _ => rfl) (fun _ _ => rfl) ww_243 n32_6.1 n32_6.2 (Nat.le_of_ble_eq_true rfl) (fun k _ => by rw [mc_own_new (by omega), mc_v_int ((al_4_4f t_a)).1 (by decide)]; rfl) (fun _ => rfl) (by decide) (by decide) rfl rfl rfl d_St_init_39 rfl ?_
  refine MC.putF (k := 4) (v := .ref (a + 5)) t_a (by omega) lays_4 toks_4 fq_4_4 fo_4_4 (fun _ => by rw [nt_4_4]; exact ⟨rfl, rfl⟩) ww_208 d_St_init_41 rfl ?_
  rw [mc_own_set (fs' := [.ref (a + 1), .ref (a + 2), .ref (a + 3), .ref (a + 4), .ref (a + 5), .int 0, .int 0, .int 0, .int 0, .int 0]) (Nat.le_of_ble_eq_true rfl) rfl]
  refine MC.aload_n (i := 0) rfl rfl d_St_init_44 rfl ?_
  refine MC.iconst ic_0 d_St_init_45 rfl ?_
  refine MC.putN (k := 5) (v := .int 0) t_a (by omega) lays_4 toks_4 fq_4_5 (fun _ => by rw [nt_4_5]; exact ⟨rfl, rfl⟩) ww_211 d_St_init_46 rfl ?_
  rw [mc_own_set (fs' := [.ref (a + 1), .ref (a + 2), .ref (a + 3), .ref (a + 4), .ref (a + 5), .int 0, .int 0, .int 0, .int 0, .int 0]) (Nat.le_of_ble_eq_true rfl) rfl]
  refine MC.aload_n (i := 0) rfl rfl d_St_init_49 rfl ?_
  refine MC.iconst ic_0 d_St_init_50 rfl ?_
  refine MC.putN (k := 6) (v := .int 0) t_a (by omega) lays_4 toks_4 fq_4_6 (fun _ => by rw [nt_4_6]; exact ⟨rfl, rfl⟩) ww_213 d_St_init_51 rfl ?_
  rw [mc_own_set (fs' := [.ref (a + 1), .ref (a + 2), .ref (a + 3), .ref (a + 4), .ref (a + 5), .int 0, .int 0, .int 0, .int 0, .int 0]) (Nat.le_of_ble_eq_true rfl) rfl]
  refine MC.aload_n (i := 0) rfl rfl d_St_init_54 rfl ?_
  refine MC.iconst ic_0 d_St_init_55 rfl ?_
  refine MC.putN (k := 7) (v := .int 0) t_a (by omega) lays_4 toks_4 fq_4_7 (fun _ => by rw [nt_4_7]; exact ⟨rfl, rfl⟩) ww_215 d_St_init_56 rfl ?_
  rw [mc_own_set (fs' := [.ref (a + 1), .ref (a + 2), .ref (a + 3), .ref (a + 4), .ref (a + 5), .int 0, .int 0, .int 0, .int 0, .int 0]) (Nat.le_of_ble_eq_true rfl) rfl]
  refine MC.aload_n (i := 0) rfl rfl d_St_init_59 rfl ?_
  refine MC.iconst ic_0 d_St_init_60 rfl ?_
  refine MC.putN (k := 8) (v := .int 0) t_a (by omega) lays_4 toks_4 fq_4_8 (fun _ => by rw [nt_4_8]; exact ⟨rfl, rfl⟩) ww_218 d_St_init_61 rfl ?_
  rw [mc_own_set (fs' := [.ref (a + 1), .ref (a + 2), .ref (a + 3), .ref (a + 4), .ref (a + 5), .int 0, .int 0, .int 0, .int 0, .int 0]) (Nat.le_of_ble_eq_true rfl) rfl]
  refine MC.aload_n (i := 0) rfl rfl d_St_init_64 rfl ?_
  refine MC.iconst ic_0 d_St_init_65 rfl ?_
  refine MC.putN (k := 9) (v := .int 0) t_a (by omega) lays_4 toks_4 fq_4_9 (fun _ => by rw [nt_4_9]; exact ⟨rfl, rfl⟩) ww_220 d_St_init_66 rfl ?_
  rw [mc_own_set (fs' := [.ref (a + 1), .ref (a + 2), .ref (a + 3), .ref (a + 4), .ref (a + 5), .int 0, .int 0, .int 0, .int 0, .int 0]) (Nat.le_of_ble_eq_true rfl) rfl]
  exact MC.vret (mc_fin (fun k hk => fin_4 _ (by have := mm_tg_lt t_a (by decide); exact this.2) t_a k hk)) rfl d_St_init_69
/-! PaidSecrets$Talk -/
theorem d_Tk_init_0 : decode cX6_init 0 = .ok (.aload_n 0, 1) := by decide +kernel
theorem d_Tk_init_1 : decode cX6_init 1 = .ok (.invokespecial 3, 3) := by decide +kernel
theorem d_Tk_init_4 : decode cX6_init 4 = .ok (.aload_n 0, 1) := by decide +kernel
theorem d_Tk_init_5 : decode cX6_init 5 = .ok (.iconst 0, 1) := by decide +kernel
theorem d_Tk_init_6 : decode cX6_init 6 = .ok (.putfield 9, 3) := by decide +kernel
theorem d_Tk_init_9 : decode cX6_init 9 = .ok (.aload_n 0, 1) := by decide +kernel
theorem d_Tk_init_10 : decode cX6_init 10 = .ok (.bipush 30, 2) := by decide +kernel
theorem d_Tk_init_12 : decode cX6_init 12 = .ok (.newarray .int, 2) := by decide +kernel
theorem d_Tk_init_14 : decode cX6_init 14 = .ok (.putfield 15, 3) := by decide +kernel
theorem d_Tk_init_17 : decode cX6_init 17 = .ok (.aload_n 0, 1) := by decide +kernel
theorem d_Tk_init_18 : decode cX6_init 18 = .ok (.bipush 30, 2) := by decide +kernel
theorem d_Tk_init_20 : decode cX6_init 20 = .ok (.newarray .int, 2) := by decide +kernel
theorem d_Tk_init_22 : decode cX6_init 22 = .ok (.putfield 19, 3) := by decide +kernel
theorem d_Tk_init_25 : decode cX6_init 25 = .ok (.aload_n 0, 1) := by decide +kernel
theorem d_Tk_init_26 : decode cX6_init 26 = .ok (.bipush 30, 2) := by decide +kernel
theorem d_Tk_init_28 : decode cX6_init 28 = .ok (.newarray .int, 2) := by decide +kernel
theorem d_Tk_init_30 : decode cX6_init 30 = .ok (.putfield 22, 3) := by decide +kernel
theorem d_Tk_init_33 : decode cX6_init 33 = .ok (.aload_n 0, 1) := by decide +kernel
theorem d_Tk_init_34 : decode cX6_init 34 = .ok (.bipush 30, 2) := by decide +kernel
theorem d_Tk_init_36 : decode cX6_init 36 = .ok (.newarray .int, 2) := by decide +kernel
theorem d_Tk_init_38 : decode cX6_init 38 = .ok (.putfield 25, 3) := by decide +kernel
theorem d_Tk_init_41 : decode cX6_init 41 = .ok (.aload_n 0, 1) := by decide +kernel
theorem d_Tk_init_42 : decode cX6_init 42 = .ok (.iconst 0, 1) := by decide +kernel
theorem d_Tk_init_43 : decode cX6_init 43 = .ok (.putfield 28, 3) := by decide +kernel
theorem d_Tk_init_46 : decode cX6_init 46 = .ok (.aload_n 0, 1) := by decide +kernel
theorem d_Tk_init_47 : decode cX6_init 47 = .ok (.bipush 10, 2) := by decide +kernel
theorem d_Tk_init_49 : decode cX6_init 49 = .ok (.newarray .int, 2) := by decide +kernel
theorem d_Tk_init_51 : decode cX6_init 51 = .ok (.putfield 31, 3) := by decide +kernel
theorem d_Tk_init_54 : decode cX6_init 54 = .ok (.aload_n 0, 1) := by decide +kernel
theorem d_Tk_init_55 : decode cX6_init 55 = .ok (.bipush 10, 2) := by decide +kernel
theorem d_Tk_init_57 : decode cX6_init 57 = .ok (.newarray .int, 2) := by decide +kernel
theorem d_Tk_init_59 : decode cX6_init 59 = .ok (.putfield 34, 3) := by decide +kernel
theorem d_Tk_init_62 : decode cX6_init 62 = .ok (.return_, 1) := by decide +kernel
theorem C_Tk_init (V : mm_V) (l : Launch) (a : Nat) (t_a : mm_tg a = 5) (w : Nat → Nat → Value) : MCT V l Y_Tk_init 2 6 140 a (mc_df w a) := by
  refine MCT.intro (pn_Tk rfl) (by decide) ?_
  refine MC.own (fs := [.int 0, .null, .null, .null, .null, .int 0, .null, .null]) rfl (fun k hk => dfl_5 t_a trivial k hk) ?_
  refine MC.aload_n (i := 0) rfl rfl d_Tk_init_0 rfl ?_
  refine MC.obj ww_250 ww_143 ww_144 (by decide) rfl d_Tk_init_1 rfl ?_
  refine MC.aload_n (i := 0) rfl rfl d_Tk_init_4 rfl ?_
  refine MC.iconst ic_0 d_Tk_init_5 rfl ?_
  refine MC.putN (k := 0) (v := .int 0) t_a (by omega) lays_5 toks_5 fq_5_0 (fun _ => by rw [nt_5_0]; exact ⟨rfl, rfl⟩) ww_251 d_Tk_init_6 rfl ?_
  rw [mc_own_set (fs' := [.int 0, .null, .null, .null, .null, .int 0, .null, .null]) (Nat.le_of_ble_eq_true rfl) rfl]
  refine MC.aload_n (i := 0) rfl rfl d_Tk_init_9 rfl ?_
  refine MC.bipush bp_30 d_Tk_init_10 rfl ?_
  refine MC.newarr (nn' := a + 2) (ck' := 1) (sk' := 30) (N := 30) (t := 20) (ty := .int) rfl (al_5_1f t_a) (by decide) (fun _ => rfl) (fun _ _ => rfl) ww_243 n32_30.1 n32_30.2 (Nat.le_of_ble_eq_true rfl) (fun k _ => by rw [mc_own_new (by omega), mc_v_int ((al_5_1f t_a)).1 (by decide)]; rfl) (fun _ => rfl) (by decide) (by decide) rfl rfl rfl d_Tk_init_12 rfl ?_
  refine MC.putF (k := 1) (v := .ref (a + 1)) t_a (by omega) lays_5 toks_5 fq_5_1 fo_5_1 (fun _ => by rw [nt_5_1]; exact ⟨rfl, rfl⟩) ww_254 d_Tk_init_14 rfl ?_
  rw [mc_own_set (fs' := [.int 0, .ref (a + 1), .null, .null, .null, .int 0, .null, .null]) (Nat.le_of_ble_eq_true rfl) rfl]
  refine MC.aload_n (i := 0) rfl rfl d_Tk_init_17 rfl ?_
  refine MC.bipush bp_30 d_Tk_init_18 rfl ?_
  refine MC.newarr (nn' := a + 3) (ck' := 2) (sk' := 60) (N := 30) (t := 20) (ty := .int) rfl (al_5_2f t_a) (by decide) (fun _ => rfl) (fun _ _ => rfl) ww_243 n32_30.1 n32_30.2 (Nat.le_of_ble_eq_true rfl) (fun k _ => by rw [mc_own_new (by omega), mc_v_int ((al_5_2f t_a)).1 (by decide)]; rfl) (fun _ => rfl) (by decide) (by decide) rfl rfl rfl d_Tk_init_20 rfl ?_
  refine MC.putF (k := 2) (v := .ref (a + 2)) t_a (by omega) lays_5 toks_5 fq_5_2 fo_5_2 (fun _ => by rw [nt_5_2]; exact ⟨rfl, rfl⟩) ww_256 d_Tk_init_22 rfl ?_
  rw [mc_own_set (fs' := [.int 0, .ref (a + 1), .ref (a + 2), .null, .null, .int 0, .null, .null]) (Nat.le_of_ble_eq_true rfl) rfl]
  refine MC.aload_n (i := 0) rfl rfl d_Tk_init_25 rfl ?_
  refine MC.bipush bp_30 d_Tk_init_26 rfl ?_
  refine MC.newarr (nn' := a + 4) (ck' := 3) (sk' := 90) (N := 30) (t := 20) (ty := .int) rfl (al_5_3f t_a) (by decide) (fun _ => rfl) (fun _ _ => rfl) ww_243 n32_30.1 n32_30.2 (Nat.le_of_ble_eq_true rfl) (fun k _ => by rw [mc_own_new (by omega), mc_v_int ((al_5_3f t_a)).1 (by decide)]; rfl) (fun _ => rfl) (by decide) (by decide) rfl rfl rfl d_Tk_init_28 rfl ?_
  refine MC.putF (k := 3) (v := .ref (a + 3)) t_a (by omega) lays_5 toks_5 fq_5_3 fo_5_3 (fun _ => by rw [nt_5_3]; exact ⟨rfl, rfl⟩) ww_258 d_Tk_init_30 rfl ?_
  rw [mc_own_set (fs' := [.int 0, .ref (a + 1), .ref (a + 2), .ref (a + 3), .null, .int 0, .null, .null]) (Nat.le_of_ble_eq_true rfl) rfl]
  refine MC.aload_n (i := 0) rfl rfl d_Tk_init_33 rfl ?_
  refine MC.bipush bp_30 d_Tk_init_34 rfl ?_
  refine MC.newarr (nn' := a + 5) (ck' := 4) (sk' := 120) (N := 30) (t := 20) (ty := .int) rfl (al_5_4f t_a) (by decide) (fun _ => rfl) (fun _ _ => rfl) ww_243 n32_30.1 n32_30.2 (Nat.le_of_ble_eq_true rfl) (fun k _ => by rw [mc_own_new (by omega), mc_v_int ((al_5_4f t_a)).1 (by decide)]; rfl) (fun _ => rfl) (by decide) (by decide) rfl rfl rfl d_Tk_init_36 rfl ?_
  refine MC.putF (k := 4) (v := .ref (a + 4)) t_a (by omega) lays_5 toks_5 fq_5_4 fo_5_4 (fun _ => by rw [nt_5_4]; exact ⟨rfl, rfl⟩) ww_260 d_Tk_init_38 rfl ?_
  rw [mc_own_set (fs' := [.int 0, .ref (a + 1), .ref (a + 2), .ref (a + 3), .ref (a + 4), .int 0, .null, .null]) (Nat.le_of_ble_eq_true rfl) rfl]
  refine MC.aload_n (i := 0) rfl rfl d_Tk_init_41 rfl ?_
  refine MC.iconst ic_0 d_Tk_init_42 rfl ?_
  refine MC.putN (k := 5) (v := .int 0) t_a (by omega) lays_5 toks_5 fq_5_5 (fun _ => by rw [nt_5_5]; exact ⟨rfl, rfl⟩) ww_262 d_Tk_init_43 rfl ?_
  rw [mc_own_set (fs' := [.int 0, .ref (a + 1), .ref (a + 2), .ref (a + 3), .ref (a + 4), .int 0, .null, .null]) (Nat.le_of_ble_eq_true rfl) rfl]
  refine MC.aload_n (i := 0) rfl rfl d_Tk_init_46 rfl ?_
  refine MC.bipush bp_10 d_Tk_init_47 rfl ?_
  refine MC.newarr (nn' := a + 6) (ck' := 5) (sk' := 130) (N := 10) (t := 20) (ty := .int) rfl (al_5_6f t_a) (by decide) (fun _ => rfl) (fun _ _ => rfl) ww_243 n32_10.1 n32_10.2 (Nat.le_of_ble_eq_true rfl) (fun k _ => by rw [mc_own_new (by omega), mc_v_int ((al_5_6f t_a)).1 (by decide)]; rfl) (fun _ => rfl) (by decide) (by decide) rfl rfl rfl d_Tk_init_49 rfl ?_
  refine MC.putF (k := 6) (v := .ref (a + 5)) t_a (by omega) lays_5 toks_5 fq_5_6 fo_5_6 (fun _ => by rw [nt_5_6]; exact ⟨rfl, rfl⟩) ww_264 d_Tk_init_51 rfl ?_
  rw [mc_own_set (fs' := [.int 0, .ref (a + 1), .ref (a + 2), .ref (a + 3), .ref (a + 4), .int 0, .ref (a + 5), .null]) (Nat.le_of_ble_eq_true rfl) rfl]
  refine MC.aload_n (i := 0) rfl rfl d_Tk_init_54 rfl ?_
  refine MC.bipush bp_10 d_Tk_init_55 rfl ?_
  refine MC.newarr (nn' := a + 7) (ck' := 6) (sk' := 140) (N := 10) (t := 20) (ty := .int) rfl (al_5_7f t_a) (by decide) (fun _ => rfl) (fun _ _ => rfl) ww_243 n32_10.1 n32_10.2 (Nat.le_of_ble_eq_true rfl) (fun k _ => by rw [mc_own_new (by omega), mc_v_int ((al_5_7f t_a)).1 (by decide)]; rfl) (fun _ => rfl) (by decide) (by decide) rfl rfl rfl d_Tk_init_57 rfl ?_
  refine MC.putF (k := 7) (v := .ref (a + 6)) t_a (by omega) lays_5 toks_5 fq_5_7 fo_5_7 (fun _ => by rw [nt_5_7]; exact ⟨rfl, rfl⟩) ww_266 d_Tk_init_59 rfl ?_
  rw [mc_own_set (fs' := [.int 0, .ref (a + 1), .ref (a + 2), .ref (a + 3), .ref (a + 4), .int 0, .ref (a + 5), .ref (a + 6)]) (Nat.le_of_ble_eq_true rfl) rfl]
  exact MC.vret (mc_fin (fun k hk => fin_5 _ (by have := mm_tg_lt t_a (by decide); exact this.2) t_a k hk)) rfl d_Tk_init_62
/-! PaidSecrets$Law -/
theorem d_La_init_0 : decode cX3_init 0 = .ok (.aload_n 0, 1) := by decide +kernel
theorem d_La_init_1 : decode cX3_init 1 = .ok (.invokespecial 1, 3) := by decide +kernel
theorem d_La_init_4 : decode cX3_init 4 = .ok (.aload_n 0, 1) := by decide +kernel
theorem d_La_init_5 : decode cX3_init 5 = .ok (.sipush 1000, 3) := by decide +kernel
theorem d_La_init_8 : decode cX3_init 8 = .ok (.newarray .int, 2) := by decide +kernel
theorem d_La_init_10 : decode cX3_init 10 = .ok (.putfield 9, 3) := by decide +kernel
theorem d_La_init_13 : decode cX3_init 13 = .ok (.aload_n 0, 1) := by decide +kernel
theorem d_La_init_14 : decode cX3_init 14 = .ok (.bipush 24, 2) := by decide +kernel
theorem d_La_init_16 : decode cX3_init 16 = .ok (.newarray .int, 2) := by decide +kernel
theorem d_La_init_18 : decode cX3_init 18 = .ok (.putfield 15, 3) := by decide +kernel
theorem d_La_init_21 : decode cX3_init 21 = .ok (.aload_n 0, 1) := by decide +kernel
theorem d_La_init_22 : decode cX3_init 22 = .ok (.iconst 0, 1) := by decide +kernel
theorem d_La_init_23 : decode cX3_init 23 = .ok (.putfield 18, 3) := by decide +kernel
theorem d_La_init_26 : decode cX3_init 26 = .ok (.return_, 1) := by decide +kernel
theorem C_La_init (V : mm_V) (l : Launch) (a : Nat) (t_a : mm_tg a = 2) (w : Nat → Nat → Value) : MCT V l Y_La_init 2 2 1024 a (mc_df w a) := by
  refine MCT.intro (pn_La rfl) (by decide) ?_
  refine MC.own (fs := [.null, .null, .int 0]) rfl (fun k hk => dfl_2 t_a trivial k hk) ?_
  refine MC.aload_n (i := 0) rfl rfl d_La_init_0 rfl ?_
  refine MC.obj ww_349 ww_143 ww_144 (by decide) rfl d_La_init_1 rfl ?_
  refine MC.aload_n (i := 0) rfl rfl d_La_init_4 rfl ?_
  refine MC.sipush sp_1000 d_La_init_5 rfl ?_
  refine MC.newarr (nn' := a + 2) (ck' := 1) (sk' := 1000) (N := 1000) (t := 20) (ty := .int) rfl (al_2_0f t_a) (by decide) (fun _ => rfl) (fun _ _ => rfl) ww_243 n32_1000.1 n32_1000.2 (Nat.le_of_ble_eq_true rfl) (fun k _ => by rw [mc_own_new (by omega), mc_v_int ((al_2_0f t_a)).1 (by decide)]; rfl) (fun _ => rfl) (by decide) (by decide) rfl rfl rfl d_La_init_8 rfl ?_
  refine MC.putF (k := 0) (v := .ref (a + 1)) t_a (by omega) lays_2 toks_2 fq_2_0 fo_2_0 (fun _ => by rw [nt_2_0]; exact ⟨rfl, rfl⟩) ww_350 d_La_init_10 rfl ?_
  rw [mc_own_set (fs' := [.ref (a + 1), .null, .int 0]) (Nat.le_of_ble_eq_true rfl) rfl]
  refine MC.aload_n (i := 0) rfl rfl d_La_init_13 rfl ?_
  refine MC.bipush bp_24 d_La_init_14 rfl ?_
  refine MC.newarr (nn' := a + 3) (ck' := 2) (sk' := 1024) (N := 24) (t := 20) (ty := .int) rfl (al_2_1f t_a) (by decide) (fun _ => rfl) (fun _ _ => rfl) ww_243 n32_24.1 n32_24.2 (Nat.le_of_ble_eq_true rfl) (fun k _ => by rw [mc_own_new (by omega), mc_v_int ((al_2_1f t_a)).1 (by decide)]; rfl) (fun _ => rfl) (by decide) (by decide) rfl rfl rfl d_La_init_16 rfl ?_
  refine MC.putF (k := 1) (v := .ref (a + 2)) t_a (by omega) lays_2 toks_2 fq_2_1 fo_2_1 (fun _ => by rw [nt_2_1]; exact ⟨rfl, rfl⟩) ww_351 d_La_init_18 rfl ?_
  rw [mc_own_set (fs' := [.ref (a + 1), .ref (a + 2), .int 0]) (Nat.le_of_ble_eq_true rfl) rfl]
  refine MC.aload_n (i := 0) rfl rfl d_La_init_21 rfl ?_
  refine MC.iconst ic_0 d_La_init_22 rfl ?_
  refine MC.putN (k := 2) (v := .int 0) t_a (by omega) lays_2 toks_2 fq_2_2 (fun _ => by rw [nt_2_2]; exact ⟨rfl, rfl⟩) ww_352 d_La_init_23 rfl ?_
  rw [mc_own_set (fs' := [.ref (a + 1), .ref (a + 2), .int 0]) (Nat.le_of_ble_eq_true rfl) rfl]
  exact MC.vret (mc_fin (fun k hk => fin_2 _ (by have := mm_tg_lt t_a (by decide); exact this.2) t_a k hk)) rfl d_La_init_26
/-! PaidSecrets$Town -/
theorem d_To_init_0 : decode cX8_init 0 = .ok (.aload_n 0, 1) := by decide +kernel
theorem d_To_init_1 : decode cX8_init 1 = .ok (.invokespecial 3, 3) := by decide +kernel
theorem d_To_init_4 : decode cX8_init 4 = .ok (.aload_n 0, 1) := by decide +kernel
theorem d_To_init_5 : decode cX8_init 5 = .ok (.iconst 0, 1) := by decide +kernel
theorem d_To_init_6 : decode cX8_init 6 = .ok (.putfield 9, 3) := by decide +kernel
theorem d_To_init_9 : decode cX8_init 9 = .ok (.aload_n 0, 1) := by decide +kernel
theorem d_To_init_10 : decode cX8_init 10 = .ok (.bipush 6, 2) := by decide +kernel
theorem d_To_init_12 : decode cX8_init 12 = .ok (.newarray .long, 2) := by decide +kernel
theorem d_To_init_14 : decode cX8_init 14 = .ok (.putfield 15, 3) := by decide +kernel
theorem d_To_init_17 : decode cX8_init 17 = .ok (.aload_n 0, 1) := by decide +kernel
theorem d_To_init_18 : decode cX8_init 18 = .ok (.bipush 6, 2) := by decide +kernel
theorem d_To_init_20 : decode cX8_init 20 = .ok (.newarray .int, 2) := by decide +kernel
theorem d_To_init_22 : decode cX8_init 22 = .ok (.putfield 19, 3) := by decide +kernel
theorem d_To_init_25 : decode cX8_init 25 = .ok (.aload_n 0, 1) := by decide +kernel
theorem d_To_init_26 : decode cX8_init 26 = .ok (.bipush 6, 2) := by decide +kernel
theorem d_To_init_28 : decode cX8_init 28 = .ok (.newarray .int, 2) := by decide +kernel
theorem d_To_init_30 : decode cX8_init 30 = .ok (.putfield 23, 3) := by decide +kernel
theorem d_To_init_33 : decode cX8_init 33 = .ok (.aload_n 0, 1) := by decide +kernel
theorem d_To_init_34 : decode cX8_init 34 = .ok (.bipush 6, 2) := by decide +kernel
theorem d_To_init_36 : decode cX8_init 36 = .ok (.newarray .int, 2) := by decide +kernel
theorem d_To_init_38 : decode cX8_init 38 = .ok (.putfield 26, 3) := by decide +kernel
theorem d_To_init_41 : decode cX8_init 41 = .ok (.aload_n 0, 1) := by decide +kernel
theorem d_To_init_42 : decode cX8_init 42 = .ok (.iconst 0, 1) := by decide +kernel
theorem d_To_init_43 : decode cX8_init 43 = .ok (.putfield 29, 3) := by decide +kernel
theorem d_To_init_46 : decode cX8_init 46 = .ok (.aload_n 0, 1) := by decide +kernel
theorem d_To_init_47 : decode cX8_init 47 = .ok (.iconst 0, 1) := by decide +kernel
theorem d_To_init_48 : decode cX8_init 48 = .ok (.putfield 32, 3) := by decide +kernel
theorem d_To_init_51 : decode cX8_init 51 = .ok (.aload_n 0, 1) := by decide +kernel
theorem d_To_init_52 : decode cX8_init 52 = .ok (.bipush 10, 2) := by decide +kernel
theorem d_To_init_54 : decode cX8_init 54 = .ok (.newarray .long, 2) := by decide +kernel
theorem d_To_init_56 : decode cX8_init 56 = .ok (.putfield 35, 3) := by decide +kernel
theorem d_To_init_59 : decode cX8_init 59 = .ok (.aload_n 0, 1) := by decide +kernel
theorem d_To_init_60 : decode cX8_init 60 = .ok (.iconst 0, 1) := by decide +kernel
theorem d_To_init_61 : decode cX8_init 61 = .ok (.putfield 38, 3) := by decide +kernel
theorem d_To_init_64 : decode cX8_init 64 = .ok (.aload_n 0, 1) := by decide +kernel
theorem d_To_init_65 : decode cX8_init 65 = .ok (.bipush 10, 2) := by decide +kernel
theorem d_To_init_67 : decode cX8_init 67 = .ok (.newarray .int, 2) := by decide +kernel
theorem d_To_init_69 : decode cX8_init 69 = .ok (.putfield 41, 3) := by decide +kernel
theorem d_To_init_72 : decode cX8_init 72 = .ok (.aload_n 0, 1) := by decide +kernel
theorem d_To_init_73 : decode cX8_init 73 = .ok (.bipush 10, 2) := by decide +kernel
theorem d_To_init_75 : decode cX8_init 75 = .ok (.newarray .int, 2) := by decide +kernel
theorem d_To_init_77 : decode cX8_init 77 = .ok (.putfield 44, 3) := by decide +kernel
theorem d_To_init_80 : decode cX8_init 80 = .ok (.aload_n 0, 1) := by decide +kernel
theorem d_To_init_81 : decode cX8_init 81 = .ok (.bipush 10, 2) := by decide +kernel
theorem d_To_init_83 : decode cX8_init 83 = .ok (.newarray .int, 2) := by decide +kernel
theorem d_To_init_85 : decode cX8_init 85 = .ok (.putfield 47, 3) := by decide +kernel
theorem d_To_init_88 : decode cX8_init 88 = .ok (.aload_n 0, 1) := by decide +kernel
theorem d_To_init_89 : decode cX8_init 89 = .ok (.bipush 10, 2) := by decide +kernel
theorem d_To_init_91 : decode cX8_init 91 = .ok (.newarray .int, 2) := by decide +kernel
theorem d_To_init_93 : decode cX8_init 93 = .ok (.putfield 50, 3) := by decide +kernel
theorem d_To_init_96 : decode cX8_init 96 = .ok (.aload_n 0, 1) := by decide +kernel
theorem d_To_init_97 : decode cX8_init 97 = .ok (.iconst 0, 1) := by decide +kernel
theorem d_To_init_98 : decode cX8_init 98 = .ok (.putfield 53, 3) := by decide +kernel
theorem d_To_init_101 : decode cX8_init 101 = .ok (.aload_n 0, 1) := by decide +kernel
theorem d_To_init_102 : decode cX8_init 102 = .ok (.bipush 30, 2) := by decide +kernel
theorem d_To_init_104 : decode cX8_init 104 = .ok (.newarray .int, 2) := by decide +kernel
theorem d_To_init_106 : decode cX8_init 106 = .ok (.putfield 56, 3) := by decide +kernel
theorem d_To_init_109 : decode cX8_init 109 = .ok (.aload_n 0, 1) := by decide +kernel
theorem d_To_init_110 : decode cX8_init 110 = .ok (.bipush 30, 2) := by decide +kernel
theorem d_To_init_112 : decode cX8_init 112 = .ok (.newarray .int, 2) := by decide +kernel
theorem d_To_init_114 : decode cX8_init 114 = .ok (.putfield 59, 3) := by decide +kernel
theorem d_To_init_117 : decode cX8_init 117 = .ok (.aload_n 0, 1) := by decide +kernel
theorem d_To_init_118 : decode cX8_init 118 = .ok (.bipush 36, 2) := by decide +kernel
theorem d_To_init_120 : decode cX8_init 120 = .ok (.newarray .int, 2) := by decide +kernel
theorem d_To_init_122 : decode cX8_init 122 = .ok (.putfield 62, 3) := by decide +kernel
theorem d_To_init_125 : decode cX8_init 125 = .ok (.aload_n 0, 1) := by decide +kernel
theorem d_To_init_126 : decode cX8_init 126 = .ok (.iconst 0, 1) := by decide +kernel
theorem d_To_init_127 : decode cX8_init 127 = .ok (.putfield 65, 3) := by decide +kernel
theorem d_To_init_130 : decode cX8_init 130 = .ok (.aload_n 0, 1) := by decide +kernel
theorem d_To_init_131 : decode cX8_init 131 = .ok (.bipush 10, 2) := by decide +kernel
theorem d_To_init_133 : decode cX8_init 133 = .ok (.newarray .int, 2) := by decide +kernel
theorem d_To_init_135 : decode cX8_init 135 = .ok (.putfield 68, 3) := by decide +kernel
theorem d_To_init_138 : decode cX8_init 138 = .ok (.aload_n 0, 1) := by decide +kernel
theorem d_To_init_139 : decode cX8_init 139 = .ok (.new 71, 3) := by decide +kernel
theorem d_To_init_142 : decode cX8_init 142 = .ok (.dup, 1) := by decide +kernel
theorem d_To_init_143 : decode cX8_init 143 = .ok (.invokespecial 73, 3) := by decide +kernel
theorem d_To_init_146 : decode cX8_init 146 = .ok (.putfield 74, 3) := by decide +kernel
theorem d_To_init_149 : decode cX8_init 149 = .ok (.return_, 1) := by decide +kernel
theorem C_To_init (V : mm_V) (l : Launch) (a : Nat) (t_a : mm_tg a = 7) (w : Nat → Nat → Value) : MCT V l Y_To_init 4 16 1207 a (mc_df w a) := by
  refine MCT.intro (pn_To rfl) (by decide) ?_
  refine MC.own (fs := [.int 0, .null, .null, .null, .null, .int 0, .int 0, .null, .int 0, .null, .null, .null, .null, .int 0, .null, .null, .null, .int 0, .null, .null]) rfl (fun k hk => dfl_7 t_a trivial k hk) ?_
  refine MC.aload_n (i := 0) rfl rfl d_To_init_0 rfl ?_
  refine MC.obj ww_343 ww_143 ww_144 (by decide) rfl d_To_init_1 rfl ?_
  refine MC.aload_n (i := 0) rfl rfl d_To_init_4 rfl ?_
  refine MC.iconst ic_0 d_To_init_5 rfl ?_
  refine MC.putN (k := 0) (v := .int 0) t_a (by omega) lays_7 toks_7 fq_7_0 (fun _ => by rw [nt_7_0]; exact ⟨rfl, rfl⟩) ww_363 d_To_init_6 rfl ?_
  rw [mc_own_set (fs' := [.int 0, .null, .null, .null, .null, .int 0, .int 0, .null, .int 0, .null, .null, .null, .null, .int 0, .null, .null, .null, .int 0, .null, .null]) (Nat.le_of_ble_eq_true rfl) rfl]
  refine MC.aload_n (i := 0) rfl rfl d_To_init_9 rfl ?_
  refine MC.bipush bp_6 d_To_init_10 rfl ?_
  refine MC.newarr (nn' := a + 2) (ck' := 1) (sk' := 6) (N := 6) (t := 21) (ty := .long) rfl (al_7_1f t_a) (by decide) (fun _ => rfl) (fun _ _ => rfl) ww_244 n32_6.1 n32_6.2 (Nat.le_of_ble_eq_true rfl) (fun k _ => by rw [mc_own_new (by omega), mc_v_long ((al_7_1f t_a)).1]; rfl) (fun _ => rfl) (by decide) (by decide) rfl rfl rfl d_To_init_12 rfl ?_
  refine MC.putF (k := 1) (v := .ref (a + 1)) t_a (by omega) lays_7 toks_7 fq_7_1 fo_7_1 (fun _ => by rw [nt_7_1]; exact ⟨rfl, rfl⟩) ww_370 d_To_init_14 rfl ?_
  rw [mc_own_set (fs' := [.int 0, .ref (a + 1), .null, .null, .null, .int 0, .int 0, .null, .int 0, .null, .null, .null, .null, .int 0, .null, .null, .null, .int 0, .null, .null]) (Nat.le_of_ble_eq_true rfl) rfl]
  refine MC.aload_n (i := 0) rfl rfl d_To_init_17 rfl ?_
  refine MC.bipush bp_6 d_To_init_18 rfl ?_
  refine MC.newarr (nn' := a + 3) (ck' := 2) (sk' := 12) (N := 6) (t := 20) (ty := .int) rfl (al_7_2f t_a) (by decide) (fun _ => rfl) (fun _ _ => rfl) ww_243 n32_6.1 n32_6.2 (Nat.le_of_ble_eq_true rfl) (fun k _ => by rw [mc_own_new (by omega), mc_v_int ((al_7_2f t_a)).1 (by decide)]; rfl) (fun _ => rfl) (by decide) (by decide) rfl rfl rfl d_To_init_20 rfl ?_
  refine MC.putF (k := 2) (v := .ref (a + 2)) t_a (by omega) lays_7 toks_7 fq_7_2 fo_7_2 (fun _ => by rw [nt_7_2]; exact ⟨rfl, rfl⟩) ww_372 d_To_init_22 rfl ?_
  rw [mc_own_set (fs' := [.int 0, .ref (a + 1), .ref (a + 2), .null, .null, .int 0, .int 0, .null, .int 0, .null, .null, .null, .null, .int 0, .null, .null, .null, .int 0, .null, .null]) (Nat.le_of_ble_eq_true rfl) rfl]
  refine MC.aload_n (i := 0) rfl rfl d_To_init_25 rfl ?_
  refine MC.bipush bp_6 d_To_init_26 rfl ?_
  refine MC.newarr (nn' := a + 4) (ck' := 3) (sk' := 18) (N := 6) (t := 20) (ty := .int) rfl (al_7_3f t_a) (by decide) (fun _ => rfl) (fun _ _ => rfl) ww_243 n32_6.1 n32_6.2 (Nat.le_of_ble_eq_true rfl) (fun k _ => by rw [mc_own_new (by omega), mc_v_int ((al_7_3f t_a)).1 (by decide)]; rfl) (fun _ => rfl) (by decide) (by decide) rfl rfl rfl d_To_init_28 rfl ?_
  refine MC.putF (k := 3) (v := .ref (a + 3)) t_a (by omega) lays_7 toks_7 fq_7_3 fo_7_3 (fun _ => by rw [nt_7_3]; exact ⟨rfl, rfl⟩) ww_375 d_To_init_30 rfl ?_
  rw [mc_own_set (fs' := [.int 0, .ref (a + 1), .ref (a + 2), .ref (a + 3), .null, .int 0, .int 0, .null, .int 0, .null, .null, .null, .null, .int 0, .null, .null, .null, .int 0, .null, .null]) (Nat.le_of_ble_eq_true rfl) rfl]
  refine MC.aload_n (i := 0) rfl rfl d_To_init_33 rfl ?_
  refine MC.bipush bp_6 d_To_init_34 rfl ?_
  refine MC.newarr (nn' := a + 5) (ck' := 4) (sk' := 24) (N := 6) (t := 20) (ty := .int) rfl (al_7_4f t_a) (by decide) (fun _ => rfl) (fun _ _ => rfl) ww_243 n32_6.1 n32_6.2 (Nat.le_of_ble_eq_true rfl) (fun k _ => by rw [mc_own_new (by omega), mc_v_int ((al_7_4f t_a)).1 (by decide)]; rfl) (fun _ => rfl) (by decide) (by decide) rfl rfl rfl d_To_init_36 rfl ?_
  refine MC.putF (k := 4) (v := .ref (a + 4)) t_a (by omega) lays_7 toks_7 fq_7_4 fo_7_4 (fun _ => by rw [nt_7_4]; exact ⟨rfl, rfl⟩) ww_378 d_To_init_38 rfl ?_
  rw [mc_own_set (fs' := [.int 0, .ref (a + 1), .ref (a + 2), .ref (a + 3), .ref (a + 4), .int 0, .int 0, .null, .int 0, .null, .null, .null, .null, .int 0, .null, .null, .null, .int 0, .null, .null]) (Nat.le_of_ble_eq_true rfl) rfl]
  refine MC.aload_n (i := 0) rfl rfl d_To_init_41 rfl ?_
  refine MC.iconst ic_0 d_To_init_42 rfl ?_
  refine MC.putN (k := 5) (v := .int 0) t_a (by omega) lays_7 toks_7 fq_7_5 (fun _ => by rw [nt_7_5]; exact ⟨rfl, rfl⟩) ww_383 d_To_init_43 rfl ?_
  rw [mc_own_set (fs' := [.int 0, .ref (a + 1), .ref (a + 2), .ref (a + 3), .ref (a + 4), .int 0, .int 0, .null, .int 0, .null, .null, .null, .null, .int 0, .null, .null, .null, .int 0, .null, .null]) (Nat.le_of_ble_eq_true rfl) rfl]
  refine MC.aload_n (i := 0) rfl rfl d_To_init_46 rfl ?_
  refine MC.iconst ic_0 d_To_init_47 rfl ?_
  refine MC.putN (k := 6) (v := .int 0) t_a (by omega) lays_7 toks_7 fq_7_6 (fun _ => by rw [nt_7_6]; exact ⟨rfl, rfl⟩) ww_385 d_To_init_48 rfl ?_
  rw [mc_own_set (fs' := [.int 0, .ref (a + 1), .ref (a + 2), .ref (a + 3), .ref (a + 4), .int 0, .int 0, .null, .int 0, .null, .null, .null, .null, .int 0, .null, .null, .null, .int 0, .null, .null]) (Nat.le_of_ble_eq_true rfl) rfl]
  refine MC.aload_n (i := 0) rfl rfl d_To_init_51 rfl ?_
  refine MC.bipush bp_10 d_To_init_52 rfl ?_
  refine MC.newarr (nn' := a + 6) (ck' := 5) (sk' := 34) (N := 10) (t := 21) (ty := .long) rfl (al_7_7f t_a) (by decide) (fun _ => rfl) (fun _ _ => rfl) ww_244 n32_10.1 n32_10.2 (Nat.le_of_ble_eq_true rfl) (fun k _ => by rw [mc_own_new (by omega), mc_v_long ((al_7_7f t_a)).1]; rfl) (fun _ => rfl) (by decide) (by decide) rfl rfl rfl d_To_init_54 rfl ?_
  refine MC.putF (k := 7) (v := .ref (a + 5)) t_a (by omega) lays_7 toks_7 fq_7_7 fo_7_7 (fun _ => by rw [nt_7_7]; exact ⟨rfl, rfl⟩) ww_390 d_To_init_56 rfl ?_
  rw [mc_own_set (fs' := [.int 0, .ref (a + 1), .ref (a + 2), .ref (a + 3), .ref (a + 4), .int 0, .int 0, .ref (a + 5), .int 0, .null, .null, .null, .null, .int 0, .null, .null, .null, .int 0, .null, .null]) (Nat.le_of_ble_eq_true rfl) rfl]
  refine MC.aload_n (i := 0) rfl rfl d_To_init_59 rfl ?_
  refine MC.iconst ic_0 d_To_init_60 rfl ?_
  refine MC.putN (k := 8) (v := .int 0) t_a (by omega) lays_7 toks_7 fq_7_8 (fun _ => by rw [nt_7_8]; exact ⟨rfl, rfl⟩) ww_392 d_To_init_61 rfl ?_
  rw [mc_own_set (fs' := [.int 0, .ref (a + 1), .ref (a + 2), .ref (a + 3), .ref (a + 4), .int 0, .int 0, .ref (a + 5), .int 0, .null, .null, .null, .null, .int 0, .null, .null, .null, .int 0, .null, .null]) (Nat.le_of_ble_eq_true rfl) rfl]
  refine MC.aload_n (i := 0) rfl rfl d_To_init_64 rfl ?_
  refine MC.bipush bp_10 d_To_init_65 rfl ?_
  refine MC.newarr (nn' := a + 7) (ck' := 6) (sk' := 44) (N := 10) (t := 20) (ty := .int) rfl (al_7_9f t_a) (by decide) (fun _ => rfl) (fun _ _ => rfl) ww_243 n32_10.1 n32_10.2 (Nat.le_of_ble_eq_true rfl) (fun k _ => by rw [mc_own_new (by omega), mc_v_int ((al_7_9f t_a)).1 (by decide)]; rfl) (fun _ => rfl) (by decide) (by decide) rfl rfl rfl d_To_init_67 rfl ?_
  refine MC.putF (k := 9) (v := .ref (a + 6)) t_a (by omega) lays_7 toks_7 fq_7_9 fo_7_9 (fun _ => by rw [nt_7_9]; exact ⟨rfl, rfl⟩) ww_396 d_To_init_69 rfl ?_
  rw [mc_own_set (fs' := [.int 0, .ref (a + 1), .ref (a + 2), .ref (a + 3), .ref (a + 4), .int 0, .int 0, .ref (a + 5), .int 0, .ref (a + 6), .null, .null, .null, .int 0, .null, .null, .null, .int 0, .null, .null]) (Nat.le_of_ble_eq_true rfl) rfl]
  refine MC.aload_n (i := 0) rfl rfl d_To_init_72 rfl ?_
  refine MC.bipush bp_10 d_To_init_73 rfl ?_
  refine MC.newarr (nn' := a + 8) (ck' := 7) (sk' := 54) (N := 10) (t := 20) (ty := .int) rfl (al_7_10f t_a) (by decide) (fun _ => rfl) (fun _ _ => rfl) ww_243 n32_10.1 n32_10.2 (Nat.le_of_ble_eq_true rfl) (fun k _ => by rw [mc_own_new (by omega), mc_v_int ((al_7_10f t_a)).1 (by decide)]; rfl) (fun _ => rfl) (by decide) (by decide) rfl rfl rfl d_To_init_75 rfl ?_
  refine MC.putF (k := 10) (v := .ref (a + 7)) t_a (by omega) lays_7 toks_7 fq_7_10 fo_7_10 (fun _ => by rw [nt_7_10]; exact ⟨rfl, rfl⟩) ww_400 d_To_init_77 rfl ?_
  rw [mc_own_set (fs' := [.int 0, .ref (a + 1), .ref (a + 2), .ref (a + 3), .ref (a + 4), .int 0, .int 0, .ref (a + 5), .int 0, .ref (a + 6), .ref (a + 7), .null, .null, .int 0, .null, .null, .null, .int 0, .null, .null]) (Nat.le_of_ble_eq_true rfl) rfl]
  refine MC.aload_n (i := 0) rfl rfl d_To_init_80 rfl ?_
  refine MC.bipush bp_10 d_To_init_81 rfl ?_
  refine MC.newarr (nn' := a + 9) (ck' := 8) (sk' := 64) (N := 10) (t := 20) (ty := .int) rfl (al_7_11f t_a) (by decide) (fun _ => rfl) (fun _ _ => rfl) ww_243 n32_10.1 n32_10.2 (Nat.le_of_ble_eq_true rfl) (fun k _ => by rw [mc_own_new (by omega), mc_v_int ((al_7_11f t_a)).1 (by decide)]; rfl) (fun _ => rfl) (by decide) (by decide) rfl rfl rfl d_To_init_83 rfl ?_
  refine MC.putF (k := 11) (v := .ref (a + 8)) t_a (by omega) lays_7 toks_7 fq_7_11 fo_7_11 (fun _ => by rw [nt_7_11]; exact ⟨rfl, rfl⟩) ww_404 d_To_init_85 rfl ?_
  rw [mc_own_set (fs' := [.int 0, .ref (a + 1), .ref (a + 2), .ref (a + 3), .ref (a + 4), .int 0, .int 0, .ref (a + 5), .int 0, .ref (a + 6), .ref (a + 7), .ref (a + 8), .null, .int 0, .null, .null, .null, .int 0, .null, .null]) (Nat.le_of_ble_eq_true rfl) rfl]
  refine MC.aload_n (i := 0) rfl rfl d_To_init_88 rfl ?_
  refine MC.bipush bp_10 d_To_init_89 rfl ?_
  refine MC.newarr (nn' := a + 10) (ck' := 9) (sk' := 74) (N := 10) (t := 20) (ty := .int) rfl (al_7_12f t_a) (by decide) (fun _ => rfl) (fun _ _ => rfl) ww_243 n32_10.1 n32_10.2 (Nat.le_of_ble_eq_true rfl) (fun k _ => by rw [mc_own_new (by omega), mc_v_int ((al_7_12f t_a)).1 (by decide)]; rfl) (fun _ => rfl) (by decide) (by decide) rfl rfl rfl d_To_init_91 rfl ?_
  refine MC.putF (k := 12) (v := .ref (a + 9)) t_a (by omega) lays_7 toks_7 fq_7_12 fo_7_12 (fun _ => by rw [nt_7_12]; exact ⟨rfl, rfl⟩) ww_408 d_To_init_93 rfl ?_
  rw [mc_own_set (fs' := [.int 0, .ref (a + 1), .ref (a + 2), .ref (a + 3), .ref (a + 4), .int 0, .int 0, .ref (a + 5), .int 0, .ref (a + 6), .ref (a + 7), .ref (a + 8), .ref (a + 9), .int 0, .null, .null, .null, .int 0, .null, .null]) (Nat.le_of_ble_eq_true rfl) rfl]
  refine MC.aload_n (i := 0) rfl rfl d_To_init_96 rfl ?_
  refine MC.iconst ic_0 d_To_init_97 rfl ?_
  refine MC.putN (k := 13) (v := .int 0) t_a (by omega) lays_7 toks_7 fq_7_13 (fun _ => by rw [nt_7_13]; exact ⟨rfl, rfl⟩) ww_411 d_To_init_98 rfl ?_
  rw [mc_own_set (fs' := [.int 0, .ref (a + 1), .ref (a + 2), .ref (a + 3), .ref (a + 4), .int 0, .int 0, .ref (a + 5), .int 0, .ref (a + 6), .ref (a + 7), .ref (a + 8), .ref (a + 9), .int 0, .null, .null, .null, .int 0, .null, .null]) (Nat.le_of_ble_eq_true rfl) rfl]
  refine MC.aload_n (i := 0) rfl rfl d_To_init_101 rfl ?_
  refine MC.bipush bp_30 d_To_init_102 rfl ?_
  refine MC.newarr (nn' := a + 11) (ck' := 10) (sk' := 104) (N := 30) (t := 20) (ty := .int) rfl (al_7_14f t_a) (by decide) (fun _ => rfl) (fun _ _ => rfl) ww_243 n32_30.1 n32_30.2 (Nat.le_of_ble_eq_true rfl) (fun k _ => by rw [mc_own_new (by omega), mc_v_int ((al_7_14f t_a)).1 (by decide)]; rfl) (fun _ => rfl) (by decide) (by decide) rfl rfl rfl d_To_init_104 rfl ?_
  refine MC.putF (k := 14) (v := .ref (a + 10)) t_a (by omega) lays_7 toks_7 fq_7_14 fo_7_14 (fun _ => by rw [nt_7_14]; exact ⟨rfl, rfl⟩) ww_414 d_To_init_106 rfl ?_
  rw [mc_own_set (fs' := [.int 0, .ref (a + 1), .ref (a + 2), .ref (a + 3), .ref (a + 4), .int 0, .int 0, .ref (a + 5), .int 0, .ref (a + 6), .ref (a + 7), .ref (a + 8), .ref (a + 9), .int 0, .ref (a + 10), .null, .null, .int 0, .null, .null]) (Nat.le_of_ble_eq_true rfl) rfl]
  refine MC.aload_n (i := 0) rfl rfl d_To_init_109 rfl ?_
  refine MC.bipush bp_30 d_To_init_110 rfl ?_
  refine MC.newarr (nn' := a + 12) (ck' := 11) (sk' := 134) (N := 30) (t := 20) (ty := .int) rfl (al_7_15f t_a) (by decide) (fun _ => rfl) (fun _ _ => rfl) ww_243 n32_30.1 n32_30.2 (Nat.le_of_ble_eq_true rfl) (fun k _ => by rw [mc_own_new (by omega), mc_v_int ((al_7_15f t_a)).1 (by decide)]; rfl) (fun _ => rfl) (by decide) (by decide) rfl rfl rfl d_To_init_112 rfl ?_
  refine MC.putF (k := 15) (v := .ref (a + 11)) t_a (by omega) lays_7 toks_7 fq_7_15 fo_7_15 (fun _ => by rw [nt_7_15]; exact ⟨rfl, rfl⟩) ww_417 d_To_init_114 rfl ?_
  rw [mc_own_set (fs' := [.int 0, .ref (a + 1), .ref (a + 2), .ref (a + 3), .ref (a + 4), .int 0, .int 0, .ref (a + 5), .int 0, .ref (a + 6), .ref (a + 7), .ref (a + 8), .ref (a + 9), .int 0, .ref (a + 10), .ref (a + 11), .null, .int 0, .null, .null]) (Nat.le_of_ble_eq_true rfl) rfl]
  refine MC.aload_n (i := 0) rfl rfl d_To_init_117 rfl ?_
  refine MC.bipush bp_36 d_To_init_118 rfl ?_
  refine MC.newarr (nn' := a + 13) (ck' := 12) (sk' := 170) (N := 36) (t := 20) (ty := .int) rfl (al_7_16f t_a) (by decide) (fun _ => rfl) (fun _ _ => rfl) ww_243 n32_36.1 n32_36.2 (Nat.le_of_ble_eq_true rfl) (fun k _ => by rw [mc_own_new (by omega), mc_v_int ((al_7_16f t_a)).1 (by decide)]; rfl) (fun _ => rfl) (by decide) (by decide) rfl rfl rfl d_To_init_120 rfl ?_
  refine MC.putF (k := 16) (v := .ref (a + 12)) t_a (by omega) lays_7 toks_7 fq_7_16 fo_7_16 (fun _ => by rw [nt_7_16]; exact ⟨rfl, rfl⟩) ww_420 d_To_init_122 rfl ?_
  rw [mc_own_set (fs' := [.int 0, .ref (a + 1), .ref (a + 2), .ref (a + 3), .ref (a + 4), .int 0, .int 0, .ref (a + 5), .int 0, .ref (a + 6), .ref (a + 7), .ref (a + 8), .ref (a + 9), .int 0, .ref (a + 10), .ref (a + 11), .ref (a + 12), .int 0, .null, .null]) (Nat.le_of_ble_eq_true rfl) rfl]
  refine MC.aload_n (i := 0) rfl rfl d_To_init_125 rfl ?_
  refine MC.iconst ic_0 d_To_init_126 rfl ?_
  refine MC.putN (k := 17) (v := .int 0) t_a (by omega) lays_7 toks_7 fq_7_17 (fun _ => by rw [nt_7_17]; exact ⟨rfl, rfl⟩) ww_422 d_To_init_127 rfl ?_
  rw [mc_own_set (fs' := [.int 0, .ref (a + 1), .ref (a + 2), .ref (a + 3), .ref (a + 4), .int 0, .int 0, .ref (a + 5), .int 0, .ref (a + 6), .ref (a + 7), .ref (a + 8), .ref (a + 9), .int 0, .ref (a + 10), .ref (a + 11), .ref (a + 12), .int 0, .null, .null]) (Nat.le_of_ble_eq_true rfl) rfl]
  refine MC.aload_n (i := 0) rfl rfl d_To_init_130 rfl ?_
  refine MC.bipush bp_10 d_To_init_131 rfl ?_
  refine MC.newarr (nn' := a + 14) (ck' := 13) (sk' := 180) (N := 10) (t := 20) (ty := .int) rfl (al_7_18f t_a) (by decide) (fun _ => rfl) (fun _ _ => rfl) ww_243 n32_10.1 n32_10.2 (Nat.le_of_ble_eq_true rfl) (fun k _ => by rw [mc_own_new (by omega), mc_v_int ((al_7_18f t_a)).1 (by decide)]; rfl) (fun _ => rfl) (by decide) (by decide) rfl rfl rfl d_To_init_133 rfl ?_
  refine MC.putF (k := 18) (v := .ref (a + 13)) t_a (by omega) lays_7 toks_7 fq_7_18 fo_7_18 (fun _ => by rw [nt_7_18]; exact ⟨rfl, rfl⟩) ww_425 d_To_init_135 rfl ?_
  rw [mc_own_set (fs' := [.int 0, .ref (a + 1), .ref (a + 2), .ref (a + 3), .ref (a + 4), .int 0, .int 0, .ref (a + 5), .int 0, .ref (a + 6), .ref (a + 7), .ref (a + 8), .ref (a + 9), .int 0, .ref (a + 10), .ref (a + 11), .ref (a + 12), .int 0, .ref (a + 13), .null]) (Nat.le_of_ble_eq_true rfl) rfl]
  refine MC.aload_n (i := 0) rfl rfl d_To_init_138 rfl ?_
  refine MC.new (nn' := a + 15) (ck' := 14) (sk' := 183) (t := 2) (tg_7_19f t_a) (by decide) lays_2 toks_2 ww_344 ww_345 ww_118 dvl_2 (by decide) (by decide) rfl rfl rfl d_To_init_139 rfl ?_
  refine MC.dup rfl d_To_init_142 rfl ?_
  refine MC.initN (nn' := a + 17) (ck' := 16) (sk' := 1207) (fun w => C_La_init V l (a + 14) (tg_7_19f t_a) w) rfl ww_348 rfl ww_118 ci_La_init ww_347 ww_346n (by decide) (by simp [Value.category]) (by decide) (by decide) rfl rfl rfl d_To_init_143 rfl ?_
  rw [mc_own_to (by omega)]
  refine MC.putF (k := 19) (v := .ref (a + 14)) t_a (by omega) lays_7 toks_7 fq_7_19 fo_7_19 (fun _ => by rw [nt_7_19]; exact ⟨rfl, rfl⟩) ww_428 d_To_init_146 rfl ?_
  rw [mc_own_set (fs' := [.int 0, .ref (a + 1), .ref (a + 2), .ref (a + 3), .ref (a + 4), .int 0, .int 0, .ref (a + 5), .int 0, .ref (a + 6), .ref (a + 7), .ref (a + 8), .ref (a + 9), .int 0, .ref (a + 10), .ref (a + 11), .ref (a + 12), .int 0, .ref (a + 13), .ref (a + 14)]) (Nat.le_of_ble_eq_true rfl) rfl]
  exact MC.vret (mc_fin (fun k hk => fin_7 _ (by have := mm_tg_lt t_a (by decide); exact this.2) t_a k hk)) rfl d_To_init_149
/-! PaidSecrets$Tape -/
theorem d_Ta_init_0 : decode cX7_init 0 = .ok (.aload_n 0, 1) := by decide +kernel
theorem d_Ta_init_1 : decode cX7_init 1 = .ok (.invokespecial 3, 3) := by decide +kernel
theorem d_Ta_init_4 : decode cX7_init 4 = .ok (.aload_n 0, 1) := by decide +kernel
theorem d_Ta_init_5 : decode cX7_init 5 = .ok (.sipush 1000, 3) := by decide +kernel
theorem d_Ta_init_8 : decode cX7_init 8 = .ok (.newarray .char, 2) := by decide +kernel
theorem d_Ta_init_10 : decode cX7_init 10 = .ok (.putfield 11, 3) := by decide +kernel
theorem d_Ta_init_13 : decode cX7_init 13 = .ok (.aload_n 0, 1) := by decide +kernel
theorem d_Ta_init_14 : decode cX7_init 14 = .ok (.iconst 0, 1) := by decide +kernel
theorem d_Ta_init_15 : decode cX7_init 15 = .ok (.putfield 15, 3) := by decide +kernel
theorem d_Ta_init_18 : decode cX7_init 18 = .ok (.aload_n 0, 1) := by decide +kernel
theorem d_Ta_init_19 : decode cX7_init 19 = .ok (.iconst 0, 1) := by decide +kernel
theorem d_Ta_init_20 : decode cX7_init 20 = .ok (.putfield 19, 3) := by decide +kernel
theorem d_Ta_init_23 : decode cX7_init 23 = .ok (.aload_n 0, 1) := by decide +kernel
theorem d_Ta_init_24 : decode cX7_init 24 = .ok (.iconst 0, 1) := by decide +kernel
theorem d_Ta_init_25 : decode cX7_init 25 = .ok (.putfield 22, 3) := by decide +kernel
theorem d_Ta_init_28 : decode cX7_init 28 = .ok (.aload_n 0, 1) := by decide +kernel
theorem d_Ta_init_29 : decode cX7_init 29 = .ok (.iconst 1, 1) := by decide +kernel
theorem d_Ta_init_30 : decode cX7_init 30 = .ok (.putfield 25, 3) := by decide +kernel
theorem d_Ta_init_33 : decode cX7_init 33 = .ok (.aload_n 0, 1) := by decide +kernel
theorem d_Ta_init_34 : decode cX7_init 34 = .ok (.iconst 0, 1) := by decide +kernel
theorem d_Ta_init_35 : decode cX7_init 35 = .ok (.putfield 28, 3) := by decide +kernel
theorem d_Ta_init_38 : decode cX7_init 38 = .ok (.aload_n 0, 1) := by decide +kernel
theorem d_Ta_init_39 : decode cX7_init 39 = .ok (.lconst 0, 1) := by decide +kernel
theorem d_Ta_init_40 : decode cX7_init 40 = .ok (.putfield 31, 3) := by decide +kernel
theorem d_Ta_init_43 : decode cX7_init 43 = .ok (.aload_n 0, 1) := by decide +kernel
theorem d_Ta_init_44 : decode cX7_init 44 = .ok (.aconst_null, 1) := by decide +kernel
theorem d_Ta_init_45 : decode cX7_init 45 = .ok (.putfield 35, 3) := by decide +kernel
theorem d_Ta_init_48 : decode cX7_init 48 = .ok (.aload_n 0, 1) := by decide +kernel
theorem d_Ta_init_49 : decode cX7_init 49 = .ok (.bipush 32, 2) := by decide +kernel
theorem d_Ta_init_51 : decode cX7_init 51 = .ok (.putfield 39, 3) := by decide +kernel
theorem d_Ta_init_54 : decode cX7_init 54 = .ok (.aload_n 0, 1) := by decide +kernel
theorem d_Ta_init_55 : decode cX7_init 55 = .ok (.iconst 0, 1) := by decide +kernel
theorem d_Ta_init_56 : decode cX7_init 56 = .ok (.putfield 43, 3) := by decide +kernel
theorem d_Ta_init_59 : decode cX7_init 59 = .ok (.return_, 1) := by decide +kernel
theorem C_Ta_init (V : mm_V) (l : Launch) (a : Nat) (ea : a = 33) (w : Nat → Nat → Value) : MCT V l Y_Ta_init 2 1 1000 a (mc_df w a) := by
  subst ea
  refine MCT.intro (pn_Ta rfl) (by decide) ?_
  refine MC.own (fs := [.null, .int 0, .int 0, .int 0, .int 0, .int 0, .long 0, .null, .int 0, .int 0]) rfl (fun k hk => dfl_6 tg_33 trivial k hk) ?_
  refine MC.aload_n (i := 0) rfl rfl d_Ta_init_0 rfl ?_
  refine MC.obj ww_150 ww_143 ww_144 (by decide) rfl d_Ta_init_1 rfl ?_
  refine MC.aload_n (i := 0) rfl rfl d_Ta_init_4 rfl ?_
  refine MC.sipush sp_1000 d_Ta_init_5 rfl ?_
  refine MC.newarr (nn' := 35) (ck' := 1) (sk' := 1000) (N := 1000) (t := 22) (ty := .char) rfl al_34 (by decide) (fun _ => rfl) (fun _ _ => rfl) ww_194 n32_1000.1 n32_1000.2 (Nat.le_of_ble_eq_true rfl) (fun k _ => by rw [mc_own_new (by omega), mc_v_int (al_34).1 (by decide)]; rfl) (fun _ => rfl) (by decide) (by decide) rfl rfl rfl d_Ta_init_8 rfl ?_
  refine MC.putF (k := 0) (v := .ref (34)) tg_33 (by omega) lays_6 toks_6 fq_6_0 fo_6_0 (fun _ => by rw [nt_6_0]; exact ⟨rfl, rfl⟩) ww_151 d_Ta_init_10 rfl ?_
  rw [mc_own_set (fs' := [.ref (34), .int 0, .int 0, .int 0, .int 0, .int 0, .long 0, .null, .int 0, .int 0]) (Nat.le_of_ble_eq_true rfl) rfl]
  refine MC.aload_n (i := 0) rfl rfl d_Ta_init_13 rfl ?_
  refine MC.iconst ic_0 d_Ta_init_14 rfl ?_
  refine MC.putN (k := 1) (v := .int 0) tg_33 (by omega) lays_6 toks_6 fq_6_1 (fun _ => by rw [nt_6_1]; exact ⟨rfl, rfl⟩) ww_152 d_Ta_init_15 rfl ?_
  rw [mc_own_set (fs' := [.ref (34), .int 0, .int 0, .int 0, .int 0, .int 0, .long 0, .null, .int 0, .int 0]) (Nat.le_of_ble_eq_true rfl) rfl]
  refine MC.aload_n (i := 0) rfl rfl d_Ta_init_18 rfl ?_
  refine MC.iconst ic_0 d_Ta_init_19 rfl ?_
  refine MC.putN (k := 2) (v := .int 0) tg_33 (by omega) lays_6 toks_6 fq_6_2 (fun _ => by rw [nt_6_2]; exact ⟨rfl, rfl⟩) ww_154 d_Ta_init_20 rfl ?_
  rw [mc_own_set (fs' := [.ref (34), .int 0, .int 0, .int 0, .int 0, .int 0, .long 0, .null, .int 0, .int 0]) (Nat.le_of_ble_eq_true rfl) rfl]
  refine MC.aload_n (i := 0) rfl rfl d_Ta_init_23 rfl ?_
  refine MC.iconst ic_0 d_Ta_init_24 rfl ?_
  refine MC.putN (k := 3) (v := .int 0) tg_33 (by omega) lays_6 toks_6 fq_6_3 (fun _ => by rw [nt_6_3]; exact ⟨rfl, rfl⟩) ww_155 d_Ta_init_25 rfl ?_
  rw [mc_own_set (fs' := [.ref (34), .int 0, .int 0, .int 0, .int 0, .int 0, .long 0, .null, .int 0, .int 0]) (Nat.le_of_ble_eq_true rfl) rfl]
  refine MC.aload_n (i := 0) rfl rfl d_Ta_init_28 rfl ?_
  refine MC.iconst ic_1 d_Ta_init_29 rfl ?_
  refine MC.putN (k := 4) (v := .int 1) tg_33 (by omega) lays_6 toks_6 fq_6_4 (fun _ => by rw [nt_6_4]; exact ⟨rfl, rfl⟩) ww_156 d_Ta_init_30 rfl ?_
  rw [mc_own_set (fs' := [.ref (34), .int 0, .int 0, .int 0, .int 1, .int 0, .long 0, .null, .int 0, .int 0]) (Nat.le_of_ble_eq_true rfl) rfl]
  refine MC.aload_n (i := 0) rfl rfl d_Ta_init_33 rfl ?_
  refine MC.iconst ic_0 d_Ta_init_34 rfl ?_
  refine MC.putN (k := 5) (v := .int 0) tg_33 (by omega) lays_6 toks_6 fq_6_5 (fun _ => by rw [nt_6_5]; exact ⟨rfl, rfl⟩) ww_160 d_Ta_init_35 rfl ?_
  rw [mc_own_set (fs' := [.ref (34), .int 0, .int 0, .int 0, .int 1, .int 0, .long 0, .null, .int 0, .int 0]) (Nat.le_of_ble_eq_true rfl) rfl]
  refine MC.aload_n (i := 0) rfl rfl d_Ta_init_38 rfl ?_
  refine MC.lconst (v := 0) rfl d_Ta_init_39 rfl ?_
  refine MC.putN (k := 6) (v := .long 0) tg_33 (by omega) lays_6 toks_6 fq_6_6 (fun _ => by rw [nt_6_6]; exact ⟨rfl, rfl⟩) ww_162 d_Ta_init_40 rfl ?_
  rw [mc_own_set (fs' := [.ref (34), .int 0, .int 0, .int 0, .int 1, .int 0, .long 0, .null, .int 0, .int 0]) (Nat.le_of_ble_eq_true rfl) rfl]
  refine MC.aload_n (i := 0) rfl rfl d_Ta_init_43 rfl ?_
  refine MC.anull d_Ta_init_44 rfl ?_
  refine MC.putN (k := 7) (v := .null) tg_33 (by omega) lays_6 toks_6 fq_6_7 (fun _ => by rw [nt_6_7]; exact ⟨rfl, rfl⟩) ww_165 d_Ta_init_45 rfl ?_
  rw [mc_own_set (fs' := [.ref (34), .int 0, .int 0, .int 0, .int 1, .int 0, .long 0, .null, .int 0, .int 0]) (Nat.le_of_ble_eq_true rfl) rfl]
  refine MC.aload_n (i := 0) rfl rfl d_Ta_init_48 rfl ?_
  refine MC.bipush bp_32 d_Ta_init_49 rfl ?_
  refine MC.putN (k := 8) (v := .int 32) tg_33 (by omega) lays_6 toks_6 fq_6_8 (fun _ => by rw [nt_6_8]; exact ⟨(by decide +kernel : narrow .char (.int 32) = .int 32), (by decide +kernel : fits .char (.int 32) = true)⟩) ww_169 d_Ta_init_51 rfl ?_
  rw [mc_own_set (fs' := [.ref (34), .int 0, .int 0, .int 0, .int 1, .int 0, .long 0, .null, .int 32, .int 0]) (Nat.le_of_ble_eq_true rfl) rfl]
  refine MC.aload_n (i := 0) rfl rfl d_Ta_init_54 rfl ?_
  refine MC.iconst ic_0 d_Ta_init_55 rfl ?_
  refine MC.putN (k := 9) (v := .int 0) tg_33 (by omega) lays_6 toks_6 fq_6_9 (fun _ => by rw [nt_6_9]; exact ⟨rfl, rfl⟩) ww_170 d_Ta_init_56 rfl ?_
  rw [mc_own_set (fs' := [.ref (34), .int 0, .int 0, .int 0, .int 1, .int 0, .long 0, .null, .int 32, .int 0]) (Nat.le_of_ble_eq_true rfl) rfl]
  exact MC.vret (mc_fin (fun k hk => fin_6  k hk)) rfl d_Ta_init_59
/-! PaidSecrets$Collector -/
theorem d_Co_init_0 : decode cX0_init 0 = .ok (.aload_n 0, 1) := by decide +kernel
theorem d_Co_init_1 : decode cX0_init 1 = .ok (.invokespecial 3, 3) := by decide +kernel
theorem d_Co_init_4 : decode cX0_init 4 = .ok (.aload_n 0, 1) := by decide +kernel
theorem d_Co_init_5 : decode cX0_init 5 = .ok (.sipush 1024, 3) := by decide +kernel
theorem d_Co_init_8 : decode cX0_init 8 = .ok (.newarray .int, 2) := by decide +kernel
theorem d_Co_init_10 : decode cX0_init 10 = .ok (.putfield 9, 3) := by decide +kernel
theorem d_Co_init_13 : decode cX0_init 13 = .ok (.aload_n 0, 1) := by decide +kernel
theorem d_Co_init_14 : decode cX0_init 14 = .ok (.sipush 1024, 3) := by decide +kernel
theorem d_Co_init_17 : decode cX0_init 17 = .ok (.newarray .long, 2) := by decide +kernel
theorem d_Co_init_19 : decode cX0_init 19 = .ok (.putfield 15, 3) := by decide +kernel
theorem d_Co_init_22 : decode cX0_init 22 = .ok (.aload_n 0, 1) := by decide +kernel
theorem d_Co_init_23 : decode cX0_init 23 = .ok (.bipush 64, 2) := by decide +kernel
theorem d_Co_init_25 : decode cX0_init 25 = .ok (.newarray .int, 2) := by decide +kernel
theorem d_Co_init_27 : decode cX0_init 27 = .ok (.putfield 19, 3) := by decide +kernel
theorem d_Co_init_30 : decode cX0_init 30 = .ok (.return_, 1) := by decide +kernel
theorem C_Co_init (V : mm_V) (l : Launch) (a : Nat) (ea : a = 64) (w : Nat → Nat → Value) : MCT V l Y_Co_init 2 3 2112 a (mc_df w a) := by
  subst ea
  refine MCT.intro (pn_Co rfl) (by decide) ?_
  refine MC.own (fs := [.null, .null, .null]) rfl (fun k hk => dfl_0 tg_64 trivial k hk) ?_
  refine MC.aload_n (i := 0) rfl rfl d_Co_init_0 rfl ?_
  refine MC.obj ww_292 ww_143 ww_144 (by decide) rfl d_Co_init_1 rfl ?_
  refine MC.aload_n (i := 0) rfl rfl d_Co_init_4 rfl ?_
  refine MC.sipush sp_1024 d_Co_init_5 rfl ?_
  refine MC.newarr (nn' := 66) (ck' := 1) (sk' := 1024) (N := 1024) (t := 20) (ty := .int) rfl al_65 (by decide) (fun _ => rfl) (fun _ _ => rfl) ww_243 n32_1024.1 n32_1024.2 (Nat.le_of_ble_eq_true rfl) (fun k _ => by rw [mc_own_new (by omega), mc_v_int (al_65).1 (by decide)]; rfl) (fun _ => rfl) (by decide) (by decide) rfl rfl rfl d_Co_init_8 rfl ?_
  refine MC.putF (k := 0) (v := .ref (65)) tg_64 (by omega) lays_0 toks_0 fq_0_0 fo_0_0 (fun _ => by rw [nt_0_0]; exact ⟨rfl, rfl⟩) ww_293 d_Co_init_10 rfl ?_
  rw [mc_own_set (fs' := [.ref (65), .null, .null]) (Nat.le_of_ble_eq_true rfl) rfl]
  refine MC.aload_n (i := 0) rfl rfl d_Co_init_13 rfl ?_
  refine MC.sipush sp_1024 d_Co_init_14 rfl ?_
  refine MC.newarr (nn' := 67) (ck' := 2) (sk' := 2048) (N := 1024) (t := 21) (ty := .long) rfl al_66 (by decide) (fun _ => rfl) (fun _ _ => rfl) ww_244 n32_1024.1 n32_1024.2 (Nat.le_of_ble_eq_true rfl) (fun k _ => by rw [mc_own_new (by omega), mc_v_long (al_66).1]; rfl) (fun _ => rfl) (by decide) (by decide) rfl rfl rfl d_Co_init_17 rfl ?_
  refine MC.putF (k := 1) (v := .ref (66)) tg_64 (by omega) lays_0 toks_0 fq_0_1 fo_0_1 (fun _ => by rw [nt_0_1]; exact ⟨rfl, rfl⟩) ww_294 d_Co_init_19 rfl ?_
  rw [mc_own_set (fs' := [.ref (65), .ref (66), .null]) (Nat.le_of_ble_eq_true rfl) rfl]
  refine MC.aload_n (i := 0) rfl rfl d_Co_init_22 rfl ?_
  refine MC.bipush bp_64 d_Co_init_23 rfl ?_
  refine MC.newarr (nn' := 68) (ck' := 3) (sk' := 2112) (N := 64) (t := 20) (ty := .int) rfl al_67 (by decide) (fun _ => rfl) (fun _ _ => rfl) ww_243 n32_64.1 n32_64.2 (Nat.le_of_ble_eq_true rfl) (fun k _ => by rw [mc_own_new (by omega), mc_v_int (al_67).1 (by decide)]; rfl) (fun _ => rfl) (by decide) (by decide) rfl rfl rfl d_Co_init_25 rfl ?_
  refine MC.putF (k := 2) (v := .ref (67)) tg_64 (by omega) lays_0 toks_0 fq_0_2 fo_0_2 (fun _ => by rw [nt_0_2]; exact ⟨rfl, rfl⟩) ww_295 d_Co_init_27 rfl ?_
  rw [mc_own_set (fs' := [.ref (65), .ref (66), .ref (67)]) (Nat.le_of_ble_eq_true rfl) rfl]
  exact MC.vret (mc_fin (fun k hk => fin_0  k hk)) rfl d_Co_init_30
/-! PaidSecrets$Feast -/
theorem d_Fe_init_0 : decode cX1_init 0 = .ok (.aload_n 0, 1) := by decide +kernel
theorem d_Fe_init_1 : decode cX1_init 1 = .ok (.invokespecial 3, 3) := by decide +kernel
theorem d_Fe_init_4 : decode cX1_init 4 = .ok (.aload_n 0, 1) := by decide +kernel
theorem d_Fe_init_5 : decode cX1_init 5 = .ok (.iconst 3, 1) := by decide +kernel
theorem d_Fe_init_6 : decode cX1_init 6 = .ok (.newarray .int, 2) := by decide +kernel
theorem d_Fe_init_8 : decode cX1_init 8 = .ok (.putfield 11, 3) := by decide +kernel
theorem d_Fe_init_11 : decode cX1_init 11 = .ok (.aload_n 0, 1) := by decide +kernel
theorem d_Fe_init_12 : decode cX1_init 12 = .ok (.iconst 3, 1) := by decide +kernel
theorem d_Fe_init_13 : decode cX1_init 13 = .ok (.newarray .int, 2) := by decide +kernel
theorem d_Fe_init_15 : decode cX1_init 15 = .ok (.putfield 15, 3) := by decide +kernel
theorem d_Fe_init_18 : decode cX1_init 18 = .ok (.aload_n 0, 1) := by decide +kernel
theorem d_Fe_init_19 : decode cX1_init 19 = .ok (.iconst 0, 1) := by decide +kernel
theorem d_Fe_init_20 : decode cX1_init 20 = .ok (.putfield 18, 3) := by decide +kernel
theorem d_Fe_init_23 : decode cX1_init 23 = .ok (.return_, 1) := by decide +kernel
theorem C_Fe_init (V : mm_V) (l : Launch) (a : Nat) (ea : a = 68) (w : Nat → Nat → Value) : MCT V l Y_Fe_init 2 2 6 a (mc_df w a) := by
  subst ea
  refine MCT.intro (pn_Fe rfl) (by decide) ?_
  refine MC.own (fs := [.null, .null, .int 0]) rfl (fun k hk => dfl_1 tg_68 trivial k hk) ?_
  refine MC.aload_n (i := 0) rfl rfl d_Fe_init_0 rfl ?_
  refine MC.obj ww_308 ww_143 ww_144 (by decide) rfl d_Fe_init_1 rfl ?_
  refine MC.aload_n (i := 0) rfl rfl d_Fe_init_4 rfl ?_
  refine MC.iconst ic_3 d_Fe_init_5 rfl ?_
  refine MC.newarr (nn' := 70) (ck' := 1) (sk' := 3) (N := 3) (t := 20) (ty := .int) rfl al_69 (by decide) (fun _ => rfl) (fun _ _ => rfl) ww_243 n32_3.1 n32_3.2 (Nat.le_of_ble_eq_true rfl) (fun k _ => by rw [mc_own_new (by omega), mc_v_int (al_69).1 (by decide)]; rfl) (fun _ => rfl) (by decide) (by decide) rfl rfl rfl d_Fe_init_6 rfl ?_
  refine MC.putF (k := 0) (v := .ref (69)) tg_68 (by omega) lays_1 toks_1 fq_1_0 fo_1_0 (fun _ => by rw [nt_1_0]; exact ⟨rfl, rfl⟩) ww_309 d_Fe_init_8 rfl ?_
  rw [mc_own_set (fs' := [.ref (69), .null, .int 0]) (Nat.le_of_ble_eq_true rfl) rfl]
  refine MC.aload_n (i := 0) rfl rfl d_Fe_init_11 rfl ?_
  refine MC.iconst ic_3 d_Fe_init_12 rfl ?_
  refine MC.newarr (nn' := 71) (ck' := 2) (sk' := 6) (N := 3) (t := 20) (ty := .int) rfl al_70 (by decide) (fun _ => rfl) (fun _ _ => rfl) ww_243 n32_3.1 n32_3.2 (Nat.le_of_ble_eq_true rfl) (fun k _ => by rw [mc_own_new (by omega), mc_v_int (al_70).1 (by decide)]; rfl) (fun _ => rfl) (by decide) (by decide) rfl rfl rfl d_Fe_init_13 rfl ?_
  refine MC.putF (k := 1) (v := .ref (70)) tg_68 (by omega) lays_1 toks_1 fq_1_1 fo_1_1 (fun _ => by rw [nt_1_1]; exact ⟨rfl, rfl⟩) ww_310 d_Fe_init_15 rfl ?_
  rw [mc_own_set (fs' := [.ref (69), .ref (70), .int 0]) (Nat.le_of_ble_eq_true rfl) rfl]
  refine MC.aload_n (i := 0) rfl rfl d_Fe_init_18 rfl ?_
  refine MC.iconst ic_0 d_Fe_init_19 rfl ?_
  refine MC.putN (k := 2) (v := .int 0) tg_68 (by omega) lays_1 toks_1 fq_1_2 (fun _ => by rw [nt_1_2]; exact ⟨rfl, rfl⟩) ww_311 d_Fe_init_20 rfl ?_
  rw [mc_own_set (fs' := [.ref (69), .ref (70), .int 0]) (Nat.le_of_ble_eq_true rfl) rfl]
  exact MC.vret (mc_fin (fun k hk => fin_1  k hk)) rfl d_Fe_init_23
/-! PaidSecrets$Nights -/
theorem d_Ni_init_0 : decode cX4_init 0 = .ok (.aload_n 0, 1) := by decide +kernel
theorem d_Ni_init_1 : decode cX4_init 1 = .ok (.invokespecial 3, 3) := by decide +kernel
theorem d_Ni_init_4 : decode cX4_init 4 = .ok (.aload_n 0, 1) := by decide +kernel
theorem d_Ni_init_5 : decode cX4_init 5 = .ok (.bipush 64, 2) := by decide +kernel
theorem d_Ni_init_7 : decode cX4_init 7 = .ok (.newarray .long, 2) := by decide +kernel
theorem d_Ni_init_9 : decode cX4_init 9 = .ok (.putfield 9, 3) := by decide +kernel
theorem d_Ni_init_12 : decode cX4_init 12 = .ok (.aload_n 0, 1) := by decide +kernel
theorem d_Ni_init_13 : decode cX4_init 13 = .ok (.bipush 64, 2) := by decide +kernel
theorem d_Ni_init_15 : decode cX4_init 15 = .ok (.newarray .long, 2) := by decide +kernel
theorem d_Ni_init_17 : decode cX4_init 17 = .ok (.putfield 15, 3) := by decide +kernel
theorem d_Ni_init_20 : decode cX4_init 20 = .ok (.aload_n 0, 1) := by decide +kernel
theorem d_Ni_init_21 : decode cX4_init 21 = .ok (.bipush 6, 2) := by decide +kernel
theorem d_Ni_init_23 : decode cX4_init 23 = .ok (.newarray .long, 2) := by decide +kernel
theorem d_Ni_init_25 : decode cX4_init 25 = .ok (.putfield 18, 3) := by decide +kernel
theorem d_Ni_init_28 : decode cX4_init 28 = .ok (.aload_n 0, 1) := by decide +kernel
theorem d_Ni_init_29 : decode cX4_init 29 = .ok (.bipush 7, 2) := by decide +kernel
theorem d_Ni_init_31 : decode cX4_init 31 = .ok (.newarray .int, 2) := by decide +kernel
theorem d_Ni_init_33 : decode cX4_init 33 = .ok (.putfield 21, 3) := by decide +kernel
theorem d_Ni_init_36 : decode cX4_init 36 = .ok (.return_, 1) := by decide +kernel
theorem C_Ni_init (V : mm_V) (l : Launch) (a : Nat) (ea : a = 71) (w : Nat → Nat → Value) : MCT V l Y_Ni_init 2 4 141 a (mc_df w a) := by
  subst ea
  refine MCT.intro (pn_Ni rfl) (by decide) ?_
  refine MC.own (fs := [.null, .null, .null, .null]) rfl (fun k hk => dfl_3 tg_71 trivial k hk) ?_
  refine MC.aload_n (i := 0) rfl rfl d_Ni_init_0 rfl ?_
  refine MC.obj ww_324 ww_143 ww_144 (by decide) rfl d_Ni_init_1 rfl ?_
  refine MC.aload_n (i := 0) rfl rfl d_Ni_init_4 rfl ?_
  refine MC.bipush bp_64 d_Ni_init_5 rfl ?_
  refine MC.newarr (nn' := 73) (ck' := 1) (sk' := 64) (N := 64) (t := 21) (ty := .long) rfl al_72 (by decide) (fun _ => rfl) (fun _ _ => rfl) ww_244 n32_64.1 n32_64.2 (Nat.le_of_ble_eq_true rfl) (fun k _ => by rw [mc_own_new (by omega), mc_v_long (al_72).1]; rfl) (fun _ => rfl) (by decide) (by decide) rfl rfl rfl d_Ni_init_7 rfl ?_
  refine MC.putF (k := 0) (v := .ref (72)) tg_71 (by omega) lays_3 toks_3 fq_3_0 fo_3_0 (fun _ => by rw [nt_3_0]; exact ⟨rfl, rfl⟩) ww_325 d_Ni_init_9 rfl ?_
  rw [mc_own_set (fs' := [.ref (72), .null, .null, .null]) (Nat.le_of_ble_eq_true rfl) rfl]
  refine MC.aload_n (i := 0) rfl rfl d_Ni_init_12 rfl ?_
  refine MC.bipush bp_64 d_Ni_init_13 rfl ?_
  refine MC.newarr (nn' := 74) (ck' := 2) (sk' := 128) (N := 64) (t := 21) (ty := .long) rfl al_73 (by decide) (fun _ => rfl) (fun _ _ => rfl) ww_244 n32_64.1 n32_64.2 (Nat.le_of_ble_eq_true rfl) (fun k _ => by rw [mc_own_new (by omega), mc_v_long (al_73).1]; rfl) (fun _ => rfl) (by decide) (by decide) rfl rfl rfl d_Ni_init_15 rfl ?_
  refine MC.putF (k := 1) (v := .ref (73)) tg_71 (by omega) lays_3 toks_3 fq_3_1 fo_3_1 (fun _ => by rw [nt_3_1]; exact ⟨rfl, rfl⟩) ww_326 d_Ni_init_17 rfl ?_
  rw [mc_own_set (fs' := [.ref (72), .ref (73), .null, .null]) (Nat.le_of_ble_eq_true rfl) rfl]
  refine MC.aload_n (i := 0) rfl rfl d_Ni_init_20 rfl ?_
  refine MC.bipush bp_6 d_Ni_init_21 rfl ?_
  refine MC.newarr (nn' := 75) (ck' := 3) (sk' := 134) (N := 6) (t := 21) (ty := .long) rfl al_74 (by decide) (fun _ => rfl) (fun _ _ => rfl) ww_244 n32_6.1 n32_6.2 (Nat.le_of_ble_eq_true rfl) (fun k _ => by rw [mc_own_new (by omega), mc_v_long (al_74).1]; rfl) (fun _ => rfl) (by decide) (by decide) rfl rfl rfl d_Ni_init_23 rfl ?_
  refine MC.putF (k := 2) (v := .ref (74)) tg_71 (by omega) lays_3 toks_3 fq_3_2 fo_3_2 (fun _ => by rw [nt_3_2]; exact ⟨rfl, rfl⟩) ww_327 d_Ni_init_25 rfl ?_
  rw [mc_own_set (fs' := [.ref (72), .ref (73), .ref (74), .null]) (Nat.le_of_ble_eq_true rfl) rfl]
  refine MC.aload_n (i := 0) rfl rfl d_Ni_init_28 rfl ?_
  refine MC.bipush bp_7 d_Ni_init_29 rfl ?_
  refine MC.newarr (nn' := 76) (ck' := 4) (sk' := 141) (N := 7) (t := 20) (ty := .int) rfl al_75 (by decide) (fun _ => rfl) (fun _ _ => rfl) ww_243 n32_7.1 n32_7.2 (Nat.le_of_ble_eq_true rfl) (fun k _ => by rw [mc_own_new (by omega), mc_v_int (al_75).1 (by decide)]; rfl) (fun _ => rfl) (by decide) (by decide) rfl rfl rfl d_Ni_init_31 rfl ?_
  refine MC.putF (k := 3) (v := .ref (75)) tg_71 (by omega) lays_3 toks_3 fq_3_3 fo_3_3 (fun _ => by rw [nt_3_3]; exact ⟨rfl, rfl⟩) ww_328 d_Ni_init_33 rfl ?_
  rw [mc_own_set (fs' := [.ref (72), .ref (73), .ref (74), .ref (75)]) (Nat.le_of_ble_eq_true rfl) rfl]
  exact MC.vret (mc_fin (fun k hk => fin_3  k hk)) rfl d_Ni_init_36
/-! PaidSecretsModel -/
theorem d_M_init_0 : decode cX12_init 0 = .ok (.aload_n 0, 1) := by decide +kernel
theorem d_M_init_1 : decode cX12_init 1 = .ok (.invokespecial 1, 3) := by decide +kernel
theorem d_M_init_4 : decode cX12_init 4 = .ok (.aload_n 0, 1) := by decide +kernel
theorem d_M_init_5 : decode cX12_init 5 = .ok (.sipush 1000, 3) := by decide +kernel
theorem d_M_init_8 : decode cX12_init 8 = .ok (.newarray .int, 2) := by decide +kernel
theorem d_M_init_10 : decode cX12_init 10 = .ok (.putfield 7, 3) := by decide +kernel
theorem d_M_init_13 : decode cX12_init 13 = .ok (.aload_n 0, 1) := by decide +kernel
theorem d_M_init_14 : decode cX12_init 14 = .ok (.bipush 8, 2) := by decide +kernel
theorem d_M_init_16 : decode cX12_init 16 = .ok (.newarray .int, 2) := by decide +kernel
theorem d_M_init_18 : decode cX12_init 18 = .ok (.putfield 13, 3) := by decide +kernel
theorem d_M_init_21 : decode cX12_init 21 = .ok (.aload_n 0, 1) := by decide +kernel
theorem d_M_init_22 : decode cX12_init 22 = .ok (.bipush 12, 2) := by decide +kernel
theorem d_M_init_24 : decode cX12_init 24 = .ok (.newarray .long, 2) := by decide +kernel
theorem d_M_init_26 : decode cX12_init 26 = .ok (.putfield 16, 3) := by decide +kernel
theorem d_M_init_29 : decode cX12_init 29 = .ok (.aload_n 0, 1) := by decide +kernel
theorem d_M_init_30 : decode cX12_init 30 = .ok (.bipush 20, 2) := by decide +kernel
theorem d_M_init_32 : decode cX12_init 32 = .ok (.newarray .long, 2) := by decide +kernel
theorem d_M_init_34 : decode cX12_init 34 = .ok (.putfield 20, 3) := by decide +kernel
theorem d_M_init_37 : decode cX12_init 37 = .ok (.aload_n 0, 1) := by decide +kernel
theorem d_M_init_38 : decode cX12_init 38 = .ok (.bipush 12, 2) := by decide +kernel
theorem d_M_init_40 : decode cX12_init 40 = .ok (.newarray .int, 2) := by decide +kernel
theorem d_M_init_42 : decode cX12_init 42 = .ok (.putfield 23, 3) := by decide +kernel
theorem d_M_init_45 : decode cX12_init 45 = .ok (.aload_n 0, 1) := by decide +kernel
theorem d_M_init_46 : decode cX12_init 46 = .ok (.bipush 12, 2) := by decide +kernel
theorem d_M_init_48 : decode cX12_init 48 = .ok (.newarray .int, 2) := by decide +kernel
theorem d_M_init_50 : decode cX12_init 50 = .ok (.putfield 26, 3) := by decide +kernel
theorem d_M_init_53 : decode cX12_init 53 = .ok (.aload_n 0, 1) := by decide +kernel
theorem d_M_init_54 : decode cX12_init 54 = .ok (.bipush 12, 2) := by decide +kernel
theorem d_M_init_56 : decode cX12_init 56 = .ok (.newarray .int, 2) := by decide +kernel
theorem d_M_init_58 : decode cX12_init 58 = .ok (.putfield 29, 3) := by decide +kernel
theorem d_M_init_61 : decode cX12_init 61 = .ok (.aload_n 0, 1) := by decide +kernel
theorem d_M_init_62 : decode cX12_init 62 = .ok (.bipush 20, 2) := by decide +kernel
theorem d_M_init_64 : decode cX12_init 64 = .ok (.newarray .int, 2) := by decide +kernel
theorem d_M_init_66 : decode cX12_init 66 = .ok (.putfield 32, 3) := by decide +kernel
theorem d_M_init_69 : decode cX12_init 69 = .ok (.aload_n 0, 1) := by decide +kernel
theorem d_M_init_70 : decode cX12_init 70 = .ok (.bipush 20, 2) := by decide +kernel
theorem d_M_init_72 : decode cX12_init 72 = .ok (.newarray .int, 2) := by decide +kernel
theorem d_M_init_74 : decode cX12_init 74 = .ok (.putfield 35, 3) := by decide +kernel
theorem d_M_init_77 : decode cX12_init 77 = .ok (.aload_n 0, 1) := by decide +kernel
theorem d_M_init_78 : decode cX12_init 78 = .ok (.bipush 20, 2) := by decide +kernel
theorem d_M_init_80 : decode cX12_init 80 = .ok (.newarray .int, 2) := by decide +kernel
theorem d_M_init_82 : decode cX12_init 82 = .ok (.putfield 38, 3) := by decide +kernel
theorem d_M_init_85 : decode cX12_init 85 = .ok (.aload_n 0, 1) := by decide +kernel
theorem d_M_init_86 : decode cX12_init 86 = .ok (.bipush 20, 2) := by decide +kernel
theorem d_M_init_88 : decode cX12_init 88 = .ok (.newarray .int, 2) := by decide +kernel
theorem d_M_init_90 : decode cX12_init 90 = .ok (.putfield 41, 3) := by decide +kernel
theorem d_M_init_93 : decode cX12_init 93 = .ok (.aload_n 0, 1) := by decide +kernel
theorem d_M_init_94 : decode cX12_init 94 = .ok (.bipush 20, 2) := by decide +kernel
theorem d_M_init_96 : decode cX12_init 96 = .ok (.newarray .int, 2) := by decide +kernel
theorem d_M_init_98 : decode cX12_init 98 = .ok (.putfield 44, 3) := by decide +kernel
theorem d_M_init_101 : decode cX12_init 101 = .ok (.aload_n 0, 1) := by decide +kernel
theorem d_M_init_102 : decode cX12_init 102 = .ok (.bipush 20, 2) := by decide +kernel
theorem d_M_init_104 : decode cX12_init 104 = .ok (.newarray .int, 2) := by decide +kernel
theorem d_M_init_106 : decode cX12_init 106 = .ok (.putfield 47, 3) := by decide +kernel
theorem d_M_init_109 : decode cX12_init 109 = .ok (.aload_n 0, 1) := by decide +kernel
theorem d_M_init_110 : decode cX12_init 110 = .ok (.bipush 60, 2) := by decide +kernel
theorem d_M_init_112 : decode cX12_init 112 = .ok (.newarray .int, 2) := by decide +kernel
theorem d_M_init_114 : decode cX12_init 114 = .ok (.putfield 50, 3) := by decide +kernel
theorem d_M_init_117 : decode cX12_init 117 = .ok (.aload_n 0, 1) := by decide +kernel
theorem d_M_init_118 : decode cX12_init 118 = .ok (.bipush 60, 2) := by decide +kernel
theorem d_M_init_120 : decode cX12_init 120 = .ok (.newarray .int, 2) := by decide +kernel
theorem d_M_init_122 : decode cX12_init 122 = .ok (.putfield 53, 3) := by decide +kernel
theorem d_M_init_125 : decode cX12_init 125 = .ok (.aload_n 0, 1) := by decide +kernel
theorem d_M_init_126 : decode cX12_init 126 = .ok (.bipush 60, 2) := by decide +kernel
theorem d_M_init_128 : decode cX12_init 128 = .ok (.newarray .int, 2) := by decide +kernel
theorem d_M_init_130 : decode cX12_init 130 = .ok (.putfield 56, 3) := by decide +kernel
theorem d_M_init_133 : decode cX12_init 133 = .ok (.aload_n 0, 1) := by decide +kernel
theorem d_M_init_134 : decode cX12_init 134 = .ok (.iconst 2, 1) := by decide +kernel
theorem d_M_init_135 : decode cX12_init 135 = .ok (.newarray .int, 2) := by decide +kernel
theorem d_M_init_137 : decode cX12_init 137 = .ok (.putfield 59, 3) := by decide +kernel
theorem d_M_init_140 : decode cX12_init 140 = .ok (.aload_n 0, 1) := by decide +kernel
theorem d_M_init_141 : decode cX12_init 141 = .ok (.iconst 2, 1) := by decide +kernel
theorem d_M_init_142 : decode cX12_init 142 = .ok (.newarray .int, 2) := by decide +kernel
theorem d_M_init_144 : decode cX12_init 144 = .ok (.putfield 62, 3) := by decide +kernel
theorem d_M_init_147 : decode cX12_init 147 = .ok (.aload_n 0, 1) := by decide +kernel
theorem d_M_init_148 : decode cX12_init 148 = .ok (.sipush 2000, 3) := by decide +kernel
theorem d_M_init_151 : decode cX12_init 151 = .ok (.newarray .int, 2) := by decide +kernel
theorem d_M_init_153 : decode cX12_init 153 = .ok (.putfield 65, 3) := by decide +kernel
theorem d_M_init_156 : decode cX12_init 156 = .ok (.aload_n 0, 1) := by decide +kernel
theorem d_M_init_157 : decode cX12_init 157 = .ok (.bipush 7, 2) := by decide +kernel
theorem d_M_init_159 : decode cX12_init 159 = .ok (.newarray .int, 2) := by decide +kernel
theorem d_M_init_161 : decode cX12_init 161 = .ok (.putfield 68, 3) := by decide +kernel
theorem d_M_init_164 : decode cX12_init 164 = .ok (.aload_n 0, 1) := by decide +kernel
theorem d_M_init_165 : decode cX12_init 165 = .ok (.bipush 7, 2) := by decide +kernel
theorem d_M_init_167 : decode cX12_init 167 = .ok (.newarray .boolean, 2) := by decide +kernel
theorem d_M_init_169 : decode cX12_init 169 = .ok (.putfield 71, 3) := by decide +kernel
theorem d_M_init_172 : decode cX12_init 172 = .ok (.aload_n 0, 1) := by decide +kernel
theorem d_M_init_173 : decode cX12_init 173 = .ok (.bipush 7, 2) := by decide +kernel
theorem d_M_init_175 : decode cX12_init 175 = .ok (.newarray .int, 2) := by decide +kernel
theorem d_M_init_177 : decode cX12_init 177 = .ok (.putfield 75, 3) := by decide +kernel
theorem d_M_init_180 : decode cX12_init 180 = .ok (.aload_n 0, 1) := by decide +kernel
theorem d_M_init_181 : decode cX12_init 181 = .ok (.bipush 7, 2) := by decide +kernel
theorem d_M_init_183 : decode cX12_init 183 = .ok (.newarray .int, 2) := by decide +kernel
theorem d_M_init_185 : decode cX12_init 185 = .ok (.putfield 78, 3) := by decide +kernel
theorem d_M_init_188 : decode cX12_init 188 = .ok (.aload_n 0, 1) := by decide +kernel
theorem d_M_init_189 : decode cX12_init 189 = .ok (.bipush 7, 2) := by decide +kernel
theorem d_M_init_191 : decode cX12_init 191 = .ok (.newarray .int, 2) := by decide +kernel
theorem d_M_init_193 : decode cX12_init 193 = .ok (.putfield 81, 3) := by decide +kernel
theorem d_M_init_196 : decode cX12_init 196 = .ok (.aload_n 0, 1) := by decide +kernel
theorem d_M_init_197 : decode cX12_init 197 = .ok (.bipush 7, 2) := by decide +kernel
theorem d_M_init_199 : decode cX12_init 199 = .ok (.newarray .int, 2) := by decide +kernel
theorem d_M_init_201 : decode cX12_init 201 = .ok (.putfield 84, 3) := by decide +kernel
theorem d_M_init_204 : decode cX12_init 204 = .ok (.aload_n 0, 1) := by decide +kernel
theorem d_M_init_205 : decode cX12_init 205 = .ok (.bipush 7, 2) := by decide +kernel
theorem d_M_init_207 : decode cX12_init 207 = .ok (.newarray .int, 2) := by decide +kernel
theorem d_M_init_209 : decode cX12_init 209 = .ok (.putfield 87, 3) := by decide +kernel
theorem d_M_init_212 : decode cX12_init 212 = .ok (.aload_n 0, 1) := by decide +kernel
theorem d_M_init_213 : decode cX12_init 213 = .ok (.bipush 7, 2) := by decide +kernel
theorem d_M_init_215 : decode cX12_init 215 = .ok (.newarray .int, 2) := by decide +kernel
theorem d_M_init_217 : decode cX12_init 217 = .ok (.putfield 90, 3) := by decide +kernel
theorem d_M_init_220 : decode cX12_init 220 = .ok (.aload_n 0, 1) := by decide +kernel
theorem d_M_init_221 : decode cX12_init 221 = .ok (.bipush 7, 2) := by decide +kernel
theorem d_M_init_223 : decode cX12_init 223 = .ok (.newarray .int, 2) := by decide +kernel
theorem d_M_init_225 : decode cX12_init 225 = .ok (.putfield 93, 3) := by decide +kernel
theorem d_M_init_228 : decode cX12_init 228 = .ok (.aload_n 0, 1) := by decide +kernel
theorem d_M_init_229 : decode cX12_init 229 = .ok (.bipush 7, 2) := by decide +kernel
theorem d_M_init_231 : decode cX12_init 231 = .ok (.newarray .int, 2) := by decide +kernel
theorem d_M_init_233 : decode cX12_init 233 = .ok (.putfield 96, 3) := by decide +kernel
theorem d_M_init_236 : decode cX12_init 236 = .ok (.aload_n 0, 1) := by decide +kernel
theorem d_M_init_237 : decode cX12_init 237 = .ok (.bipush 7, 2) := by decide +kernel
theorem d_M_init_239 : decode cX12_init 239 = .ok (.newarray .int, 2) := by decide +kernel
theorem d_M_init_241 : decode cX12_init 241 = .ok (.putfield 99, 3) := by decide +kernel
theorem d_M_init_244 : decode cX12_init 244 = .ok (.aload_n 0, 1) := by decide +kernel
theorem d_M_init_245 : decode cX12_init 245 = .ok (.bipush 20, 2) := by decide +kernel
theorem d_M_init_247 : decode cX12_init 247 = .ok (.newarray .int, 2) := by decide +kernel
theorem d_M_init_249 : decode cX12_init 249 = .ok (.putfield 102, 3) := by decide +kernel
theorem d_M_init_252 : decode cX12_init 252 = .ok (.aload_n 0, 1) := by decide +kernel
theorem d_M_init_253 : decode cX12_init 253 = .ok (.bipush 6, 2) := by decide +kernel
theorem d_M_init_255 : decode cX12_init 255 = .ok (.newarray .int, 2) := by decide +kernel
theorem d_M_init_257 : decode cX12_init 257 = .ok (.putfield 105, 3) := by decide +kernel
theorem d_M_init_260 : decode cX12_init 260 = .ok (.aload_n 0, 1) := by decide +kernel
theorem d_M_init_261 : decode cX12_init 261 = .ok (.sipush 180, 3) := by decide +kernel
theorem d_M_init_264 : decode cX12_init 264 = .ok (.newarray .int, 2) := by decide +kernel
theorem d_M_init_266 : decode cX12_init 266 = .ok (.putfield 108, 3) := by decide +kernel
theorem d_M_init_269 : decode cX12_init 269 = .ok (.aload_n 0, 1) := by decide +kernel
theorem d_M_init_270 : decode cX12_init 270 = .ok (.sipush 180, 3) := by decide +kernel
theorem d_M_init_273 : decode cX12_init 273 = .ok (.newarray .int, 2) := by decide +kernel
theorem d_M_init_275 : decode cX12_init 275 = .ok (.putfield 111, 3) := by decide +kernel
theorem d_M_init_278 : decode cX12_init 278 = .ok (.aload_n 0, 1) := by decide +kernel
theorem d_M_init_279 : decode cX12_init 279 = .ok (.sipush 180, 3) := by decide +kernel
theorem d_M_init_282 : decode cX12_init 282 = .ok (.newarray .int, 2) := by decide +kernel
theorem d_M_init_284 : decode cX12_init 284 = .ok (.putfield 114, 3) := by decide +kernel
theorem d_M_init_287 : decode cX12_init 287 = .ok (.aload_n 0, 1) := by decide +kernel
theorem d_M_init_288 : decode cX12_init 288 = .ok (.sipush 180, 3) := by decide +kernel
theorem d_M_init_291 : decode cX12_init 291 = .ok (.newarray .int, 2) := by decide +kernel
theorem d_M_init_293 : decode cX12_init 293 = .ok (.putfield 117, 3) := by decide +kernel
theorem d_M_init_296 : decode cX12_init 296 = .ok (.aload_n 0, 1) := by decide +kernel
theorem d_M_init_297 : decode cX12_init 297 = .ok (.iconst 5, 1) := by decide +kernel
theorem d_M_init_298 : decode cX12_init 298 = .ok (.newarray .int, 2) := by decide +kernel
theorem d_M_init_300 : decode cX12_init 300 = .ok (.putfield 120, 3) := by decide +kernel
theorem d_M_init_303 : decode cX12_init 303 = .ok (.aload_n 0, 1) := by decide +kernel
theorem d_M_init_304 : decode cX12_init 304 = .ok (.bipush 50, 2) := by decide +kernel
theorem d_M_init_306 : decode cX12_init 306 = .ok (.newarray .int, 2) := by decide +kernel
theorem d_M_init_308 : decode cX12_init 308 = .ok (.putfield 123, 3) := by decide +kernel
theorem d_M_init_311 : decode cX12_init 311 = .ok (.aload_n 0, 1) := by decide +kernel
theorem d_M_init_312 : decode cX12_init 312 = .ok (.bipush 50, 2) := by decide +kernel
theorem d_M_init_314 : decode cX12_init 314 = .ok (.newarray .boolean, 2) := by decide +kernel
theorem d_M_init_316 : decode cX12_init 316 = .ok (.putfield 126, 3) := by decide +kernel
theorem d_M_init_319 : decode cX12_init 319 = .ok (.aload_n 0, 1) := by decide +kernel
theorem d_M_init_320 : decode cX12_init 320 = .ok (.bipush 123, 2) := by decide +kernel
theorem d_M_init_322 : decode cX12_init 322 = .ok (.newarray .int, 2) := by decide +kernel
theorem d_M_init_324 : decode cX12_init 324 = .ok (.putfield 129, 3) := by decide +kernel
theorem d_M_init_327 : decode cX12_init 327 = .ok (.aload_n 0, 1) := by decide +kernel
theorem d_M_init_328 : decode cX12_init 328 = .ok (.sipush 246, 3) := by decide +kernel
theorem d_M_init_331 : decode cX12_init 331 = .ok (.newarray .int, 2) := by decide +kernel
theorem d_M_init_333 : decode cX12_init 333 = .ok (.putfield 132, 3) := by decide +kernel
theorem d_M_init_336 : decode cX12_init 336 = .ok (.aload_n 0, 1) := by decide +kernel
theorem d_M_init_337 : decode cX12_init 337 = .ok (.sipush 492, 3) := by decide +kernel
theorem d_M_init_340 : decode cX12_init 340 = .ok (.newarray .int, 2) := by decide +kernel
theorem d_M_init_342 : decode cX12_init 342 = .ok (.putfield 135, 3) := by decide +kernel
theorem d_M_init_345 : decode cX12_init 345 = .ok (.aload_n 0, 1) := by decide +kernel
theorem d_M_init_346 : decode cX12_init 346 = .ok (.sipush 1968, 3) := by decide +kernel
theorem d_M_init_349 : decode cX12_init 349 = .ok (.newarray .int, 2) := by decide +kernel
theorem d_M_init_351 : decode cX12_init 351 = .ok (.putfield 138, 3) := by decide +kernel
theorem d_M_init_354 : decode cX12_init 354 = .ok (.aload_n 0, 1) := by decide +kernel
theorem d_M_init_355 : decode cX12_init 355 = .ok (.iconst 4, 1) := by decide +kernel
theorem d_M_init_356 : decode cX12_init 356 = .ok (.newarray .boolean, 2) := by decide +kernel
theorem d_M_init_358 : decode cX12_init 358 = .ok (.putfield 141, 3) := by decide +kernel
theorem d_M_init_361 : decode cX12_init 361 = .ok (.aload_n 0, 1) := by decide +kernel
theorem d_M_init_362 : decode cX12_init 362 = .ok (.ldc 144, 2) := by decide +kernel
theorem d_M_init_364 : decode cX12_init 364 = .ok (.newarray .boolean, 2) := by decide +kernel
theorem d_M_init_366 : decode cX12_init 366 = .ok (.putfield 145, 3) := by decide +kernel
theorem d_M_init_369 : decode cX12_init 369 = .ok (.aload_n 0, 1) := by decide +kernel
theorem d_M_init_370 : decode cX12_init 370 = .ok (.sipush 6144, 3) := by decide +kernel
theorem d_M_init_373 : decode cX12_init 373 = .ok (.newarray .boolean, 2) := by decide +kernel
theorem d_M_init_375 : decode cX12_init 375 = .ok (.putfield 148, 3) := by decide +kernel
theorem d_M_init_378 : decode cX12_init 378 = .ok (.aload_n 0, 1) := by decide +kernel
theorem d_M_init_379 : decode cX12_init 379 = .ok (.iconst 2, 1) := by decide +kernel
theorem d_M_init_380 : decode cX12_init 380 = .ok (.newarray .int, 2) := by decide +kernel
theorem d_M_init_382 : decode cX12_init 382 = .ok (.putfield 151, 3) := by decide +kernel
theorem d_M_init_385 : decode cX12_init 385 = .ok (.aload_n 0, 1) := by decide +kernel
theorem d_M_init_386 : decode cX12_init 386 = .ok (.iconst 2, 1) := by decide +kernel
theorem d_M_init_387 : decode cX12_init 387 = .ok (.newarray .int, 2) := by decide +kernel
theorem d_M_init_389 : decode cX12_init 389 = .ok (.putfield 154, 3) := by decide +kernel
theorem d_M_init_392 : decode cX12_init 392 = .ok (.aload_n 0, 1) := by decide +kernel
theorem d_M_init_393 : decode cX12_init 393 = .ok (.bipush 64, 2) := by decide +kernel
theorem d_M_init_395 : decode cX12_init 395 = .ok (.newarray .int, 2) := by decide +kernel
theorem d_M_init_397 : decode cX12_init 397 = .ok (.putfield 157, 3) := by decide +kernel
theorem d_M_init_400 : decode cX12_init 400 = .ok (.aload_n 0, 1) := by decide +kernel
theorem d_M_init_401 : decode cX12_init 401 = .ok (.bipush 64, 2) := by decide +kernel
theorem d_M_init_403 : decode cX12_init 403 = .ok (.newarray .int, 2) := by decide +kernel
theorem d_M_init_405 : decode cX12_init 405 = .ok (.putfield 160, 3) := by decide +kernel
theorem d_M_init_408 : decode cX12_init 408 = .ok (.aload_n 0, 1) := by decide +kernel
theorem d_M_init_409 : decode cX12_init 409 = .ok (.bipush 6, 2) := by decide +kernel
theorem d_M_init_411 : decode cX12_init 411 = .ok (.newarray .int, 2) := by decide +kernel
theorem d_M_init_413 : decode cX12_init 413 = .ok (.putfield 163, 3) := by decide +kernel
theorem d_M_init_416 : decode cX12_init 416 = .ok (.aload_n 0, 1) := by decide +kernel
theorem d_M_init_417 : decode cX12_init 417 = .ok (.bipush 64, 2) := by decide +kernel
theorem d_M_init_419 : decode cX12_init 419 = .ok (.newarray .int, 2) := by decide +kernel
theorem d_M_init_421 : decode cX12_init 421 = .ok (.putfield 166, 3) := by decide +kernel
theorem d_M_init_424 : decode cX12_init 424 = .ok (.aload_n 0, 1) := by decide +kernel
theorem d_M_init_425 : decode cX12_init 425 = .ok (.iconst 3, 1) := by decide +kernel
theorem d_M_init_426 : decode cX12_init 426 = .ok (.newarray .int, 2) := by decide +kernel
theorem d_M_init_428 : decode cX12_init 428 = .ok (.putfield 169, 3) := by decide +kernel
theorem d_M_init_431 : decode cX12_init 431 = .ok (.aload_n 0, 1) := by decide +kernel
theorem d_M_init_432 : decode cX12_init 432 = .ok (.iconst 3, 1) := by decide +kernel
theorem d_M_init_433 : decode cX12_init 433 = .ok (.newarray .int, 2) := by decide +kernel
theorem d_M_init_435 : decode cX12_init 435 = .ok (.putfield 172, 3) := by decide +kernel
theorem d_M_init_438 : decode cX12_init 438 = .ok (.return_, 1) := by decide +kernel
theorem C_M_init (V : mm_V) (l : Launch) (a : Nat) (ea : a = 261) (w : Nat → Nat → Value) : MCT V l Y_M_init 2 54 79029 a (mc_df w a) := by
  subst ea
  refine MCT.intro (pn_M rfl) (by decide) ?_
  refine MC.own (fs := [.int 0, .int 0, .null, .int 0, .int 0, .int 0, .int 0, .long 0, .int 0, .int 0, .null, .null, .null, .null, .null, .null, .null, .null, .null, .null, .null, .null, .null, .null, .null, .null, .null, .null, .int 0, .null, .null, .null, .null, .null, .null, .null, .null, .null, .null, .null, .null, .int 0, .null, .null, .null, .null, .null, .null, .null, .null, .null, .null, .null, .null, .null, .int 0, .null, .null, .null, .null, .int 0, .int 0, .null, .null, .null, .null, .null, .null, .int 0, .long 0]) rfl (fun k hk => dfl_9 tg_261 trivial k hk) ?_
  refine MC.aload_n (i := 0) rfl rfl d_M_init_0 rfl ?_
  refine MC.obj ww_1356 ww_143 ww_144 (by decide) rfl d_M_init_1 rfl ?_
  refine MC.aload_n (i := 0) rfl rfl d_M_init_4 rfl ?_
  refine MC.sipush sp_1000 d_M_init_5 rfl ?_
  refine MC.newarr (nn' := 263) (ck' := 1) (sk' := 1000) (N := 1000) (t := 20) (ty := .int) rfl al_262 (by decide) (fun _ => rfl) (fun _ _ => rfl) ww_243 n32_1000.1 n32_1000.2 (Nat.le_of_ble_eq_true rfl) (fun k _ => by rw [mc_own_new (by omega), mc_v_int (al_262).1 (by decide)]; rfl) (fun _ => rfl) (by decide) (by decide) rfl rfl rfl d_M_init_8 rfl ?_
  refine MC.putF (k := 2) (v := .ref (262)) tg_261 (by omega) lays_9 toks_9 fq_9_2 fo_9_2 (fun _ => by rw [nt_9_2]; exact ⟨rfl, rfl⟩) ww_1360 d_M_init_10 rfl ?_
  rw [mc_own_set (fs' := [.int 0, .int 0, .ref (262), .int 0, .int 0, .int 0, .int 0, .long 0, .int 0, .int 0, .null, .null, .null, .null, .null, .null, .null, .null, .null, .null, .null, .null, .null, .null, .null, .null, .null, .null, .int 0, .null, .null, .null, .null, .null, .null, .null, .null, .null, .null, .null, .null, .int 0, .null, .null, .null, .null, .null, .null, .null, .null, .null, .null, .null, .null, .null, .int 0, .null, .null, .null, .null, .int 0, .int 0, .null, .null, .null, .null, .null, .null, .int 0, .long 0]) (Nat.le_of_ble_eq_true rfl) rfl]
  refine MC.aload_n (i := 0) rfl rfl d_M_init_13 rfl ?_
  refine MC.bipush bp_8 d_M_init_14 rfl ?_
  refine MC.newarr (nn' := 264) (ck' := 2) (sk' := 1008) (N := 8) (t := 20) (ty := .int) rfl al_263 (by decide) (fun _ => rfl) (fun _ _ => rfl) ww_243 n32_8.1 n32_8.2 (Nat.le_of_ble_eq_true rfl) (fun k _ => by rw [mc_own_new (by omega), mc_v_int (al_263).1 (by decide)]; rfl) (fun _ => rfl) (by decide) (by decide) rfl rfl rfl d_M_init_16 rfl ?_
  refine MC.putF (k := 10) (v := .ref (263)) tg_261 (by omega) lays_9 toks_9 fq_9_10 fo_9_10 (fun _ => by rw [nt_9_10]; exact ⟨rfl, rfl⟩) ww_1368 d_M_init_18 rfl ?_
  rw [mc_own_set (fs' := [.int 0, .int 0, .ref (262), .int 0, .int 0, .int 0, .int 0, .long 0, .int 0, .int 0, .ref (263), .null, .null, .null, .null, .null, .null, .null, .null, .null, .null, .null, .null, .null, .null, .null, .null, .null, .int 0, .null, .null, .null, .null, .null, .null, .null, .null, .null, .null, .null, .null, .int 0, .null, .null, .null, .null, .null, .null, .null, .null, .null, .null, .null, .null, .null, .int 0, .null, .null, .null, .null, .int 0, .int 0, .null, .null, .null, .null, .null, .null, .int 0, .long 0]) (Nat.le_of_ble_eq_true rfl) rfl]
  refine MC.aload_n (i := 0) rfl rfl d_M_init_21 rfl ?_
  refine MC.bipush bp_12 d_M_init_22 rfl ?_
  refine MC.newarr (nn' := 265) (ck' := 3) (sk' := 1020) (N := 12) (t := 21) (ty := .long) rfl al_264 (by decide) (fun _ => rfl) (fun _ _ => rfl) ww_244 n32_12.1 n32_12.2 (Nat.le_of_ble_eq_true rfl) (fun k _ => by rw [mc_own_new (by omega), mc_v_long (al_264).1]; rfl) (fun _ => rfl) (by decide) (by decide) rfl rfl rfl d_M_init_24 rfl ?_
  refine MC.putF (k := 11) (v := .ref (264)) tg_261 (by omega) lays_9 toks_9 fq_9_11 fo_9_11 (fun _ => by rw [nt_9_11]; exact ⟨rfl, rfl⟩) ww_1369 d_M_init_26 rfl ?_
  rw [mc_own_set (fs' := [.int 0, .int 0, .ref (262), .int 0, .int 0, .int 0, .int 0, .long 0, .int 0, .int 0, .ref (263), .ref (264), .null, .null, .null, .null, .null, .null, .null, .null, .null, .null, .null, .null, .null, .null, .null, .null, .int 0, .null, .null, .null, .null, .null, .null, .null, .null, .null, .null, .null, .null, .int 0, .null, .null, .null, .null, .null, .null, .null, .null, .null, .null, .null, .null, .null, .int 0, .null, .null, .null, .null, .int 0, .int 0, .null, .null, .null, .null, .null, .null, .int 0, .long 0]) (Nat.le_of_ble_eq_true rfl) rfl]
  refine MC.aload_n (i := 0) rfl rfl d_M_init_29 rfl ?_
  refine MC.bipush bp_20 d_M_init_30 rfl ?_
  refine MC.newarr (nn' := 266) (ck' := 4) (sk' := 1040) (N := 20) (t := 21) (ty := .long) rfl al_265 (by decide) (fun _ => rfl) (fun _ _ => rfl) ww_244 n32_20.1 n32_20.2 (Nat.le_of_ble_eq_true rfl) (fun k _ => by rw [mc_own_new (by omega), mc_v_long (al_265).1]; rfl) (fun _ => rfl) (by decide) (by decide) rfl rfl rfl d_M_init_32 rfl ?_
  refine MC.putF (k := 12) (v := .ref (265)) tg_261 (by omega) lays_9 toks_9 fq_9_12 fo_9_12 (fun _ => by rw [nt_9_12]; exact ⟨rfl, rfl⟩) ww_1370 d_M_init_34 rfl ?_
  rw [mc_own_set (fs' := [.int 0, .int 0, .ref (262), .int 0, .int 0, .int 0, .int 0, .long 0, .int 0, .int 0, .ref (263), .ref (264), .ref (265), .null, .null, .null, .null, .null, .null, .null, .null, .null, .null, .null, .null, .null, .null, .null, .int 0, .null, .null, .null, .null, .null, .null, .null, .null, .null, .null, .null, .null, .int 0, .null, .null, .null, .null, .null, .null, .null, .null, .null, .null, .null, .null, .null, .int 0, .null, .null, .null, .null, .int 0, .int 0, .null, .null, .null, .null, .null, .null, .int 0, .long 0]) (Nat.le_of_ble_eq_true rfl) rfl]
  refine MC.aload_n (i := 0) rfl rfl d_M_init_37 rfl ?_
  refine MC.bipush bp_12 d_M_init_38 rfl ?_
  refine MC.newarr (nn' := 267) (ck' := 5) (sk' := 1052) (N := 12) (t := 20) (ty := .int) rfl al_266 (by decide) (fun _ => rfl) (fun _ _ => rfl) ww_243 n32_12.1 n32_12.2 (Nat.le_of_ble_eq_true rfl) (fun k _ => by rw [mc_own_new (by omega), mc_v_int (al_266).1 (by decide)]; rfl) (fun _ => rfl) (by decide) (by decide) rfl rfl rfl d_M_init_40 rfl ?_
  refine MC.putF (k := 13) (v := .ref (266)) tg_261 (by omega) lays_9 toks_9 fq_9_13 fo_9_13 (fun _ => by rw [nt_9_13]; exact ⟨rfl, rfl⟩) ww_1371 d_M_init_42 rfl ?_
  rw [mc_own_set (fs' := [.int 0, .int 0, .ref (262), .int 0, .int 0, .int 0, .int 0, .long 0, .int 0, .int 0, .ref (263), .ref (264), .ref (265), .ref (266), .null, .null, .null, .null, .null, .null, .null, .null, .null, .null, .null, .null, .null, .null, .int 0, .null, .null, .null, .null, .null, .null, .null, .null, .null, .null, .null, .null, .int 0, .null, .null, .null, .null, .null, .null, .null, .null, .null, .null, .null, .null, .null, .int 0, .null, .null, .null, .null, .int 0, .int 0, .null, .null, .null, .null, .null, .null, .int 0, .long 0]) (Nat.le_of_ble_eq_true rfl) rfl]
  refine MC.aload_n (i := 0) rfl rfl d_M_init_45 rfl ?_
  refine MC.bipush bp_12 d_M_init_46 rfl ?_
  refine MC.newarr (nn' := 268) (ck' := 6) (sk' := 1064) (N := 12) (t := 20) (ty := .int) rfl al_267 (by decide) (fun _ => rfl) (fun _ _ => rfl) ww_243 n32_12.1 n32_12.2 (Nat.le_of_ble_eq_true rfl) (fun k _ => by rw [mc_own_new (by omega), mc_v_int (al_267).1 (by decide)]; rfl) (fun _ => rfl) (by decide) (by decide) rfl rfl rfl d_M_init_48 rfl ?_
  refine MC.putF (k := 14) (v := .ref (267)) tg_261 (by omega) lays_9 toks_9 fq_9_14 fo_9_14 (fun _ => by rw [nt_9_14]; exact ⟨rfl, rfl⟩) ww_1372 d_M_init_50 rfl ?_
  rw [mc_own_set (fs' := [.int 0, .int 0, .ref (262), .int 0, .int 0, .int 0, .int 0, .long 0, .int 0, .int 0, .ref (263), .ref (264), .ref (265), .ref (266), .ref (267), .null, .null, .null, .null, .null, .null, .null, .null, .null, .null, .null, .null, .null, .int 0, .null, .null, .null, .null, .null, .null, .null, .null, .null, .null, .null, .null, .int 0, .null, .null, .null, .null, .null, .null, .null, .null, .null, .null, .null, .null, .null, .int 0, .null, .null, .null, .null, .int 0, .int 0, .null, .null, .null, .null, .null, .null, .int 0, .long 0]) (Nat.le_of_ble_eq_true rfl) rfl]
  refine MC.aload_n (i := 0) rfl rfl d_M_init_53 rfl ?_
  refine MC.bipush bp_12 d_M_init_54 rfl ?_
  refine MC.newarr (nn' := 269) (ck' := 7) (sk' := 1076) (N := 12) (t := 20) (ty := .int) rfl al_268 (by decide) (fun _ => rfl) (fun _ _ => rfl) ww_243 n32_12.1 n32_12.2 (Nat.le_of_ble_eq_true rfl) (fun k _ => by rw [mc_own_new (by omega), mc_v_int (al_268).1 (by decide)]; rfl) (fun _ => rfl) (by decide) (by decide) rfl rfl rfl d_M_init_56 rfl ?_
  refine MC.putF (k := 15) (v := .ref (268)) tg_261 (by omega) lays_9 toks_9 fq_9_15 fo_9_15 (fun _ => by rw [nt_9_15]; exact ⟨rfl, rfl⟩) ww_1373 d_M_init_58 rfl ?_
  rw [mc_own_set (fs' := [.int 0, .int 0, .ref (262), .int 0, .int 0, .int 0, .int 0, .long 0, .int 0, .int 0, .ref (263), .ref (264), .ref (265), .ref (266), .ref (267), .ref (268), .null, .null, .null, .null, .null, .null, .null, .null, .null, .null, .null, .null, .int 0, .null, .null, .null, .null, .null, .null, .null, .null, .null, .null, .null, .null, .int 0, .null, .null, .null, .null, .null, .null, .null, .null, .null, .null, .null, .null, .null, .int 0, .null, .null, .null, .null, .int 0, .int 0, .null, .null, .null, .null, .null, .null, .int 0, .long 0]) (Nat.le_of_ble_eq_true rfl) rfl]
  refine MC.aload_n (i := 0) rfl rfl d_M_init_61 rfl ?_
  refine MC.bipush bp_20 d_M_init_62 rfl ?_
  refine MC.newarr (nn' := 270) (ck' := 8) (sk' := 1096) (N := 20) (t := 20) (ty := .int) rfl al_269 (by decide) (fun _ => rfl) (fun _ _ => rfl) ww_243 n32_20.1 n32_20.2 (Nat.le_of_ble_eq_true rfl) (fun k _ => by rw [mc_own_new (by omega), mc_v_int (al_269).1 (by decide)]; rfl) (fun _ => rfl) (by decide) (by decide) rfl rfl rfl d_M_init_64 rfl ?_
  refine MC.putF (k := 16) (v := .ref (269)) tg_261 (by omega) lays_9 toks_9 fq_9_16 fo_9_16 (fun _ => by rw [nt_9_16]; exact ⟨rfl, rfl⟩) ww_1374 d_M_init_66 rfl ?_
  rw [mc_own_set (fs' := [.int 0, .int 0, .ref (262), .int 0, .int 0, .int 0, .int 0, .long 0, .int 0, .int 0, .ref (263), .ref (264), .ref (265), .ref (266), .ref (267), .ref (268), .ref (269), .null, .null, .null, .null, .null, .null, .null, .null, .null, .null, .null, .int 0, .null, .null, .null, .null, .null, .null, .null, .null, .null, .null, .null, .null, .int 0, .null, .null, .null, .null, .null, .null, .null, .null, .null, .null, .null, .null, .null, .int 0, .null, .null, .null, .null, .int 0, .int 0, .null, .null, .null, .null, .null, .null, .int 0, .long 0]) (Nat.le_of_ble_eq_true rfl) rfl]
  refine MC.aload_n (i := 0) rfl rfl d_M_init_69 rfl ?_
  refine MC.bipush bp_20 d_M_init_70 rfl ?_
  refine MC.newarr (nn' := 271) (ck' := 9) (sk' := 1116) (N := 20) (t := 20) (ty := .int) rfl al_270 (by decide) (fun _ => rfl) (fun _ _ => rfl) ww_243 n32_20.1 n32_20.2 (Nat.le_of_ble_eq_true rfl) (fun k _ => by rw [mc_own_new (by omega), mc_v_int (al_270).1 (by decide)]; rfl) (fun _ => rfl) (by decide) (by decide) rfl rfl rfl d_M_init_72 rfl ?_
  refine MC.putF (k := 17) (v := .ref (270)) tg_261 (by omega) lays_9 toks_9 fq_9_17 fo_9_17 (fun _ => by rw [nt_9_17]; exact ⟨rfl, rfl⟩) ww_1375 d_M_init_74 rfl ?_
  rw [mc_own_set (fs' := [.int 0, .int 0, .ref (262), .int 0, .int 0, .int 0, .int 0, .long 0, .int 0, .int 0, .ref (263), .ref (264), .ref (265), .ref (266), .ref (267), .ref (268), .ref (269), .ref (270), .null, .null, .null, .null, .null, .null, .null, .null, .null, .null, .int 0, .null, .null, .null, .null, .null, .null, .null, .null, .null, .null, .null, .null, .int 0, .null, .null, .null, .null, .null, .null, .null, .null, .null, .null, .null, .null, .null, .int 0, .null, .null, .null, .null, .int 0, .int 0, .null, .null, .null, .null, .null, .null, .int 0, .long 0]) (Nat.le_of_ble_eq_true rfl) rfl]
  refine MC.aload_n (i := 0) rfl rfl d_M_init_77 rfl ?_
  refine MC.bipush bp_20 d_M_init_78 rfl ?_
  refine MC.newarr (nn' := 272) (ck' := 10) (sk' := 1136) (N := 20) (t := 20) (ty := .int) rfl al_271 (by decide) (fun _ => rfl) (fun _ _ => rfl) ww_243 n32_20.1 n32_20.2 (Nat.le_of_ble_eq_true rfl) (fun k _ => by rw [mc_own_new (by omega), mc_v_int (al_271).1 (by decide)]; rfl) (fun _ => rfl) (by decide) (by decide) rfl rfl rfl d_M_init_80 rfl ?_
  refine MC.putF (k := 18) (v := .ref (271)) tg_261 (by omega) lays_9 toks_9 fq_9_18 fo_9_18 (fun _ => by rw [nt_9_18]; exact ⟨rfl, rfl⟩) ww_1376 d_M_init_82 rfl ?_
  rw [mc_own_set (fs' := [.int 0, .int 0, .ref (262), .int 0, .int 0, .int 0, .int 0, .long 0, .int 0, .int 0, .ref (263), .ref (264), .ref (265), .ref (266), .ref (267), .ref (268), .ref (269), .ref (270), .ref (271), .null, .null, .null, .null, .null, .null, .null, .null, .null, .int 0, .null, .null, .null, .null, .null, .null, .null, .null, .null, .null, .null, .null, .int 0, .null, .null, .null, .null, .null, .null, .null, .null, .null, .null, .null, .null, .null, .int 0, .null, .null, .null, .null, .int 0, .int 0, .null, .null, .null, .null, .null, .null, .int 0, .long 0]) (Nat.le_of_ble_eq_true rfl) rfl]
  refine MC.aload_n (i := 0) rfl rfl d_M_init_85 rfl ?_
  refine MC.bipush bp_20 d_M_init_86 rfl ?_
  refine MC.newarr (nn' := 273) (ck' := 11) (sk' := 1156) (N := 20) (t := 20) (ty := .int) rfl al_272 (by decide) (fun _ => rfl) (fun _ _ => rfl) ww_243 n32_20.1 n32_20.2 (Nat.le_of_ble_eq_true rfl) (fun k _ => by rw [mc_own_new (by omega), mc_v_int (al_272).1 (by decide)]; rfl) (fun _ => rfl) (by decide) (by decide) rfl rfl rfl d_M_init_88 rfl ?_
  refine MC.putF (k := 19) (v := .ref (272)) tg_261 (by omega) lays_9 toks_9 fq_9_19 fo_9_19 (fun _ => by rw [nt_9_19]; exact ⟨rfl, rfl⟩) ww_1377 d_M_init_90 rfl ?_
  rw [mc_own_set (fs' := [.int 0, .int 0, .ref (262), .int 0, .int 0, .int 0, .int 0, .long 0, .int 0, .int 0, .ref (263), .ref (264), .ref (265), .ref (266), .ref (267), .ref (268), .ref (269), .ref (270), .ref (271), .ref (272), .null, .null, .null, .null, .null, .null, .null, .null, .int 0, .null, .null, .null, .null, .null, .null, .null, .null, .null, .null, .null, .null, .int 0, .null, .null, .null, .null, .null, .null, .null, .null, .null, .null, .null, .null, .null, .int 0, .null, .null, .null, .null, .int 0, .int 0, .null, .null, .null, .null, .null, .null, .int 0, .long 0]) (Nat.le_of_ble_eq_true rfl) rfl]
  refine MC.aload_n (i := 0) rfl rfl d_M_init_93 rfl ?_
  refine MC.bipush bp_20 d_M_init_94 rfl ?_
  refine MC.newarr (nn' := 274) (ck' := 12) (sk' := 1176) (N := 20) (t := 20) (ty := .int) rfl al_273 (by decide) (fun _ => rfl) (fun _ _ => rfl) ww_243 n32_20.1 n32_20.2 (Nat.le_of_ble_eq_true rfl) (fun k _ => by rw [mc_own_new (by omega), mc_v_int (al_273).1 (by decide)]; rfl) (fun _ => rfl) (by decide) (by decide) rfl rfl rfl d_M_init_96 rfl ?_
  refine MC.putF (k := 20) (v := .ref (273)) tg_261 (by omega) lays_9 toks_9 fq_9_20 fo_9_20 (fun _ => by rw [nt_9_20]; exact ⟨rfl, rfl⟩) ww_1378 d_M_init_98 rfl ?_
  rw [mc_own_set (fs' := [.int 0, .int 0, .ref (262), .int 0, .int 0, .int 0, .int 0, .long 0, .int 0, .int 0, .ref (263), .ref (264), .ref (265), .ref (266), .ref (267), .ref (268), .ref (269), .ref (270), .ref (271), .ref (272), .ref (273), .null, .null, .null, .null, .null, .null, .null, .int 0, .null, .null, .null, .null, .null, .null, .null, .null, .null, .null, .null, .null, .int 0, .null, .null, .null, .null, .null, .null, .null, .null, .null, .null, .null, .null, .null, .int 0, .null, .null, .null, .null, .int 0, .int 0, .null, .null, .null, .null, .null, .null, .int 0, .long 0]) (Nat.le_of_ble_eq_true rfl) rfl]
  refine MC.aload_n (i := 0) rfl rfl d_M_init_101 rfl ?_
  refine MC.bipush bp_20 d_M_init_102 rfl ?_
  refine MC.newarr (nn' := 275) (ck' := 13) (sk' := 1196) (N := 20) (t := 20) (ty := .int) rfl al_274 (by decide) (fun _ => rfl) (fun _ _ => rfl) ww_243 n32_20.1 n32_20.2 (Nat.le_of_ble_eq_true rfl) (fun k _ => by rw [mc_own_new (by omega), mc_v_int (al_274).1 (by decide)]; rfl) (fun _ => rfl) (by decide) (by decide) rfl rfl rfl d_M_init_104 rfl ?_
  refine MC.putF (k := 21) (v := .ref (274)) tg_261 (by omega) lays_9 toks_9 fq_9_21 fo_9_21 (fun _ => by rw [nt_9_21]; exact ⟨rfl, rfl⟩) ww_1379 d_M_init_106 rfl ?_
  rw [mc_own_set (fs' := [.int 0, .int 0, .ref (262), .int 0, .int 0, .int 0, .int 0, .long 0, .int 0, .int 0, .ref (263), .ref (264), .ref (265), .ref (266), .ref (267), .ref (268), .ref (269), .ref (270), .ref (271), .ref (272), .ref (273), .ref (274), .null, .null, .null, .null, .null, .null, .int 0, .null, .null, .null, .null, .null, .null, .null, .null, .null, .null, .null, .null, .int 0, .null, .null, .null, .null, .null, .null, .null, .null, .null, .null, .null, .null, .null, .int 0, .null, .null, .null, .null, .int 0, .int 0, .null, .null, .null, .null, .null, .null, .int 0, .long 0]) (Nat.le_of_ble_eq_true rfl) rfl]
  refine MC.aload_n (i := 0) rfl rfl d_M_init_109 rfl ?_
  refine MC.bipush bp_60 d_M_init_110 rfl ?_
  refine MC.newarr (nn' := 276) (ck' := 14) (sk' := 1256) (N := 60) (t := 20) (ty := .int) rfl al_275 (by decide) (fun _ => rfl) (fun _ _ => rfl) ww_243 n32_60.1 n32_60.2 (Nat.le_of_ble_eq_true rfl) (fun k _ => by rw [mc_own_new (by omega), mc_v_int (al_275).1 (by decide)]; rfl) (fun _ => rfl) (by decide) (by decide) rfl rfl rfl d_M_init_112 rfl ?_
  refine MC.putF (k := 22) (v := .ref (275)) tg_261 (by omega) lays_9 toks_9 fq_9_22 fo_9_22 (fun _ => by rw [nt_9_22]; exact ⟨rfl, rfl⟩) ww_1380 d_M_init_114 rfl ?_
  rw [mc_own_set (fs' := [.int 0, .int 0, .ref (262), .int 0, .int 0, .int 0, .int 0, .long 0, .int 0, .int 0, .ref (263), .ref (264), .ref (265), .ref (266), .ref (267), .ref (268), .ref (269), .ref (270), .ref (271), .ref (272), .ref (273), .ref (274), .ref (275), .null, .null, .null, .null, .null, .int 0, .null, .null, .null, .null, .null, .null, .null, .null, .null, .null, .null, .null, .int 0, .null, .null, .null, .null, .null, .null, .null, .null, .null, .null, .null, .null, .null, .int 0, .null, .null, .null, .null, .int 0, .int 0, .null, .null, .null, .null, .null, .null, .int 0, .long 0]) (Nat.le_of_ble_eq_true rfl) rfl]
  refine MC.aload_n (i := 0) rfl rfl d_M_init_117 rfl ?_
  refine MC.bipush bp_60 d_M_init_118 rfl ?_
  refine MC.newarr (nn' := 277) (ck' := 15) (sk' := 1316) (N := 60) (t := 20) (ty := .int) rfl al_276 (by decide) (fun _ => rfl) (fun _ _ => rfl) ww_243 n32_60.1 n32_60.2 (Nat.le_of_ble_eq_true rfl) (fun k _ => by rw [mc_own_new (by omega), mc_v_int (al_276).1 (by decide)]; rfl) (fun _ => rfl) (by decide) (by decide) rfl rfl rfl d_M_init_120 rfl ?_
  refine MC.putF (k := 23) (v := .ref (276)) tg_261 (by omega) lays_9 toks_9 fq_9_23 fo_9_23 (fun _ => by rw [nt_9_23]; exact ⟨rfl, rfl⟩) ww_1381 d_M_init_122 rfl ?_
  rw [mc_own_set (fs' := [.int 0, .int 0, .ref (262), .int 0, .int 0, .int 0, .int 0, .long 0, .int 0, .int 0, .ref (263), .ref (264), .ref (265), .ref (266), .ref (267), .ref (268), .ref (269), .ref (270), .ref (271), .ref (272), .ref (273), .ref (274), .ref (275), .ref (276), .null, .null, .null, .null, .int 0, .null, .null, .null, .null, .null, .null, .null, .null, .null, .null, .null, .null, .int 0, .null, .null, .null, .null, .null, .null, .null, .null, .null, .null, .null, .null, .null, .int 0, .null, .null, .null, .null, .int 0, .int 0, .null, .null, .null, .null, .null, .null, .int 0, .long 0]) (Nat.le_of_ble_eq_true rfl) rfl]
  refine MC.aload_n (i := 0) rfl rfl d_M_init_125 rfl ?_
  refine MC.bipush bp_60 d_M_init_126 rfl ?_
  refine MC.newarr (nn' := 278) (ck' := 16) (sk' := 1376) (N := 60) (t := 20) (ty := .int) rfl al_277 (by decide) (fun _ => rfl) (fun _ _ => rfl) ww_243 n32_60.1 n32_60.2 (Nat.le_of_ble_eq_true rfl) (fun k _ => by rw [mc_own_new (by omega), mc_v_int (al_277).1 (by decide)]; rfl) (fun _ => rfl) (by decide) (by decide) rfl rfl rfl d_M_init_128 rfl ?_
  refine MC.putF (k := 24) (v := .ref (277)) tg_261 (by omega) lays_9 toks_9 fq_9_24 fo_9_24 (fun _ => by rw [nt_9_24]; exact ⟨rfl, rfl⟩) ww_1382 d_M_init_130 rfl ?_
  rw [mc_own_set (fs' := [.int 0, .int 0, .ref (262), .int 0, .int 0, .int 0, .int 0, .long 0, .int 0, .int 0, .ref (263), .ref (264), .ref (265), .ref (266), .ref (267), .ref (268), .ref (269), .ref (270), .ref (271), .ref (272), .ref (273), .ref (274), .ref (275), .ref (276), .ref (277), .null, .null, .null, .int 0, .null, .null, .null, .null, .null, .null, .null, .null, .null, .null, .null, .null, .int 0, .null, .null, .null, .null, .null, .null, .null, .null, .null, .null, .null, .null, .null, .int 0, .null, .null, .null, .null, .int 0, .int 0, .null, .null, .null, .null, .null, .null, .int 0, .long 0]) (Nat.le_of_ble_eq_true rfl) rfl]
  refine MC.aload_n (i := 0) rfl rfl d_M_init_133 rfl ?_
  refine MC.iconst ic_2 d_M_init_134 rfl ?_
  refine MC.newarr (nn' := 279) (ck' := 17) (sk' := 1378) (N := 2) (t := 20) (ty := .int) rfl al_278 (by decide) (fun _ => rfl) (fun _ _ => rfl) ww_243 n32_2.1 n32_2.2 (Nat.le_of_ble_eq_true rfl) (fun k _ => by rw [mc_own_new (by omega), mc_v_int (al_278).1 (by decide)]; rfl) (fun _ => rfl) (by decide) (by decide) rfl rfl rfl d_M_init_135 rfl ?_
  refine MC.putF (k := 25) (v := .ref (278)) tg_261 (by omega) lays_9 toks_9 fq_9_25 fo_9_25 (fun _ => by rw [nt_9_25]; exact ⟨rfl, rfl⟩) ww_1383 d_M_init_137 rfl ?_
  rw [mc_own_set (fs' := [.int 0, .int 0, .ref (262), .int 0, .int 0, .int 0, .int 0, .long 0, .int 0, .int 0, .ref (263), .ref (264), .ref (265), .ref (266), .ref (267), .ref (268), .ref (269), .ref (270), .ref (271), .ref (272), .ref (273), .ref (274), .ref (275), .ref (276), .ref (277), .ref (278), .null, .null, .int 0, .null, .null, .null, .null, .null, .null, .null, .null, .null, .null, .null, .null, .int 0, .null, .null, .null, .null, .null, .null, .null, .null, .null, .null, .null, .null, .null, .int 0, .null, .null, .null, .null, .int 0, .int 0, .null, .null, .null, .null, .null, .null, .int 0, .long 0]) (Nat.le_of_ble_eq_true rfl) rfl]
  refine MC.aload_n (i := 0) rfl rfl d_M_init_140 rfl ?_
  refine MC.iconst ic_2 d_M_init_141 rfl ?_
  refine MC.newarr (nn' := 280) (ck' := 18) (sk' := 1380) (N := 2) (t := 20) (ty := .int) rfl al_279 (by decide) (fun _ => rfl) (fun _ _ => rfl) ww_243 n32_2.1 n32_2.2 (Nat.le_of_ble_eq_true rfl) (fun k _ => by rw [mc_own_new (by omega), mc_v_int (al_279).1 (by decide)]; rfl) (fun _ => rfl) (by decide) (by decide) rfl rfl rfl d_M_init_142 rfl ?_
  refine MC.putF (k := 26) (v := .ref (279)) tg_261 (by omega) lays_9 toks_9 fq_9_26 fo_9_26 (fun _ => by rw [nt_9_26]; exact ⟨rfl, rfl⟩) ww_1384 d_M_init_144 rfl ?_
  rw [mc_own_set (fs' := [.int 0, .int 0, .ref (262), .int 0, .int 0, .int 0, .int 0, .long 0, .int 0, .int 0, .ref (263), .ref (264), .ref (265), .ref (266), .ref (267), .ref (268), .ref (269), .ref (270), .ref (271), .ref (272), .ref (273), .ref (274), .ref (275), .ref (276), .ref (277), .ref (278), .ref (279), .null, .int 0, .null, .null, .null, .null, .null, .null, .null, .null, .null, .null, .null, .null, .int 0, .null, .null, .null, .null, .null, .null, .null, .null, .null, .null, .null, .null, .null, .int 0, .null, .null, .null, .null, .int 0, .int 0, .null, .null, .null, .null, .null, .null, .int 0, .long 0]) (Nat.le_of_ble_eq_true rfl) rfl]
  refine MC.aload_n (i := 0) rfl rfl d_M_init_147 rfl ?_
  refine MC.sipush sp_2000 d_M_init_148 rfl ?_
  refine MC.newarr (nn' := 281) (ck' := 19) (sk' := 3380) (N := 2000) (t := 20) (ty := .int) rfl al_280 (by decide) (fun _ => rfl) (fun _ _ => rfl) ww_243 n32_2000.1 n32_2000.2 (Nat.le_of_ble_eq_true rfl) (fun k _ => by rw [mc_own_new (by omega), mc_v_int (al_280).1 (by decide)]; rfl) (fun _ => rfl) (by decide) (by decide) rfl rfl rfl d_M_init_151 rfl ?_
  refine MC.putF (k := 27) (v := .ref (280)) tg_261 (by omega) lays_9 toks_9 fq_9_27 fo_9_27 (fun _ => by rw [nt_9_27]; exact ⟨rfl, rfl⟩) ww_1385 d_M_init_153 rfl ?_
  rw [mc_own_set (fs' := [.int 0, .int 0, .ref (262), .int 0, .int 0, .int 0, .int 0, .long 0, .int 0, .int 0, .ref (263), .ref (264), .ref (265), .ref (266), .ref (267), .ref (268), .ref (269), .ref (270), .ref (271), .ref (272), .ref (273), .ref (274), .ref (275), .ref (276), .ref (277), .ref (278), .ref (279), .ref (280), .int 0, .null, .null, .null, .null, .null, .null, .null, .null, .null, .null, .null, .null, .int 0, .null, .null, .null, .null, .null, .null, .null, .null, .null, .null, .null, .null, .null, .int 0, .null, .null, .null, .null, .int 0, .int 0, .null, .null, .null, .null, .null, .null, .int 0, .long 0]) (Nat.le_of_ble_eq_true rfl) rfl]
  refine MC.aload_n (i := 0) rfl rfl d_M_init_156 rfl ?_
  refine MC.bipush bp_7 d_M_init_157 rfl ?_
  refine MC.newarr (nn' := 282) (ck' := 20) (sk' := 3387) (N := 7) (t := 20) (ty := .int) rfl al_281 (by decide) (fun _ => rfl) (fun _ _ => rfl) ww_243 n32_7.1 n32_7.2 (Nat.le_of_ble_eq_true rfl) (fun k _ => by rw [mc_own_new (by omega), mc_v_int (al_281).1 (by decide)]; rfl) (fun _ => rfl) (by decide) (by decide) rfl rfl rfl d_M_init_159 rfl ?_
  refine MC.putF (k := 29) (v := .ref (281)) tg_261 (by omega) lays_9 toks_9 fq_9_29 fo_9_29 (fun _ => by rw [nt_9_29]; exact ⟨rfl, rfl⟩) ww_1387 d_M_init_161 rfl ?_
  rw [mc_own_set (fs' := [.int 0, .int 0, .ref (262), .int 0, .int 0, .int 0, .int 0, .long 0, .int 0, .int 0, .ref (263), .ref (264), .ref (265), .ref (266), .ref (267), .ref (268), .ref (269), .ref (270), .ref (271), .ref (272), .ref (273), .ref (274), .ref (275), .ref (276), .ref (277), .ref (278), .ref (279), .ref (280), .int 0, .ref (281), .null, .null, .null, .null, .null, .null, .null, .null, .null, .null, .null, .int 0, .null, .null, .null, .null, .null, .null, .null, .null, .null, .null, .null, .null, .null, .int 0, .null, .null, .null, .null, .int 0, .int 0, .null, .null, .null, .null, .null, .null, .int 0, .long 0]) (Nat.le_of_ble_eq_true rfl) rfl]
  refine MC.aload_n (i := 0) rfl rfl d_M_init_164 rfl ?_
  refine MC.bipush bp_7 d_M_init_165 rfl ?_
  refine MC.newarr (nn' := 283) (ck' := 21) (sk' := 3394) (N := 7) (t := 23) (ty := .boolean) rfl al_282 (by decide) (fun _ => rfl) (fun _ _ => rfl) ww_1569 n32_7.1 n32_7.2 (Nat.le_of_ble_eq_true rfl) (fun k _ => by rw [mc_own_new (by omega), mc_v_int (al_282).1 (by decide)]; rfl) (fun _ => rfl) (by decide) (by decide) rfl rfl rfl d_M_init_167 rfl ?_
  refine MC.putF (k := 30) (v := .ref (282)) tg_261 (by omega) lays_9 toks_9 fq_9_30 fo_9_30 (fun _ => by rw [nt_9_30]; exact ⟨rfl, rfl⟩) ww_1388 d_M_init_169 rfl ?_
  rw [mc_own_set (fs' := [.int 0, .int 0, .ref (262), .int 0, .int 0, .int 0, .int 0, .long 0, .int 0, .int 0, .ref (263), .ref (264), .ref (265), .ref (266), .ref (267), .ref (268), .ref (269), .ref (270), .ref (271), .ref (272), .ref (273), .ref (274), .ref (275), .ref (276), .ref (277), .ref (278), .ref (279), .ref (280), .int 0, .ref (281), .ref (282), .null, .null, .null, .null, .null, .null, .null, .null, .null, .null, .int 0, .null, .null, .null, .null, .null, .null, .null, .null, .null, .null, .null, .null, .null, .int 0, .null, .null, .null, .null, .int 0, .int 0, .null, .null, .null, .null, .null, .null, .int 0, .long 0]) (Nat.le_of_ble_eq_true rfl) rfl]
  refine MC.aload_n (i := 0) rfl rfl d_M_init_172 rfl ?_
  refine MC.bipush bp_7 d_M_init_173 rfl ?_
  refine MC.newarr (nn' := 284) (ck' := 22) (sk' := 3401) (N := 7) (t := 20) (ty := .int) rfl al_283 (by decide) (fun _ => rfl) (fun _ _ => rfl) ww_243 n32_7.1 n32_7.2 (Nat.le_of_ble_eq_true rfl) (fun k _ => by rw [mc_own_new (by omega), mc_v_int (al_283).1 (by decide)]; rfl) (fun _ => rfl) (by decide) (by decide) rfl rfl rfl d_M_init_175 rfl ?_
  refine MC.putF (k := 31) (v := .ref (283)) tg_261 (by omega) lays_9 toks_9 fq_9_31 fo_9_31 (fun _ => by rw [nt_9_31]; exact ⟨rfl, rfl⟩) ww_1389 d_M_init_177 rfl ?_
  rw [mc_own_set (fs' := [.int 0, .int 0, .ref (262), .int 0, .int 0, .int 0, .int 0, .long 0, .int 0, .int 0, .ref (263), .ref (264), .ref (265), .ref (266), .ref (267), .ref (268), .ref (269), .ref (270), .ref (271), .ref (272), .ref (273), .ref (274), .ref (275), .ref (276), .ref (277), .ref (278), .ref (279), .ref (280), .int 0, .ref (281), .ref (282), .ref (283), .null, .null, .null, .null, .null, .null, .null, .null, .null, .int 0, .null, .null, .null, .null, .null, .null, .null, .null, .null, .null, .null, .null, .null, .int 0, .null, .null, .null, .null, .int 0, .int 0, .null, .null, .null, .null, .null, .null, .int 0, .long 0]) (Nat.le_of_ble_eq_true rfl) rfl]
  refine MC.aload_n (i := 0) rfl rfl d_M_init_180 rfl ?_
  refine MC.bipush bp_7 d_M_init_181 rfl ?_
  refine MC.newarr (nn' := 285) (ck' := 23) (sk' := 3408) (N := 7) (t := 20) (ty := .int) rfl al_284 (by decide) (fun _ => rfl) (fun _ _ => rfl) ww_243 n32_7.1 n32_7.2 (Nat.le_of_ble_eq_true rfl) (fun k _ => by rw [mc_own_new (by omega), mc_v_int (al_284).1 (by decide)]; rfl) (fun _ => rfl) (by decide) (by decide) rfl rfl rfl d_M_init_183 rfl ?_
  refine MC.putF (k := 32) (v := .ref (284)) tg_261 (by omega) lays_9 toks_9 fq_9_32 fo_9_32 (fun _ => by rw [nt_9_32]; exact ⟨rfl, rfl⟩) ww_1390 d_M_init_185 rfl ?_
  rw [mc_own_set (fs' := [.int 0, .int 0, .ref (262), .int 0, .int 0, .int 0, .int 0, .long 0, .int 0, .int 0, .ref (263), .ref (264), .ref (265), .ref (266), .ref (267), .ref (268), .ref (269), .ref (270), .ref (271), .ref (272), .ref (273), .ref (274), .ref (275), .ref (276), .ref (277), .ref (278), .ref (279), .ref (280), .int 0, .ref (281), .ref (282), .ref (283), .ref (284), .null, .null, .null, .null, .null, .null, .null, .null, .int 0, .null, .null, .null, .null, .null, .null, .null, .null, .null, .null, .null, .null, .null, .int 0, .null, .null, .null, .null, .int 0, .int 0, .null, .null, .null, .null, .null, .null, .int 0, .long 0]) (Nat.le_of_ble_eq_true rfl) rfl]
  refine MC.aload_n (i := 0) rfl rfl d_M_init_188 rfl ?_
  refine MC.bipush bp_7 d_M_init_189 rfl ?_
  refine MC.newarr (nn' := 286) (ck' := 24) (sk' := 3415) (N := 7) (t := 20) (ty := .int) rfl al_285 (by decide) (fun _ => rfl) (fun _ _ => rfl) ww_243 n32_7.1 n32_7.2 (Nat.le_of_ble_eq_true rfl) (fun k _ => by rw [mc_own_new (by omega), mc_v_int (al_285).1 (by decide)]; rfl) (fun _ => rfl) (by decide) (by decide) rfl rfl rfl d_M_init_191 rfl ?_
  refine MC.putF (k := 33) (v := .ref (285)) tg_261 (by omega) lays_9 toks_9 fq_9_33 fo_9_33 (fun _ => by rw [nt_9_33]; exact ⟨rfl, rfl⟩) ww_1391 d_M_init_193 rfl ?_
  rw [mc_own_set (fs' := [.int 0, .int 0, .ref (262), .int 0, .int 0, .int 0, .int 0, .long 0, .int 0, .int 0, .ref (263), .ref (264), .ref (265), .ref (266), .ref (267), .ref (268), .ref (269), .ref (270), .ref (271), .ref (272), .ref (273), .ref (274), .ref (275), .ref (276), .ref (277), .ref (278), .ref (279), .ref (280), .int 0, .ref (281), .ref (282), .ref (283), .ref (284), .ref (285), .null, .null, .null, .null, .null, .null, .null, .int 0, .null, .null, .null, .null, .null, .null, .null, .null, .null, .null, .null, .null, .null, .int 0, .null, .null, .null, .null, .int 0, .int 0, .null, .null, .null, .null, .null, .null, .int 0, .long 0]) (Nat.le_of_ble_eq_true rfl) rfl]
  refine MC.aload_n (i := 0) rfl rfl d_M_init_196 rfl ?_
  refine MC.bipush bp_7 d_M_init_197 rfl ?_
  refine MC.newarr (nn' := 287) (ck' := 25) (sk' := 3422) (N := 7) (t := 20) (ty := .int) rfl al_286 (by decide) (fun _ => rfl) (fun _ _ => rfl) ww_243 n32_7.1 n32_7.2 (Nat.le_of_ble_eq_true rfl) (fun k _ => by rw [mc_own_new (by omega), mc_v_int (al_286).1 (by decide)]; rfl) (fun _ => rfl) (by decide) (by decide) rfl rfl rfl d_M_init_199 rfl ?_
  refine MC.putF (k := 34) (v := .ref (286)) tg_261 (by omega) lays_9 toks_9 fq_9_34 fo_9_34 (fun _ => by rw [nt_9_34]; exact ⟨rfl, rfl⟩) ww_1392 d_M_init_201 rfl ?_
  rw [mc_own_set (fs' := [.int 0, .int 0, .ref (262), .int 0, .int 0, .int 0, .int 0, .long 0, .int 0, .int 0, .ref (263), .ref (264), .ref (265), .ref (266), .ref (267), .ref (268), .ref (269), .ref (270), .ref (271), .ref (272), .ref (273), .ref (274), .ref (275), .ref (276), .ref (277), .ref (278), .ref (279), .ref (280), .int 0, .ref (281), .ref (282), .ref (283), .ref (284), .ref (285), .ref (286), .null, .null, .null, .null, .null, .null, .int 0, .null, .null, .null, .null, .null, .null, .null, .null, .null, .null, .null, .null, .null, .int 0, .null, .null, .null, .null, .int 0, .int 0, .null, .null, .null, .null, .null, .null, .int 0, .long 0]) (Nat.le_of_ble_eq_true rfl) rfl]
  refine MC.aload_n (i := 0) rfl rfl d_M_init_204 rfl ?_
  refine MC.bipush bp_7 d_M_init_205 rfl ?_
  refine MC.newarr (nn' := 288) (ck' := 26) (sk' := 3429) (N := 7) (t := 20) (ty := .int) rfl al_287 (by decide) (fun _ => rfl) (fun _ _ => rfl) ww_243 n32_7.1 n32_7.2 (Nat.le_of_ble_eq_true rfl) (fun k _ => by rw [mc_own_new (by omega), mc_v_int (al_287).1 (by decide)]; rfl) (fun _ => rfl) (by decide) (by decide) rfl rfl rfl d_M_init_207 rfl ?_
  refine MC.putF (k := 35) (v := .ref (287)) tg_261 (by omega) lays_9 toks_9 fq_9_35 fo_9_35 (fun _ => by rw [nt_9_35]; exact ⟨rfl, rfl⟩) ww_1393 d_M_init_209 rfl ?_
  rw [mc_own_set (fs' := [.int 0, .int 0, .ref (262), .int 0, .int 0, .int 0, .int 0, .long 0, .int 0, .int 0, .ref (263), .ref (264), .ref (265), .ref (266), .ref (267), .ref (268), .ref (269), .ref (270), .ref (271), .ref (272), .ref (273), .ref (274), .ref (275), .ref (276), .ref (277), .ref (278), .ref (279), .ref (280), .int 0, .ref (281), .ref (282), .ref (283), .ref (284), .ref (285), .ref (286), .ref (287), .null, .null, .null, .null, .null, .int 0, .null, .null, .null, .null, .null, .null, .null, .null, .null, .null, .null, .null, .null, .int 0, .null, .null, .null, .null, .int 0, .int 0, .null, .null, .null, .null, .null, .null, .int 0, .long 0]) (Nat.le_of_ble_eq_true rfl) rfl]
  refine MC.aload_n (i := 0) rfl rfl d_M_init_212 rfl ?_
  refine MC.bipush bp_7 d_M_init_213 rfl ?_
  refine MC.newarr (nn' := 289) (ck' := 27) (sk' := 3436) (N := 7) (t := 20) (ty := .int) rfl al_288 (by decide) (fun _ => rfl) (fun _ _ => rfl) ww_243 n32_7.1 n32_7.2 (Nat.le_of_ble_eq_true rfl) (fun k _ => by rw [mc_own_new (by omega), mc_v_int (al_288).1 (by decide)]; rfl) (fun _ => rfl) (by decide) (by decide) rfl rfl rfl d_M_init_215 rfl ?_
  refine MC.putF (k := 36) (v := .ref (288)) tg_261 (by omega) lays_9 toks_9 fq_9_36 fo_9_36 (fun _ => by rw [nt_9_36]; exact ⟨rfl, rfl⟩) ww_1394 d_M_init_217 rfl ?_
  rw [mc_own_set (fs' := [.int 0, .int 0, .ref (262), .int 0, .int 0, .int 0, .int 0, .long 0, .int 0, .int 0, .ref (263), .ref (264), .ref (265), .ref (266), .ref (267), .ref (268), .ref (269), .ref (270), .ref (271), .ref (272), .ref (273), .ref (274), .ref (275), .ref (276), .ref (277), .ref (278), .ref (279), .ref (280), .int 0, .ref (281), .ref (282), .ref (283), .ref (284), .ref (285), .ref (286), .ref (287), .ref (288), .null, .null, .null, .null, .int 0, .null, .null, .null, .null, .null, .null, .null, .null, .null, .null, .null, .null, .null, .int 0, .null, .null, .null, .null, .int 0, .int 0, .null, .null, .null, .null, .null, .null, .int 0, .long 0]) (Nat.le_of_ble_eq_true rfl) rfl]
  refine MC.aload_n (i := 0) rfl rfl d_M_init_220 rfl ?_
  refine MC.bipush bp_7 d_M_init_221 rfl ?_
  refine MC.newarr (nn' := 290) (ck' := 28) (sk' := 3443) (N := 7) (t := 20) (ty := .int) rfl al_289 (by decide) (fun _ => rfl) (fun _ _ => rfl) ww_243 n32_7.1 n32_7.2 (Nat.le_of_ble_eq_true rfl) (fun k _ => by rw [mc_own_new (by omega), mc_v_int (al_289).1 (by decide)]; rfl) (fun _ => rfl) (by decide) (by decide) rfl rfl rfl d_M_init_223 rfl ?_
  refine MC.putF (k := 37) (v := .ref (289)) tg_261 (by omega) lays_9 toks_9 fq_9_37 fo_9_37 (fun _ => by rw [nt_9_37]; exact ⟨rfl, rfl⟩) ww_1395 d_M_init_225 rfl ?_
  rw [mc_own_set (fs' := [.int 0, .int 0, .ref (262), .int 0, .int 0, .int 0, .int 0, .long 0, .int 0, .int 0, .ref (263), .ref (264), .ref (265), .ref (266), .ref (267), .ref (268), .ref (269), .ref (270), .ref (271), .ref (272), .ref (273), .ref (274), .ref (275), .ref (276), .ref (277), .ref (278), .ref (279), .ref (280), .int 0, .ref (281), .ref (282), .ref (283), .ref (284), .ref (285), .ref (286), .ref (287), .ref (288), .ref (289), .null, .null, .null, .int 0, .null, .null, .null, .null, .null, .null, .null, .null, .null, .null, .null, .null, .null, .int 0, .null, .null, .null, .null, .int 0, .int 0, .null, .null, .null, .null, .null, .null, .int 0, .long 0]) (Nat.le_of_ble_eq_true rfl) rfl]
  refine MC.aload_n (i := 0) rfl rfl d_M_init_228 rfl ?_
  refine MC.bipush bp_7 d_M_init_229 rfl ?_
  refine MC.newarr (nn' := 291) (ck' := 29) (sk' := 3450) (N := 7) (t := 20) (ty := .int) rfl al_290 (by decide) (fun _ => rfl) (fun _ _ => rfl) ww_243 n32_7.1 n32_7.2 (Nat.le_of_ble_eq_true rfl) (fun k _ => by rw [mc_own_new (by omega), mc_v_int (al_290).1 (by decide)]; rfl) (fun _ => rfl) (by decide) (by decide) rfl rfl rfl d_M_init_231 rfl ?_
  refine MC.putF (k := 38) (v := .ref (290)) tg_261 (by omega) lays_9 toks_9 fq_9_38 fo_9_38 (fun _ => by rw [nt_9_38]; exact ⟨rfl, rfl⟩) ww_1396 d_M_init_233 rfl ?_
  rw [mc_own_set (fs' := [.int 0, .int 0, .ref (262), .int 0, .int 0, .int 0, .int 0, .long 0, .int 0, .int 0, .ref (263), .ref (264), .ref (265), .ref (266), .ref (267), .ref (268), .ref (269), .ref (270), .ref (271), .ref (272), .ref (273), .ref (274), .ref (275), .ref (276), .ref (277), .ref (278), .ref (279), .ref (280), .int 0, .ref (281), .ref (282), .ref (283), .ref (284), .ref (285), .ref (286), .ref (287), .ref (288), .ref (289), .ref (290), .null, .null, .int 0, .null, .null, .null, .null, .null, .null, .null, .null, .null, .null, .null, .null, .null, .int 0, .null, .null, .null, .null, .int 0, .int 0, .null, .null, .null, .null, .null, .null, .int 0, .long 0]) (Nat.le_of_ble_eq_true rfl) rfl]
  refine MC.aload_n (i := 0) rfl rfl d_M_init_236 rfl ?_
  refine MC.bipush bp_7 d_M_init_237 rfl ?_
  refine MC.newarr (nn' := 292) (ck' := 30) (sk' := 3457) (N := 7) (t := 20) (ty := .int) rfl al_291 (by decide) (fun _ => rfl) (fun _ _ => rfl) ww_243 n32_7.1 n32_7.2 (Nat.le_of_ble_eq_true rfl) (fun k _ => by rw [mc_own_new (by omega), mc_v_int (al_291).1 (by decide)]; rfl) (fun _ => rfl) (by decide) (by decide) rfl rfl rfl d_M_init_239 rfl ?_
  refine MC.putF (k := 39) (v := .ref (291)) tg_261 (by omega) lays_9 toks_9 fq_9_39 fo_9_39 (fun _ => by rw [nt_9_39]; exact ⟨rfl, rfl⟩) ww_1397 d_M_init_241 rfl ?_
  rw [mc_own_set (fs' := [.int 0, .int 0, .ref (262), .int 0, .int 0, .int 0, .int 0, .long 0, .int 0, .int 0, .ref (263), .ref (264), .ref (265), .ref (266), .ref (267), .ref (268), .ref (269), .ref (270), .ref (271), .ref (272), .ref (273), .ref (274), .ref (275), .ref (276), .ref (277), .ref (278), .ref (279), .ref (280), .int 0, .ref (281), .ref (282), .ref (283), .ref (284), .ref (285), .ref (286), .ref (287), .ref (288), .ref (289), .ref (290), .ref (291), .null, .int 0, .null, .null, .null, .null, .null, .null, .null, .null, .null, .null, .null, .null, .null, .int 0, .null, .null, .null, .null, .int 0, .int 0, .null, .null, .null, .null, .null, .null, .int 0, .long 0]) (Nat.le_of_ble_eq_true rfl) rfl]
  refine MC.aload_n (i := 0) rfl rfl d_M_init_244 rfl ?_
  refine MC.bipush bp_20 d_M_init_245 rfl ?_
  refine MC.newarr (nn' := 293) (ck' := 31) (sk' := 3477) (N := 20) (t := 20) (ty := .int) rfl al_292 (by decide) (fun _ => rfl) (fun _ _ => rfl) ww_243 n32_20.1 n32_20.2 (Nat.le_of_ble_eq_true rfl) (fun k _ => by rw [mc_own_new (by omega), mc_v_int (al_292).1 (by decide)]; rfl) (fun _ => rfl) (by decide) (by decide) rfl rfl rfl d_M_init_247 rfl ?_
  refine MC.putF (k := 40) (v := .ref (292)) tg_261 (by omega) lays_9 toks_9 fq_9_40 fo_9_40 (fun _ => by rw [nt_9_40]; exact ⟨rfl, rfl⟩) ww_1398 d_M_init_249 rfl ?_
  rw [mc_own_set (fs' := [.int 0, .int 0, .ref (262), .int 0, .int 0, .int 0, .int 0, .long 0, .int 0, .int 0, .ref (263), .ref (264), .ref (265), .ref (266), .ref (267), .ref (268), .ref (269), .ref (270), .ref (271), .ref (272), .ref (273), .ref (274), .ref (275), .ref (276), .ref (277), .ref (278), .ref (279), .ref (280), .int 0, .ref (281), .ref (282), .ref (283), .ref (284), .ref (285), .ref (286), .ref (287), .ref (288), .ref (289), .ref (290), .ref (291), .ref (292), .int 0, .null, .null, .null, .null, .null, .null, .null, .null, .null, .null, .null, .null, .null, .int 0, .null, .null, .null, .null, .int 0, .int 0, .null, .null, .null, .null, .null, .null, .int 0, .long 0]) (Nat.le_of_ble_eq_true rfl) rfl]
  refine MC.aload_n (i := 0) rfl rfl d_M_init_252 rfl ?_
  refine MC.bipush bp_6 d_M_init_253 rfl ?_
  refine MC.newarr (nn' := 294) (ck' := 32) (sk' := 3483) (N := 6) (t := 20) (ty := .int) rfl al_293 (by decide) (fun _ => rfl) (fun _ _ => rfl) ww_243 n32_6.1 n32_6.2 (Nat.le_of_ble_eq_true rfl) (fun k _ => by rw [mc_own_new (by omega), mc_v_int (al_293).1 (by decide)]; rfl) (fun _ => rfl) (by decide) (by decide) rfl rfl rfl d_M_init_255 rfl ?_
  refine MC.putF (k := 42) (v := .ref (293)) tg_261 (by omega) lays_9 toks_9 fq_9_42 fo_9_42 (fun _ => by rw [nt_9_42]; exact ⟨rfl, rfl⟩) ww_1400 d_M_init_257 rfl ?_
  rw [mc_own_set (fs' := [.int 0, .int 0, .ref (262), .int 0, .int 0, .int 0, .int 0, .long 0, .int 0, .int 0, .ref (263), .ref (264), .ref (265), .ref (266), .ref (267), .ref (268), .ref (269), .ref (270), .ref (271), .ref (272), .ref (273), .ref (274), .ref (275), .ref (276), .ref (277), .ref (278), .ref (279), .ref (280), .int 0, .ref (281), .ref (282), .ref (283), .ref (284), .ref (285), .ref (286), .ref (287), .ref (288), .ref (289), .ref (290), .ref (291), .ref (292), .int 0, .ref (293), .null, .null, .null, .null, .null, .null, .null, .null, .null, .null, .null, .null, .int 0, .null, .null, .null, .null, .int 0, .int 0, .null, .null, .null, .null, .null, .null, .int 0, .long 0]) (Nat.le_of_ble_eq_true rfl) rfl]
  refine MC.aload_n (i := 0) rfl rfl d_M_init_260 rfl ?_
  refine MC.sipush sp_180 d_M_init_261 rfl ?_
  refine MC.newarr (nn' := 295) (ck' := 33) (sk' := 3663) (N := 180) (t := 20) (ty := .int) rfl al_294 (by decide) (fun _ => rfl) (fun _ _ => rfl) ww_243 n32_180.1 n32_180.2 (Nat.le_of_ble_eq_true rfl) (fun k _ => by rw [mc_own_new (by omega), mc_v_int (al_294).1 (by decide)]; rfl) (fun _ => rfl) (by decide) (by decide) rfl rfl rfl d_M_init_264 rfl ?_
  refine MC.putF (k := 43) (v := .ref (294)) tg_261 (by omega) lays_9 toks_9 fq_9_43 fo_9_43 (fun _ => by rw [nt_9_43]; exact ⟨rfl, rfl⟩) ww_1401 d_M_init_266 rfl ?_
  rw [mc_own_set (fs' := [.int 0, .int 0, .ref (262), .int 0, .int 0, .int 0, .int 0, .long 0, .int 0, .int 0, .ref (263), .ref (264), .ref (265), .ref (266), .ref (267), .ref (268), .ref (269), .ref (270), .ref (271), .ref (272), .ref (273), .ref (274), .ref (275), .ref (276), .ref (277), .ref (278), .ref (279), .ref (280), .int 0, .ref (281), .ref (282), .ref (283), .ref (284), .ref (285), .ref (286), .ref (287), .ref (288), .ref (289), .ref (290), .ref (291), .ref (292), .int 0, .ref (293), .ref (294), .null, .null, .null, .null, .null, .null, .null, .null, .null, .null, .null, .int 0, .null, .null, .null, .null, .int 0, .int 0, .null, .null, .null, .null, .null, .null, .int 0, .long 0]) (Nat.le_of_ble_eq_true rfl) rfl]
  refine MC.aload_n (i := 0) rfl rfl d_M_init_269 rfl ?_
  refine MC.sipush sp_180 d_M_init_270 rfl ?_
  refine MC.newarr (nn' := 296) (ck' := 34) (sk' := 3843) (N := 180) (t := 20) (ty := .int) rfl al_295 (by decide) (fun _ => rfl) (fun _ _ => rfl) ww_243 n32_180.1 n32_180.2 (Nat.le_of_ble_eq_true rfl) (fun k _ => by rw [mc_own_new (by omega), mc_v_int (al_295).1 (by decide)]; rfl) (fun _ => rfl) (by decide) (by decide) rfl rfl rfl d_M_init_273 rfl ?_
  refine MC.putF (k := 44) (v := .ref (295)) tg_261 (by omega) lays_9 toks_9 fq_9_44 fo_9_44 (fun _ => by rw [nt_9_44]; exact ⟨rfl, rfl⟩) ww_1402 d_M_init_275 rfl ?_
  rw [mc_own_set (fs' := [.int 0, .int 0, .ref (262), .int 0, .int 0, .int 0, .int 0, .long 0, .int 0, .int 0, .ref (263), .ref (264), .ref (265), .ref (266), .ref (267), .ref (268), .ref (269), .ref (270), .ref (271), .ref (272), .ref (273), .ref (274), .ref (275), .ref (276), .ref (277), .ref (278), .ref (279), .ref (280), .int 0, .ref (281), .ref (282), .ref (283), .ref (284), .ref (285), .ref (286), .ref (287), .ref (288), .ref (289), .ref (290), .ref (291), .ref (292), .int 0, .ref (293), .ref (294), .ref (295), .null, .null, .null, .null, .null, .null, .null, .null, .null, .null, .int 0, .null, .null, .null, .null, .int 0, .int 0, .null, .null, .null, .null, .null, .null, .int 0, .long 0]) (Nat.le_of_ble_eq_true rfl) rfl]
  refine MC.aload_n (i := 0) rfl rfl d_M_init_278 rfl ?_
  refine MC.sipush sp_180 d_M_init_279 rfl ?_
  refine MC.newarr (nn' := 297) (ck' := 35) (sk' := 4023) (N := 180) (t := 20) (ty := .int) rfl al_296 (by decide) (fun _ => rfl) (fun _ _ => rfl) ww_243 n32_180.1 n32_180.2 (Nat.le_of_ble_eq_true rfl) (fun k _ => by rw [mc_own_new (by omega), mc_v_int (al_296).1 (by decide)]; rfl) (fun _ => rfl) (by decide) (by decide) rfl rfl rfl d_M_init_282 rfl ?_
  refine MC.putF (k := 45) (v := .ref (296)) tg_261 (by omega) lays_9 toks_9 fq_9_45 fo_9_45 (fun _ => by rw [nt_9_45]; exact ⟨rfl, rfl⟩) ww_1403 d_M_init_284 rfl ?_
  rw [mc_own_set (fs' := [.int 0, .int 0, .ref (262), .int 0, .int 0, .int 0, .int 0, .long 0, .int 0, .int 0, .ref (263), .ref (264), .ref (265), .ref (266), .ref (267), .ref (268), .ref (269), .ref (270), .ref (271), .ref (272), .ref (273), .ref (274), .ref (275), .ref (276), .ref (277), .ref (278), .ref (279), .ref (280), .int 0, .ref (281), .ref (282), .ref (283), .ref (284), .ref (285), .ref (286), .ref (287), .ref (288), .ref (289), .ref (290), .ref (291), .ref (292), .int 0, .ref (293), .ref (294), .ref (295), .ref (296), .null, .null, .null, .null, .null, .null, .null, .null, .null, .int 0, .null, .null, .null, .null, .int 0, .int 0, .null, .null, .null, .null, .null, .null, .int 0, .long 0]) (Nat.le_of_ble_eq_true rfl) rfl]
  refine MC.aload_n (i := 0) rfl rfl d_M_init_287 rfl ?_
  refine MC.sipush sp_180 d_M_init_288 rfl ?_
  refine MC.newarr (nn' := 298) (ck' := 36) (sk' := 4203) (N := 180) (t := 20) (ty := .int) rfl al_297 (by decide) (fun _ => rfl) (fun _ _ => rfl) ww_243 n32_180.1 n32_180.2 (Nat.le_of_ble_eq_true rfl) (fun k _ => by rw [mc_own_new (by omega), mc_v_int (al_297).1 (by decide)]; rfl) (fun _ => rfl) (by decide) (by decide) rfl rfl rfl d_M_init_291 rfl ?_
  refine MC.putF (k := 46) (v := .ref (297)) tg_261 (by omega) lays_9 toks_9 fq_9_46 fo_9_46 (fun _ => by rw [nt_9_46]; exact ⟨rfl, rfl⟩) ww_1404 d_M_init_293 rfl ?_
  rw [mc_own_set (fs' := [.int 0, .int 0, .ref (262), .int 0, .int 0, .int 0, .int 0, .long 0, .int 0, .int 0, .ref (263), .ref (264), .ref (265), .ref (266), .ref (267), .ref (268), .ref (269), .ref (270), .ref (271), .ref (272), .ref (273), .ref (274), .ref (275), .ref (276), .ref (277), .ref (278), .ref (279), .ref (280), .int 0, .ref (281), .ref (282), .ref (283), .ref (284), .ref (285), .ref (286), .ref (287), .ref (288), .ref (289), .ref (290), .ref (291), .ref (292), .int 0, .ref (293), .ref (294), .ref (295), .ref (296), .ref (297), .null, .null, .null, .null, .null, .null, .null, .null, .int 0, .null, .null, .null, .null, .int 0, .int 0, .null, .null, .null, .null, .null, .null, .int 0, .long 0]) (Nat.le_of_ble_eq_true rfl) rfl]
  refine MC.aload_n (i := 0) rfl rfl d_M_init_296 rfl ?_
  refine MC.iconst ic_5 d_M_init_297 rfl ?_
  refine MC.newarr (nn' := 299) (ck' := 37) (sk' := 4208) (N := 5) (t := 20) (ty := .int) rfl al_298 (by decide) (fun _ => rfl) (fun _ _ => rfl) ww_243 n32_5.1 n32_5.2 (Nat.le_of_ble_eq_true rfl) (fun k _ => by rw [mc_own_new (by omega), mc_v_int (al_298).1 (by decide)]; rfl) (fun _ => rfl) (by decide) (by decide) rfl rfl rfl d_M_init_298 rfl ?_
  refine MC.putF (k := 47) (v := .ref (298)) tg_261 (by omega) lays_9 toks_9 fq_9_47 fo_9_47 (fun _ => by rw [nt_9_47]; exact ⟨rfl, rfl⟩) ww_1405 d_M_init_300 rfl ?_
  rw [mc_own_set (fs' := [.int 0, .int 0, .ref (262), .int 0, .int 0, .int 0, .int 0, .long 0, .int 0, .int 0, .ref (263), .ref (264), .ref (265), .ref (266), .ref (267), .ref (268), .ref (269), .ref (270), .ref (271), .ref (272), .ref (273), .ref (274), .ref (275), .ref (276), .ref (277), .ref (278), .ref (279), .ref (280), .int 0, .ref (281), .ref (282), .ref (283), .ref (284), .ref (285), .ref (286), .ref (287), .ref (288), .ref (289), .ref (290), .ref (291), .ref (292), .int 0, .ref (293), .ref (294), .ref (295), .ref (296), .ref (297), .ref (298), .null, .null, .null, .null, .null, .null, .null, .int 0, .null, .null, .null, .null, .int 0, .int 0, .null, .null, .null, .null, .null, .null, .int 0, .long 0]) (Nat.le_of_ble_eq_true rfl) rfl]
  refine MC.aload_n (i := 0) rfl rfl d_M_init_303 rfl ?_
  refine MC.bipush bp_50 d_M_init_304 rfl ?_
  refine MC.newarr (nn' := 300) (ck' := 38) (sk' := 4258) (N := 50) (t := 20) (ty := .int) rfl al_299 (by decide) (fun _ => rfl) (fun _ _ => rfl) ww_243 n32_50.1 n32_50.2 (Nat.le_of_ble_eq_true rfl) (fun k _ => by rw [mc_own_new (by omega), mc_v_int (al_299).1 (by decide)]; rfl) (fun _ => rfl) (by decide) (by decide) rfl rfl rfl d_M_init_306 rfl ?_
  refine MC.putF (k := 48) (v := .ref (299)) tg_261 (by omega) lays_9 toks_9 fq_9_48 fo_9_48 (fun _ => by rw [nt_9_48]; exact ⟨rfl, rfl⟩) ww_1406 d_M_init_308 rfl ?_
  rw [mc_own_set (fs' := [.int 0, .int 0, .ref (262), .int 0, .int 0, .int 0, .int 0, .long 0, .int 0, .int 0, .ref (263), .ref (264), .ref (265), .ref (266), .ref (267), .ref (268), .ref (269), .ref (270), .ref (271), .ref (272), .ref (273), .ref (274), .ref (275), .ref (276), .ref (277), .ref (278), .ref (279), .ref (280), .int 0, .ref (281), .ref (282), .ref (283), .ref (284), .ref (285), .ref (286), .ref (287), .ref (288), .ref (289), .ref (290), .ref (291), .ref (292), .int 0, .ref (293), .ref (294), .ref (295), .ref (296), .ref (297), .ref (298), .ref (299), .null, .null, .null, .null, .null, .null, .int 0, .null, .null, .null, .null, .int 0, .int 0, .null, .null, .null, .null, .null, .null, .int 0, .long 0]) (Nat.le_of_ble_eq_true rfl) rfl]
  refine MC.aload_n (i := 0) rfl rfl d_M_init_311 rfl ?_
  refine MC.bipush bp_50 d_M_init_312 rfl ?_
  refine MC.newarr (nn' := 301) (ck' := 39) (sk' := 4308) (N := 50) (t := 23) (ty := .boolean) rfl al_300 (by decide) (fun _ => rfl) (fun _ _ => rfl) ww_1569 n32_50.1 n32_50.2 (Nat.le_of_ble_eq_true rfl) (fun k _ => by rw [mc_own_new (by omega), mc_v_int (al_300).1 (by decide)]; rfl) (fun _ => rfl) (by decide) (by decide) rfl rfl rfl d_M_init_314 rfl ?_
  refine MC.putF (k := 49) (v := .ref (300)) tg_261 (by omega) lays_9 toks_9 fq_9_49 fo_9_49 (fun _ => by rw [nt_9_49]; exact ⟨rfl, rfl⟩) ww_1407 d_M_init_316 rfl ?_
  rw [mc_own_set (fs' := [.int 0, .int 0, .ref (262), .int 0, .int 0, .int 0, .int 0, .long 0, .int 0, .int 0, .ref (263), .ref (264), .ref (265), .ref (266), .ref (267), .ref (268), .ref (269), .ref (270), .ref (271), .ref (272), .ref (273), .ref (274), .ref (275), .ref (276), .ref (277), .ref (278), .ref (279), .ref (280), .int 0, .ref (281), .ref (282), .ref (283), .ref (284), .ref (285), .ref (286), .ref (287), .ref (288), .ref (289), .ref (290), .ref (291), .ref (292), .int 0, .ref (293), .ref (294), .ref (295), .ref (296), .ref (297), .ref (298), .ref (299), .ref (300), .null, .null, .null, .null, .null, .int 0, .null, .null, .null, .null, .int 0, .int 0, .null, .null, .null, .null, .null, .null, .int 0, .long 0]) (Nat.le_of_ble_eq_true rfl) rfl]
  refine MC.aload_n (i := 0) rfl rfl d_M_init_319 rfl ?_
  refine MC.bipush bp_123 d_M_init_320 rfl ?_
  refine MC.newarr (nn' := 302) (ck' := 40) (sk' := 4431) (N := 123) (t := 20) (ty := .int) rfl al_301 (by decide) (fun _ => rfl) (fun _ _ => rfl) ww_243 n32_123.1 n32_123.2 (Nat.le_of_ble_eq_true rfl) (fun k _ => by rw [mc_own_new (by omega), mc_v_int (al_301).1 (by decide)]; rfl) (fun _ => rfl) (by decide) (by decide) rfl rfl rfl d_M_init_322 rfl ?_
  refine MC.putF (k := 50) (v := .ref (301)) tg_261 (by omega) lays_9 toks_9 fq_9_50 fo_9_50 (fun _ => by rw [nt_9_50]; exact ⟨rfl, rfl⟩) ww_1408 d_M_init_324 rfl ?_
  rw [mc_own_set (fs' := [.int 0, .int 0, .ref (262), .int 0, .int 0, .int 0, .int 0, .long 0, .int 0, .int 0, .ref (263), .ref (264), .ref (265), .ref (266), .ref (267), .ref (268), .ref (269), .ref (270), .ref (271), .ref (272), .ref (273), .ref (274), .ref (275), .ref (276), .ref (277), .ref (278), .ref (279), .ref (280), .int 0, .ref (281), .ref (282), .ref (283), .ref (284), .ref (285), .ref (286), .ref (287), .ref (288), .ref (289), .ref (290), .ref (291), .ref (292), .int 0, .ref (293), .ref (294), .ref (295), .ref (296), .ref (297), .ref (298), .ref (299), .ref (300), .ref (301), .null, .null, .null, .null, .int 0, .null, .null, .null, .null, .int 0, .int 0, .null, .null, .null, .null, .null, .null, .int 0, .long 0]) (Nat.le_of_ble_eq_true rfl) rfl]
  refine MC.aload_n (i := 0) rfl rfl d_M_init_327 rfl ?_
  refine MC.sipush sp_246 d_M_init_328 rfl ?_
  refine MC.newarr (nn' := 303) (ck' := 41) (sk' := 4677) (N := 246) (t := 20) (ty := .int) rfl al_302 (by decide) (fun _ => rfl) (fun _ _ => rfl) ww_243 n32_246.1 n32_246.2 (Nat.le_of_ble_eq_true rfl) (fun k _ => by rw [mc_own_new (by omega), mc_v_int (al_302).1 (by decide)]; rfl) (fun _ => rfl) (by decide) (by decide) rfl rfl rfl d_M_init_331 rfl ?_
  refine MC.putF (k := 51) (v := .ref (302)) tg_261 (by omega) lays_9 toks_9 fq_9_51 fo_9_51 (fun _ => by rw [nt_9_51]; exact ⟨rfl, rfl⟩) ww_1409 d_M_init_333 rfl ?_
  rw [mc_own_set (fs' := [.int 0, .int 0, .ref (262), .int 0, .int 0, .int 0, .int 0, .long 0, .int 0, .int 0, .ref (263), .ref (264), .ref (265), .ref (266), .ref (267), .ref (268), .ref (269), .ref (270), .ref (271), .ref (272), .ref (273), .ref (274), .ref (275), .ref (276), .ref (277), .ref (278), .ref (279), .ref (280), .int 0, .ref (281), .ref (282), .ref (283), .ref (284), .ref (285), .ref (286), .ref (287), .ref (288), .ref (289), .ref (290), .ref (291), .ref (292), .int 0, .ref (293), .ref (294), .ref (295), .ref (296), .ref (297), .ref (298), .ref (299), .ref (300), .ref (301), .ref (302), .null, .null, .null, .int 0, .null, .null, .null, .null, .int 0, .int 0, .null, .null, .null, .null, .null, .null, .int 0, .long 0]) (Nat.le_of_ble_eq_true rfl) rfl]
  refine MC.aload_n (i := 0) rfl rfl d_M_init_336 rfl ?_
  refine MC.sipush sp_492 d_M_init_337 rfl ?_
  refine MC.newarr (nn' := 304) (ck' := 42) (sk' := 5169) (N := 492) (t := 20) (ty := .int) rfl al_303 (by decide) (fun _ => rfl) (fun _ _ => rfl) ww_243 n32_492.1 n32_492.2 (Nat.le_of_ble_eq_true rfl) (fun k _ => by rw [mc_own_new (by omega), mc_v_int (al_303).1 (by decide)]; rfl) (fun _ => rfl) (by decide) (by decide) rfl rfl rfl d_M_init_340 rfl ?_
  refine MC.putF (k := 52) (v := .ref (303)) tg_261 (by omega) lays_9 toks_9 fq_9_52 fo_9_52 (fun _ => by rw [nt_9_52]; exact ⟨rfl, rfl⟩) ww_1410 d_M_init_342 rfl ?_
  rw [mc_own_set (fs' := [.int 0, .int 0, .ref (262), .int 0, .int 0, .int 0, .int 0, .long 0, .int 0, .int 0, .ref (263), .ref (264), .ref (265), .ref (266), .ref (267), .ref (268), .ref (269), .ref (270), .ref (271), .ref (272), .ref (273), .ref (274), .ref (275), .ref (276), .ref (277), .ref (278), .ref (279), .ref (280), .int 0, .ref (281), .ref (282), .ref (283), .ref (284), .ref (285), .ref (286), .ref (287), .ref (288), .ref (289), .ref (290), .ref (291), .ref (292), .int 0, .ref (293), .ref (294), .ref (295), .ref (296), .ref (297), .ref (298), .ref (299), .ref (300), .ref (301), .ref (302), .ref (303), .null, .null, .int 0, .null, .null, .null, .null, .int 0, .int 0, .null, .null, .null, .null, .null, .null, .int 0, .long 0]) (Nat.le_of_ble_eq_true rfl) rfl]
  refine MC.aload_n (i := 0) rfl rfl d_M_init_345 rfl ?_
  refine MC.sipush sp_1968 d_M_init_346 rfl ?_
  refine MC.newarr (nn' := 305) (ck' := 43) (sk' := 7137) (N := 1968) (t := 20) (ty := .int) rfl al_304 (by decide) (fun _ => rfl) (fun _ _ => rfl) ww_243 n32_1968.1 n32_1968.2 (Nat.le_of_ble_eq_true rfl) (fun k _ => by rw [mc_own_new (by omega), mc_v_int (al_304).1 (by decide)]; rfl) (fun _ => rfl) (by decide) (by decide) rfl rfl rfl d_M_init_349 rfl ?_
  refine MC.putF (k := 53) (v := .ref (304)) tg_261 (by omega) lays_9 toks_9 fq_9_53 fo_9_53 (fun _ => by rw [nt_9_53]; exact ⟨rfl, rfl⟩) ww_1411 d_M_init_351 rfl ?_
  rw [mc_own_set (fs' := [.int 0, .int 0, .ref (262), .int 0, .int 0, .int 0, .int 0, .long 0, .int 0, .int 0, .ref (263), .ref (264), .ref (265), .ref (266), .ref (267), .ref (268), .ref (269), .ref (270), .ref (271), .ref (272), .ref (273), .ref (274), .ref (275), .ref (276), .ref (277), .ref (278), .ref (279), .ref (280), .int 0, .ref (281), .ref (282), .ref (283), .ref (284), .ref (285), .ref (286), .ref (287), .ref (288), .ref (289), .ref (290), .ref (291), .ref (292), .int 0, .ref (293), .ref (294), .ref (295), .ref (296), .ref (297), .ref (298), .ref (299), .ref (300), .ref (301), .ref (302), .ref (303), .ref (304), .null, .int 0, .null, .null, .null, .null, .int 0, .int 0, .null, .null, .null, .null, .null, .null, .int 0, .long 0]) (Nat.le_of_ble_eq_true rfl) rfl]
  refine MC.aload_n (i := 0) rfl rfl d_M_init_354 rfl ?_
  refine MC.iconst ic_4 d_M_init_355 rfl ?_
  refine MC.newarr (nn' := 306) (ck' := 44) (sk' := 7141) (N := 4) (t := 23) (ty := .boolean) rfl al_305 (by decide) (fun _ => rfl) (fun _ _ => rfl) ww_1569 n32_4.1 n32_4.2 (Nat.le_of_ble_eq_true rfl) (fun k _ => by rw [mc_own_new (by omega), mc_v_int (al_305).1 (by decide)]; rfl) (fun _ => rfl) (by decide) (by decide) rfl rfl rfl d_M_init_356 rfl ?_
  refine MC.putF (k := 54) (v := .ref (305)) tg_261 (by omega) lays_9 toks_9 fq_9_54 fo_9_54 (fun _ => by rw [nt_9_54]; exact ⟨rfl, rfl⟩) ww_1412 d_M_init_358 rfl ?_
  rw [mc_own_set (fs' := [.int 0, .int 0, .ref (262), .int 0, .int 0, .int 0, .int 0, .long 0, .int 0, .int 0, .ref (263), .ref (264), .ref (265), .ref (266), .ref (267), .ref (268), .ref (269), .ref (270), .ref (271), .ref (272), .ref (273), .ref (274), .ref (275), .ref (276), .ref (277), .ref (278), .ref (279), .ref (280), .int 0, .ref (281), .ref (282), .ref (283), .ref (284), .ref (285), .ref (286), .ref (287), .ref (288), .ref (289), .ref (290), .ref (291), .ref (292), .int 0, .ref (293), .ref (294), .ref (295), .ref (296), .ref (297), .ref (298), .ref (299), .ref (300), .ref (301), .ref (302), .ref (303), .ref (304), .ref (305), .int 0, .null, .null, .null, .null, .int 0, .int 0, .null, .null, .null, .null, .null, .null, .int 0, .long 0]) (Nat.le_of_ble_eq_true rfl) rfl]
  refine MC.aload_n (i := 0) rfl rfl d_M_init_361 rfl ?_
  refine MC.ldc ww_1357 d_M_init_362 rfl ?_
  refine MC.newarr (nn' := 307) (ck' := 45) (sk' := 72677) (N := 65536) (t := 23) (ty := .boolean) rfl al_306 (by decide) (fun _ => rfl) (fun _ _ => rfl) ww_1569 n32_65536.1 n32_65536.2 (Nat.le_of_ble_eq_true rfl) (fun k _ => by rw [mc_own_new (by omega), mc_v_int (al_306).1 (by decide)]; rfl) (fun _ => rfl) (by decide) (by decide) rfl rfl rfl d_M_init_364 rfl ?_
  refine MC.putF (k := 56) (v := .ref (306)) tg_261 (by omega) lays_9 toks_9 fq_9_56 fo_9_56 (fun _ => by rw [nt_9_56]; exact ⟨rfl, rfl⟩) ww_1414 d_M_init_366 rfl ?_
  rw [mc_own_set (fs' := [.int 0, .int 0, .ref (262), .int 0, .int 0, .int 0, .int 0, .long 0, .int 0, .int 0, .ref (263), .ref (264), .ref (265), .ref (266), .ref (267), .ref (268), .ref (269), .ref (270), .ref (271), .ref (272), .ref (273), .ref (274), .ref (275), .ref (276), .ref (277), .ref (278), .ref (279), .ref (280), .int 0, .ref (281), .ref (282), .ref (283), .ref (284), .ref (285), .ref (286), .ref (287), .ref (288), .ref (289), .ref (290), .ref (291), .ref (292), .int 0, .ref (293), .ref (294), .ref (295), .ref (296), .ref (297), .ref (298), .ref (299), .ref (300), .ref (301), .ref (302), .ref (303), .ref (304), .ref (305), .int 0, .ref (306), .null, .null, .null, .int 0, .int 0, .null, .null, .null, .null, .null, .null, .int 0, .long 0]) (Nat.le_of_ble_eq_true rfl) rfl]
  refine MC.aload_n (i := 0) rfl rfl d_M_init_369 rfl ?_
  refine MC.sipush sp_6144 d_M_init_370 rfl ?_
  refine MC.newarr (nn' := 308) (ck' := 46) (sk' := 78821) (N := 6144) (t := 23) (ty := .boolean) rfl al_307 (by decide) (fun _ => rfl) (fun _ _ => rfl) ww_1569 n32_6144.1 n32_6144.2 (Nat.le_of_ble_eq_true rfl) (fun k _ => by rw [mc_own_new (by omega), mc_v_int (al_307).1 (by decide)]; rfl) (fun _ => rfl) (by decide) (by decide) rfl rfl rfl d_M_init_373 rfl ?_
  refine MC.putF (k := 57) (v := .ref (307)) tg_261 (by omega) lays_9 toks_9 fq_9_57 fo_9_57 (fun _ => by rw [nt_9_57]; exact ⟨rfl, rfl⟩) ww_1415 d_M_init_375 rfl ?_
  rw [mc_own_set (fs' := [.int 0, .int 0, .ref (262), .int 0, .int 0, .int 0, .int 0, .long 0, .int 0, .int 0, .ref (263), .ref (264), .ref (265), .ref (266), .ref (267), .ref (268), .ref (269), .ref (270), .ref (271), .ref (272), .ref (273), .ref (274), .ref (275), .ref (276), .ref (277), .ref (278), .ref (279), .ref (280), .int 0, .ref (281), .ref (282), .ref (283), .ref (284), .ref (285), .ref (286), .ref (287), .ref (288), .ref (289), .ref (290), .ref (291), .ref (292), .int 0, .ref (293), .ref (294), .ref (295), .ref (296), .ref (297), .ref (298), .ref (299), .ref (300), .ref (301), .ref (302), .ref (303), .ref (304), .ref (305), .int 0, .ref (306), .ref (307), .null, .null, .int 0, .int 0, .null, .null, .null, .null, .null, .null, .int 0, .long 0]) (Nat.le_of_ble_eq_true rfl) rfl]
  refine MC.aload_n (i := 0) rfl rfl d_M_init_378 rfl ?_
  refine MC.iconst ic_2 d_M_init_379 rfl ?_
  refine MC.newarr (nn' := 309) (ck' := 47) (sk' := 78823) (N := 2) (t := 20) (ty := .int) rfl al_308 (by decide) (fun _ => rfl) (fun _ _ => rfl) ww_243 n32_2.1 n32_2.2 (Nat.le_of_ble_eq_true rfl) (fun k _ => by rw [mc_own_new (by omega), mc_v_int (al_308).1 (by decide)]; rfl) (fun _ => rfl) (by decide) (by decide) rfl rfl rfl d_M_init_380 rfl ?_
  refine MC.putF (k := 58) (v := .ref (308)) tg_261 (by omega) lays_9 toks_9 fq_9_58 fo_9_58 (fun _ => by rw [nt_9_58]; exact ⟨rfl, rfl⟩) ww_1416 d_M_init_382 rfl ?_
  rw [mc_own_set (fs' := [.int 0, .int 0, .ref (262), .int 0, .int 0, .int 0, .int 0, .long 0, .int 0, .int 0, .ref (263), .ref (264), .ref (265), .ref (266), .ref (267), .ref (268), .ref (269), .ref (270), .ref (271), .ref (272), .ref (273), .ref (274), .ref (275), .ref (276), .ref (277), .ref (278), .ref (279), .ref (280), .int 0, .ref (281), .ref (282), .ref (283), .ref (284), .ref (285), .ref (286), .ref (287), .ref (288), .ref (289), .ref (290), .ref (291), .ref (292), .int 0, .ref (293), .ref (294), .ref (295), .ref (296), .ref (297), .ref (298), .ref (299), .ref (300), .ref (301), .ref (302), .ref (303), .ref (304), .ref (305), .int 0, .ref (306), .ref (307), .ref (308), .null, .int 0, .int 0, .null, .null, .null, .null, .null, .null, .int 0, .long 0]) (Nat.le_of_ble_eq_true rfl) rfl]
  refine MC.aload_n (i := 0) rfl rfl d_M_init_385 rfl ?_
  refine MC.iconst ic_2 d_M_init_386 rfl ?_
  refine MC.newarr (nn' := 310) (ck' := 48) (sk' := 78825) (N := 2) (t := 20) (ty := .int) rfl al_309 (by decide) (fun _ => rfl) (fun _ _ => rfl) ww_243 n32_2.1 n32_2.2 (Nat.le_of_ble_eq_true rfl) (fun k _ => by rw [mc_own_new (by omega), mc_v_int (al_309).1 (by decide)]; rfl) (fun _ => rfl) (by decide) (by decide) rfl rfl rfl d_M_init_387 rfl ?_
  refine MC.putF (k := 59) (v := .ref (309)) tg_261 (by omega) lays_9 toks_9 fq_9_59 fo_9_59 (fun _ => by rw [nt_9_59]; exact ⟨rfl, rfl⟩) ww_1417 d_M_init_389 rfl ?_
  rw [mc_own_set (fs' := [.int 0, .int 0, .ref (262), .int 0, .int 0, .int 0, .int 0, .long 0, .int 0, .int 0, .ref (263), .ref (264), .ref (265), .ref (266), .ref (267), .ref (268), .ref (269), .ref (270), .ref (271), .ref (272), .ref (273), .ref (274), .ref (275), .ref (276), .ref (277), .ref (278), .ref (279), .ref (280), .int 0, .ref (281), .ref (282), .ref (283), .ref (284), .ref (285), .ref (286), .ref (287), .ref (288), .ref (289), .ref (290), .ref (291), .ref (292), .int 0, .ref (293), .ref (294), .ref (295), .ref (296), .ref (297), .ref (298), .ref (299), .ref (300), .ref (301), .ref (302), .ref (303), .ref (304), .ref (305), .int 0, .ref (306), .ref (307), .ref (308), .ref (309), .int 0, .int 0, .null, .null, .null, .null, .null, .null, .int 0, .long 0]) (Nat.le_of_ble_eq_true rfl) rfl]
  refine MC.aload_n (i := 0) rfl rfl d_M_init_392 rfl ?_
  refine MC.bipush bp_64 d_M_init_393 rfl ?_
  refine MC.newarr (nn' := 311) (ck' := 49) (sk' := 78889) (N := 64) (t := 20) (ty := .int) rfl al_310 (by decide) (fun _ => rfl) (fun _ _ => rfl) ww_243 n32_64.1 n32_64.2 (Nat.le_of_ble_eq_true rfl) (fun k _ => by rw [mc_own_new (by omega), mc_v_int (al_310).1 (by decide)]; rfl) (fun _ => rfl) (by decide) (by decide) rfl rfl rfl d_M_init_395 rfl ?_
  refine MC.putF (k := 62) (v := .ref (310)) tg_261 (by omega) lays_9 toks_9 fq_9_62 fo_9_62 (fun _ => by rw [nt_9_62]; exact ⟨rfl, rfl⟩) ww_1420 d_M_init_397 rfl ?_
  rw [mc_own_set (fs' := [.int 0, .int 0, .ref (262), .int 0, .int 0, .int 0, .int 0, .long 0, .int 0, .int 0, .ref (263), .ref (264), .ref (265), .ref (266), .ref (267), .ref (268), .ref (269), .ref (270), .ref (271), .ref (272), .ref (273), .ref (274), .ref (275), .ref (276), .ref (277), .ref (278), .ref (279), .ref (280), .int 0, .ref (281), .ref (282), .ref (283), .ref (284), .ref (285), .ref (286), .ref (287), .ref (288), .ref (289), .ref (290), .ref (291), .ref (292), .int 0, .ref (293), .ref (294), .ref (295), .ref (296), .ref (297), .ref (298), .ref (299), .ref (300), .ref (301), .ref (302), .ref (303), .ref (304), .ref (305), .int 0, .ref (306), .ref (307), .ref (308), .ref (309), .int 0, .int 0, .ref (310), .null, .null, .null, .null, .null, .int 0, .long 0]) (Nat.le_of_ble_eq_true rfl) rfl]
  refine MC.aload_n (i := 0) rfl rfl d_M_init_400 rfl ?_
  refine MC.bipush bp_64 d_M_init_401 rfl ?_
  refine MC.newarr (nn' := 312) (ck' := 50) (sk' := 78953) (N := 64) (t := 20) (ty := .int) rfl al_311 (by decide) (fun _ => rfl) (fun _ _ => rfl) ww_243 n32_64.1 n32_64.2 (Nat.le_of_ble_eq_true rfl) (fun k _ => by rw [mc_own_new (by omega), mc_v_int (al_311).1 (by decide)]; rfl) (fun _ => rfl) (by decide) (by decide) rfl rfl rfl d_M_init_403 rfl ?_
  refine MC.putF (k := 63) (v := .ref (311)) tg_261 (by omega) lays_9 toks_9 fq_9_63 fo_9_63 (fun _ => by rw [nt_9_63]; exact ⟨rfl, rfl⟩) ww_1421 d_M_init_405 rfl ?_
  rw [mc_own_set (fs' := [.int 0, .int 0, .ref (262), .int 0, .int 0, .int 0, .int 0, .long 0, .int 0, .int 0, .ref (263), .ref (264), .ref (265), .ref (266), .ref (267), .ref (268), .ref (269), .ref (270), .ref (271), .ref (272), .ref (273), .ref (274), .ref (275), .ref (276), .ref (277), .ref (278), .ref (279), .ref (280), .int 0, .ref (281), .ref (282), .ref (283), .ref (284), .ref (285), .ref (286), .ref (287), .ref (288), .ref (289), .ref (290), .ref (291), .ref (292), .int 0, .ref (293), .ref (294), .ref (295), .ref (296), .ref (297), .ref (298), .ref (299), .ref (300), .ref (301), .ref (302), .ref (303), .ref (304), .ref (305), .int 0, .ref (306), .ref (307), .ref (308), .ref (309), .int 0, .int 0, .ref (310), .ref (311), .null, .null, .null, .null, .int 0, .long 0]) (Nat.le_of_ble_eq_true rfl) rfl]
  refine MC.aload_n (i := 0) rfl rfl d_M_init_408 rfl ?_
  refine MC.bipush bp_6 d_M_init_409 rfl ?_
  refine MC.newarr (nn' := 313) (ck' := 51) (sk' := 78959) (N := 6) (t := 20) (ty := .int) rfl al_312 (by decide) (fun _ => rfl) (fun _ _ => rfl) ww_243 n32_6.1 n32_6.2 (Nat.le_of_ble_eq_true rfl) (fun k _ => by rw [mc_own_new (by omega), mc_v_int (al_312).1 (by decide)]; rfl) (fun _ => rfl) (by decide) (by decide) rfl rfl rfl d_M_init_411 rfl ?_
  refine MC.putF (k := 64) (v := .ref (312)) tg_261 (by omega) lays_9 toks_9 fq_9_64 fo_9_64 (fun _ => by rw [nt_9_64]; exact ⟨rfl, rfl⟩) ww_1422 d_M_init_413 rfl ?_
  rw [mc_own_set (fs' := [.int 0, .int 0, .ref (262), .int 0, .int 0, .int 0, .int 0, .long 0, .int 0, .int 0, .ref (263), .ref (264), .ref (265), .ref (266), .ref (267), .ref (268), .ref (269), .ref (270), .ref (271), .ref (272), .ref (273), .ref (274), .ref (275), .ref (276), .ref (277), .ref (278), .ref (279), .ref (280), .int 0, .ref (281), .ref (282), .ref (283), .ref (284), .ref (285), .ref (286), .ref (287), .ref (288), .ref (289), .ref (290), .ref (291), .ref (292), .int 0, .ref (293), .ref (294), .ref (295), .ref (296), .ref (297), .ref (298), .ref (299), .ref (300), .ref (301), .ref (302), .ref (303), .ref (304), .ref (305), .int 0, .ref (306), .ref (307), .ref (308), .ref (309), .int 0, .int 0, .ref (310), .ref (311), .ref (312), .null, .null, .null, .int 0, .long 0]) (Nat.le_of_ble_eq_true rfl) rfl]
  refine MC.aload_n (i := 0) rfl rfl d_M_init_416 rfl ?_
  refine MC.bipush bp_64 d_M_init_417 rfl ?_
  refine MC.newarr (nn' := 314) (ck' := 52) (sk' := 79023) (N := 64) (t := 20) (ty := .int) rfl al_313 (by decide) (fun _ => rfl) (fun _ _ => rfl) ww_243 n32_64.1 n32_64.2 (Nat.le_of_ble_eq_true rfl) (fun k _ => by rw [mc_own_new (by omega), mc_v_int (al_313).1 (by decide)]; rfl) (fun _ => rfl) (by decide) (by decide) rfl rfl rfl d_M_init_419 rfl ?_
  refine MC.putF (k := 65) (v := .ref (313)) tg_261 (by omega) lays_9 toks_9 fq_9_65 fo_9_65 (fun _ => by rw [nt_9_65]; exact ⟨rfl, rfl⟩) ww_1423 d_M_init_421 rfl ?_
  rw [mc_own_set (fs' := [.int 0, .int 0, .ref (262), .int 0, .int 0, .int 0, .int 0, .long 0, .int 0, .int 0, .ref (263), .ref (264), .ref (265), .ref (266), .ref (267), .ref (268), .ref (269), .ref (270), .ref (271), .ref (272), .ref (273), .ref (274), .ref (275), .ref (276), .ref (277), .ref (278), .ref (279), .ref (280), .int 0, .ref (281), .ref (282), .ref (283), .ref (284), .ref (285), .ref (286), .ref (287), .ref (288), .ref (289), .ref (290), .ref (291), .ref (292), .int 0, .ref (293), .ref (294), .ref (295), .ref (296), .ref (297), .ref (298), .ref (299), .ref (300), .ref (301), .ref (302), .ref (303), .ref (304), .ref (305), .int 0, .ref (306), .ref (307), .ref (308), .ref (309), .int 0, .int 0, .ref (310), .ref (311), .ref (312), .ref (313), .null, .null, .int 0, .long 0]) (Nat.le_of_ble_eq_true rfl) rfl]
  refine MC.aload_n (i := 0) rfl rfl d_M_init_424 rfl ?_
  refine MC.iconst ic_3 d_M_init_425 rfl ?_
  refine MC.newarr (nn' := 315) (ck' := 53) (sk' := 79026) (N := 3) (t := 20) (ty := .int) rfl al_314 (by decide) (fun _ => rfl) (fun _ _ => rfl) ww_243 n32_3.1 n32_3.2 (Nat.le_of_ble_eq_true rfl) (fun k _ => by rw [mc_own_new (by omega), mc_v_int (al_314).1 (by decide)]; rfl) (fun _ => rfl) (by decide) (by decide) rfl rfl rfl d_M_init_426 rfl ?_
  refine MC.putF (k := 66) (v := .ref (314)) tg_261 (by omega) lays_9 toks_9 fq_9_66 fo_9_66 (fun _ => by rw [nt_9_66]; exact ⟨rfl, rfl⟩) ww_1424 d_M_init_428 rfl ?_
  rw [mc_own_set (fs' := [.int 0, .int 0, .ref (262), .int 0, .int 0, .int 0, .int 0, .long 0, .int 0, .int 0, .ref (263), .ref (264), .ref (265), .ref (266), .ref (267), .ref (268), .ref (269), .ref (270), .ref (271), .ref (272), .ref (273), .ref (274), .ref (275), .ref (276), .ref (277), .ref (278), .ref (279), .ref (280), .int 0, .ref (281), .ref (282), .ref (283), .ref (284), .ref (285), .ref (286), .ref (287), .ref (288), .ref (289), .ref (290), .ref (291), .ref (292), .int 0, .ref (293), .ref (294), .ref (295), .ref (296), .ref (297), .ref (298), .ref (299), .ref (300), .ref (301), .ref (302), .ref (303), .ref (304), .ref (305), .int 0, .ref (306), .ref (307), .ref (308), .ref (309), .int 0, .int 0, .ref (310), .ref (311), .ref (312), .ref (313), .ref (314), .null, .int 0, .long 0]) (Nat.le_of_ble_eq_true rfl) rfl]
  refine MC.aload_n (i := 0) rfl rfl d_M_init_431 rfl ?_
  refine MC.iconst ic_3 d_M_init_432 rfl ?_
  refine MC.newarr (nn' := 316) (ck' := 54) (sk' := 79029) (N := 3) (t := 20) (ty := .int) rfl al_315 (by decide) (fun _ => rfl) (fun _ _ => rfl) ww_243 n32_3.1 n32_3.2 (Nat.le_of_ble_eq_true rfl) (fun k _ => by rw [mc_own_new (by omega), mc_v_int (al_315).1 (by decide)]; rfl) (fun _ => rfl) (by decide) (by decide) rfl rfl rfl d_M_init_433 rfl ?_
  refine MC.putF (k := 67) (v := .ref (315)) tg_261 (by omega) lays_9 toks_9 fq_9_67 fo_9_67 (fun _ => by rw [nt_9_67]; exact ⟨rfl, rfl⟩) ww_1425 d_M_init_435 rfl ?_
  rw [mc_own_set (fs' := [.int 0, .int 0, .ref (262), .int 0, .int 0, .int 0, .int 0, .long 0, .int 0, .int 0, .ref (263), .ref (264), .ref (265), .ref (266), .ref (267), .ref (268), .ref (269), .ref (270), .ref (271), .ref (272), .ref (273), .ref (274), .ref (275), .ref (276), .ref (277), .ref (278), .ref (279), .ref (280), .int 0, .ref (281), .ref (282), .ref (283), .ref (284), .ref (285), .ref (286), .ref (287), .ref (288), .ref (289), .ref (290), .ref (291), .ref (292), .int 0, .ref (293), .ref (294), .ref (295), .ref (296), .ref (297), .ref (298), .ref (299), .ref (300), .ref (301), .ref (302), .ref (303), .ref (304), .ref (305), .int 0, .ref (306), .ref (307), .ref (308), .ref (309), .int 0, .int 0, .ref (310), .ref (311), .ref (312), .ref (313), .ref (314), .ref (315), .int 0, .long 0]) (Nat.le_of_ble_eq_true rfl) rfl]
  exact MC.vret (mc_fin (fun k hk => fin_9  k hk)) rfl d_M_init_438
