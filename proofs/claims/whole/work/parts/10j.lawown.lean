/-! THE LAW'S OWN person AND plot: they catch what the class throws -/
theorem dt_p11 : decode cX11_person 11 = .ok (.new 137, 3) := by decide +kernel
theorem dt_p14 : decode cX11_person 14 = .ok (.dup, 1) := by decide +kernel
theorem dt_p15 : decode cX11_person 15 = .ok (.invokespecial 139, 3) := by decide +kernel
theorem dt_p18 : decode cX11_person 18 = .ok (.athrow, 1) := by decide +kernel
theorem dt_p167 : decode cX11_person 167 = .ok (.new 137, 3) := by decide +kernel
theorem dt_p170 : decode cX11_person 170 = .ok (.dup, 1) := by decide +kernel
theorem dt_p171 : decode cX11_person 171 = .ok (.invokespecial 139, 3) := by decide +kernel
theorem dt_p174 : decode cX11_person 174 = .ok (.athrow, 1) := by decide +kernel
theorem dt_q32 : decode cX11_plot 32 = .ok (.new 137, 3) := by decide +kernel
theorem dt_q35 : decode cX11_plot 35 = .ok (.dup, 1) := by decide +kernel
theorem dt_q36 : decode cX11_plot 36 = .ok (.invokespecial 139, 3) := by decide +kernel
theorem dt_q39 : decode cX11_plot 39 = .ok (.athrow, 1) := by decide +kernel
theorem d_L_person_0 : decode cL_person 0 = .ok (.aload_n 3, 1) := by decide +kernel
theorem d_L_person_1 : decode cL_person 1 = .ok (.iconst 0, 1) := by decide +kernel
theorem d_L_person_2 : decode cL_person 2 = .ok (.aload_n 0, 1) := by decide +kernel
theorem d_L_person_3 : decode cL_person 3 = .ok (.iload_n 1, 1) := by decide +kernel
theorem d_L_person_4 : decode cL_person 4 = .ok (.iload_n 2, 1) := by decide +kernel
theorem d_L_person_5 : decode cL_person 5 = .ok (.invokevirtual 7, 3) := by decide +kernel
theorem d_L_person_8 : decode cL_person 8 = .ok (.i2l, 1) := by decide +kernel
theorem d_L_person_9 : decode cL_person 9 = .ok (.lastore, 1) := by decide +kernel
theorem d_L_person_10 : decode cL_person 10 = .ok (.goto 7, 3) := by decide +kernel
theorem d_L_person_13 : decode cL_person 13 = .ok (.astore 4, 2) := by decide +kernel
theorem d_L_person_15 : decode cL_person 15 = .ok (.iconst 1, 1) := by decide +kernel
theorem d_L_person_16 : decode cL_person 16 = .ok (.ireturn, 1) := by decide +kernel
theorem d_L_person_17 : decode cL_person 17 = .ok (.iconst 0, 1) := by decide +kernel
theorem d_L_person_18 : decode cL_person 18 = .ok (.ireturn, 1) := by decide +kernel
theorem d_L_plot_0 : decode cL_plot 0 = .ok (.aload 5, 2) := by decide +kernel
theorem d_L_plot_2 : decode cL_plot 2 = .ok (.iconst 0, 1) := by decide +kernel
theorem d_L_plot_3 : decode cL_plot 3 = .ok (.aload_n 0, 1) := by decide +kernel
theorem d_L_plot_4 : decode cL_plot 4 = .ok (.iload_n 1, 1) := by decide +kernel
theorem d_L_plot_5 : decode cL_plot 5 = .ok (.iload_n 2, 1) := by decide +kernel
theorem d_L_plot_6 : decode cL_plot 6 = .ok (.iload_n 3, 1) := by decide +kernel
theorem d_L_plot_7 : decode cL_plot 7 = .ok (.iload 4, 2) := by decide +kernel
theorem d_L_plot_9 : decode cL_plot 9 = .ok (.invokevirtual 15, 3) := by decide +kernel
theorem d_L_plot_12 : decode cL_plot 12 = .ok (.i2l, 1) := by decide +kernel
theorem d_L_plot_13 : decode cL_plot 13 = .ok (.lastore, 1) := by decide +kernel
theorem d_L_plot_14 : decode cL_plot 14 = .ok (.goto 7, 3) := by decide +kernel
theorem d_L_plot_17 : decode cL_plot 17 = .ok (.astore 6, 2) := by decide +kernel
theorem d_L_plot_19 : decode cL_plot 19 = .ok (.iconst 1, 1) := by decide +kernel
theorem d_L_plot_20 : decode cL_plot 20 = .ok (.ireturn, 1) := by decide +kernel
theorem d_L_plot_21 : decode cL_plot 21 = .ok (.iconst 0, 1) := by decide +kernel
theorem d_L_plot_22 : decode cL_plot 22 = .ok (.ireturn, 1) := by decide +kernel
set_option maxRecDepth 100000 in
theorem ww_1249 : Cond.methodLink RL 7 yX11_person ∈ mm_gw := mm_gw_in (mm_ch5 (List.mem_of_getElem? (i := 180) (by rfl))) rfl
set_option maxRecDepth 100000 in
theorem ww_1250 : Cond.instanceMethod yX11_person ∈ mm_gw := mm_gw_in (mm_ch5 (List.mem_of_getElem? (i := 181) (by rfl))) rfl
set_option maxRecDepth 100000 in
theorem ww_1251 : Cond.selects RX11 yX11_person yX11_person ∈ mm_gw := mm_gw_in (mm_ch5 (List.mem_of_getElem? (i := 182) (by rfl))) rfl
set_option maxRecDepth 100000 in
theorem ww_1252 : Cond.code yX11_person cX11_person 3 (some .int) ∈ mm_gw := mm_gw_in (mm_ch5 (List.mem_of_getElem? (i := 183) (by rfl))) rfl
set_option maxRecDepth 100000 in
theorem ww_1318 : Cond.methodLink RL 15 yX11_plot ∈ mm_gw := mm_gw_in (mm_ch6 (List.mem_of_getElem? (i := 9) (by rfl))) rfl
set_option maxRecDepth 100000 in
theorem ww_1319 : Cond.instanceMethod yX11_plot ∈ mm_gw := mm_gw_in (mm_ch6 (List.mem_of_getElem? (i := 10) (by rfl))) rfl
set_option maxRecDepth 100000 in
theorem ww_1320 : Cond.selects RX11 yX11_plot yX11_plot ∈ mm_gw := mm_gw_in (mm_ch6 (List.mem_of_getElem? (i := 11) (by rfl))) rfl
set_option maxRecDepth 100000 in
theorem ww_1321 : Cond.code yX11_plot cX11_plot 5 (some .int) ∈ mm_gw := mm_gw_in (mm_ch6 (List.mem_of_getElem? (i := 12) (by rfl))) rfl
theorem mx_i0 : mm_ix 0 1 = some 0 := by decide +kernel
abbrev Y_L_person : mm_Y := (yL_person, cL_person, 5, some .int)
abbrev Y_L_plot : mm_Y := (yL_plot, cL_plot, 7, some .int)
theorem cal_X_person : mm_callee Y_X_person 2 := ⟨ww_1252, ww_110, ⟨by decide +kernel, by decide +kernel, by decide +kernel⟩, by decide⟩
theorem cal_X_plot : mm_callee Y_X_plot 4 := ⟨ww_1321, ww_110, ⟨by decide +kernel, by decide +kernel, by decide +kernel⟩, by decide⟩
/-- where person throws -/
def t_X_person (x1 x2 : Int32) (h : mm_H) : Prop := ∃ t v, mm_gT h 14 = some t ∧ f_To_hasPerson t x1 h = some v ∧ (v = 0 ∨ ¬ v = 0 ∧ (x2 < 0 ∨ 7 < x2))
/-- where plot throws -/
def t_X_plot (x1 x2 x3 x4 : Int32) (h : mm_H) : Prop := ∃ t v, mm_gT h 14 = some t ∧ f_To_hasPair t x1 x2 h = some v ∧ (v = 0 ∨ ¬ v = 0 ∧ (x3 < 0 ∨ 2 < x3 ∨ x4 < 0 ∨ 3 < x4))
theorem TX_person (V : mm_V) (l : Launch) (hl9 : l.stackTraces = false) (x1 x2 : Int32) (h : mm_H) (ht : t_X_person x1 x2 h) : MY V l Y_X_person 12 [.ref 32, .int x1, .int x2] h := by
  obtain ⟨t, v, e1, e2, e3⟩ := ht
  obtain ⟨e1, t_t⟩ := mm_gTE e1
  refine MY.intro (by decide +kernel) [(0, .ref 32), (1, .int x1), (2, .int x2)] rfl (Nat.le_of_ble_eq_true rfl) ?_
  refine ML.aload_n (i := 0) rfl rfl d_X_person_0 rfl ?_
  refine ML.gT e1 tg_32 tq_14 lays_8 ww_486 d_X_person_1 rfl ?_
  refine ML.iload_n (i := 1) rfl rfl d_X_person_4 rfl ?_
  refine ML.callV1g (T_To_hasPerson V l t x1 h _ e2) (fun _ _ q => q) cal_To_hasPerson rfl t_t ct_7 ww_934 ww_933 ww_980 (by decide) (by simp [Value.category]) d_X_person_5 rfl rfl ?_
  refine ML.if_ne (tgt := 19) d_X_person_8 rfl rfl (fun c => ?_) (fun c => ?_)
  · have hx : x2 < 0 ∨ 7 < x2 := by
      rcases e3 with e3 | e3
      · exact absurd e3 c
      · exact e3.2
    refine ML.iload_n (i := 2) rfl rfl d_X_person_19 rfl ?_
    refine ML.tableOut (tgt := 167) ?_ d_X_person_20 rfl ?_
    · rcases hx with hx | hx
      · exact Or.inl (Int32.lt_iff_toInt_lt.mp hx)
      · exact Or.inr (Int32.lt_iff_toInt_lt.mp hx)
    · exact ML.throw0 hl9 (by decide) rfl dt_p167 dt_p170 dt_p171 dt_p174
  · exact ML.throw0 hl9 (by decide) rfl dt_p11 dt_p14 dt_p15 dt_p18
theorem TX_plot (V : mm_V) (l : Launch) (hl9 : l.stackTraces = false) (x1 x2 x3 x4 : Int32) (h : mm_H) (ht : t_X_plot x1 x2 x3 x4 h) : MY V l Y_X_plot 12 [.ref 32, .int x1, .int x2, .int x3, .int x4] h := by
  obtain ⟨t, v, e1, e2, e3⟩ := ht
  obtain ⟨e1, t_t⟩ := mm_gTE e1
  refine MY.intro (by decide +kernel) [(0, .ref 32), (1, .int x1), (2, .int x2), (3, .int x3), (4, .int x4)] rfl (Nat.le_of_ble_eq_true rfl) ?_
  refine ML.aload_n (i := 0) rfl rfl d_X_plot_0 rfl ?_
  refine ML.gT e1 tg_32 tq_14 lays_8 ww_486 d_X_plot_1 rfl ?_
  refine ML.iload_n (i := 1) rfl rfl d_X_plot_4 rfl ?_
  refine ML.iload_n (i := 2) rfl rfl d_X_plot_5 rfl ?_
  refine ML.callV1g (T_To_hasPair V l t x1 x2 h _ e2) (fun _ _ q => q) cal_To_hasPair rfl t_t ct_7 ww_930 ww_929 ww_928 (by decide) (by simp [Value.category]) d_X_plot_6 rfl rfl ?_
  have K : ML V l Y_X_plot 12 1 6 mx_no 0 0 (mx_Zt V h) 32 [(0, .ref 32), (1, .int x1), (2, .int x2), (3, .int x3), (4, .int x4)] [] h := ML.throw0 hl9 (by decide) rfl dt_q32 dt_q35 dt_q36 dt_q39
  refine ML.if_eq (tgt := 32) d_X_plot_9 rfl rfl (fun c => K) (fun c => ?_)
  have hx : x3 < 0 ∨ 2 < x3 ∨ x4 < 0 ∨ 3 < x4 := by
    rcases e3 with e3 | e3
    · exact absurd e3 c
    · exact e3.2
  refine ML.iload_n (i := 3) rfl rfl d_X_plot_12 rfl ?_
  refine ML.if_lt (tgt := 32) d_X_plot_13 rfl rfl (fun c1 => K) (fun c1 => ?_)
  refine ML.iload_n (i := 3) rfl rfl d_X_plot_16 rfl ?_
  refine ML.iconst ic_2 d_X_plot_17 rfl ?_
  refine ML.icmp_gt (tgt := 32) d_X_plot_18 rfl rfl (fun c2 => K) (fun c2 => ?_)
  refine ML.iload rfl d_X_plot_21 rfl ?_
  refine ML.if_lt (tgt := 32) d_X_plot_23 rfl rfl (fun c3 => K) (fun c3 => ?_)
  refine ML.iload rfl d_X_plot_26 rfl ?_
  refine ML.iconst ic_3 d_X_plot_28 rfl ?_
  refine ML.icmp_le (tgt := 40) d_X_plot_29 rfl rfl (fun c4 => ?_) (fun c4 => K)
  rcases hx with hx | hx | hx | hx
  · exact absurd hx c1
  · exact absurd hx c2
  · exact absurd hx c3
  · exact absurd hx (Int32.not_lt.mpr c4)
noncomputable def f_L_person (x1 x2 : Int32) (h : mm_H) : Option (Int32 × mm_H) := @ite _ (t_X_person x1 x2 h) (Classical.propDecidable _) (some (1, h)) ((f_X_person x1 x2 h).bind fun v => some (0, mm_pL v.2 316 0 (Int32.toInt64 v.1)))
noncomputable def f_L_plot (x1 x2 x3 x4 : Int32) (h : mm_H) : Option (Int32 × mm_H) := @ite _ (t_X_plot x1 x2 x3 x4 h) (Classical.propDecidable _) (some (1, h)) ((f_X_plot x1 x2 x3 x4 h).bind fun v => some (0, mm_pL v.2 316 0 (Int32.toInt64 v.1)))
theorem T_L_person (V : mm_V) (l : Launch) (hl9 : l.stackTraces = false) (x1 x2 : Int32) (h : mm_H) (r : Int32 × mm_H) (hf : f_L_person x1 x2 h = some r) : MX V l Y_L_person [(0, 10, 13, 13)] 20 1 6 [.ref 32, .int x1, .int x2, .ref 316] (fun r1 h1 => r1 = some (.int r.1) ∧ h1 = r.2) h := by
  unfold f_L_person at hf
  refine MX.intro (by decide +kernel) [(0, .ref 32), (1, .int x1), (2, .int x2), (3, .ref 316)] rfl (Nat.le_of_ble_eq_true rfl) ?_
  refine ML.aload_n (i := 3) rfl rfl d_L_person_0 rfl ?_
  refine ML.iconst ic_0 d_L_person_1 rfl ?_
  refine ML.aload_n (i := 0) rfl rfl d_L_person_2 rfl ?_
  refine ML.iload_n (i := 1) rfl rfl d_L_person_3 rfl ?_
  refine ML.iload_n (i := 2) rfl rfl d_L_person_4 rfl ?_
  by_cases ht : t_X_person x1 x2 h
  · rw [if_pos ht] at hf
    obtain rfl := Option.some.inj hf
    refine ML.callVX (hh := [(0, 10, 13, 13)]) (hp := 10) (i := 4) (n := 15) (TX_person V l hl9 x1 x2 h ht) rfl cal_X_person rfl tg_32 ct_8 ww_1251 ww_1250 ww_1249 (by decide) (by simp [Value.category]) d_L_person_5 rfl (Nat.le_refl _) (Nat.le_refl _) rfl (by decide) (by decide) d_L_person_13 rfl ?_
    refine ML.iconst ic_1 d_L_person_15 rfl ?_
    exact ML.iretX (Nat.le_refl _) (Nat.le_refl _) rfl d_L_person_16 ⟨rfl, rfl⟩
  · rw [if_neg ht] at hf
    obtain ⟨v, e, hf⟩ := mm_bind hf
    obtain rfl := Option.some.inj hf
    refine ML.callV1g (T_X_person V l x1 x2 h _ e) (fun _ _ q => q) cal_X_person rfl tg_32 ct_8 ww_1251 ww_1250 ww_1249 (by decide) (by simp [Value.category]) d_L_person_5 rfl rfl ?_
    refine ML.i2l d_L_person_8 rfl ?_
    refine ML.sL mx_i0 rfl al_316 d_L_person_9 rfl ?_
    refine ML.goto (tgt := 17) d_L_person_10 rfl ?_
    refine ML.iconst ic_0 d_L_person_17 rfl ?_
    exact ML.iretX (Nat.zero_le _) (Nat.zero_le _) rfl d_L_person_18 ⟨rfl, rfl⟩
theorem T_L_plot (V : mm_V) (l : Launch) (hl9 : l.stackTraces = false) (x1 x2 x3 x4 : Int32) (h : mm_H) (r : Int32 × mm_H) (hf : f_L_plot x1 x2 x3 x4 h = some r) : MX V l Y_L_plot [(0, 14, 17, 13)] 20 1 6 [.ref 32, .int x1, .int x2, .int x3, .int x4, .ref 316] (fun r1 h1 => r1 = some (.int r.1) ∧ h1 = r.2) h := by
  unfold f_L_plot at hf
  refine MX.intro (by decide +kernel) [(0, .ref 32), (1, .int x1), (2, .int x2), (3, .int x3), (4, .int x4), (5, .ref 316)] rfl (Nat.le_of_ble_eq_true rfl) ?_
  refine ML.aload rfl d_L_plot_0 rfl ?_
  refine ML.iconst ic_0 d_L_plot_2 rfl ?_
  refine ML.aload_n (i := 0) rfl rfl d_L_plot_3 rfl ?_
  refine ML.iload_n (i := 1) rfl rfl d_L_plot_4 rfl ?_
  refine ML.iload_n (i := 2) rfl rfl d_L_plot_5 rfl ?_
  refine ML.iload_n (i := 3) rfl rfl d_L_plot_6 rfl ?_
  refine ML.iload rfl d_L_plot_7 rfl ?_
  by_cases ht : t_X_plot x1 x2 x3 x4 h
  · rw [if_pos ht] at hf
    obtain rfl := Option.some.inj hf
    refine ML.callVX (hh := [(0, 14, 17, 13)]) (hp := 14) (i := 6) (n := 19) (TX_plot V l hl9 x1 x2 x3 x4 h ht) rfl cal_X_plot rfl tg_32 ct_8 ww_1320 ww_1319 ww_1318 (by decide) (by simp [Value.category]) d_L_plot_9 rfl (Nat.le_refl _) (Nat.le_refl _) rfl (by decide) (by decide) d_L_plot_17 rfl ?_
    refine ML.iconst ic_1 d_L_plot_19 rfl ?_
    exact ML.iretX (Nat.le_refl _) (Nat.le_refl _) rfl d_L_plot_20 ⟨rfl, rfl⟩
  · rw [if_neg ht] at hf
    obtain ⟨v, e, hf⟩ := mm_bind hf
    obtain rfl := Option.some.inj hf
    refine ML.callV1g (T_X_plot V l x1 x2 x3 x4 h _ e) (fun _ _ q => q) cal_X_plot rfl tg_32 ct_8 ww_1320 ww_1319 ww_1318 (by decide) (by simp [Value.category]) d_L_plot_9 rfl rfl ?_
    refine ML.i2l d_L_plot_12 rfl ?_
    refine ML.sL mx_i0 rfl al_316 d_L_plot_13 rfl ?_
    refine ML.goto (tgt := 21) d_L_plot_14 rfl ?_
    refine ML.iconst ic_0 d_L_plot_21 rfl ?_
    exact ML.iretX (Nat.zero_le _) (Nat.zero_le _) rfl d_L_plot_22 ⟨rfl, rfl⟩
