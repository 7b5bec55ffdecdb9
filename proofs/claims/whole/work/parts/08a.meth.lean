/-! methods: Ta_add, X_feed, JA_fill_AIIV, To_clear, Ta_scanWord, Ta_scanNumber, JS_isLatin1, JS_coder, JS_length, JL_canEncode, JM_max, JM_min, JL_indexOfChar, JL_indexOf, JS_indexOf_III, JS_indexOf_II, Ta_next, Ta_rewind, Ta_wrong, Ta_isName, To_findPerson, To_findSecret, Tr_takeNewName, Tr_kindOf, Ta_takeWord -/
theorem d_Ta_add_0 : decode cX7_add 0 = .ok (.bipush 56, 2) := by decide +kernel
theorem d_Ta_add_2 : decode cX7_add 2 = .ok (.istore_n 3, 1) := by decide +kernel
theorem d_Ta_add_3 : decode cX7_add 3 = .ok (.iload_n 3, 1) := by decide +kernel
theorem d_Ta_add_4 : decode cX7_add 4 = .ok (.ifCond .lt 84, 3) := by decide +kernel
theorem d_Ta_add_7 : decode cX7_add 7 = .ok (.lload_n 1, 1) := by decide +kernel
theorem d_Ta_add_8 : decode cX7_add 8 = .ok (.iload_n 3, 1) := by decide +kernel
theorem d_Ta_add_9 : decode cX7_add 9 = .ok (.lushr, 1) := by decide +kernel
theorem d_Ta_add_10 : decode cX7_add 10 = .ok (.l2i, 1) := by decide +kernel
theorem d_Ta_add_11 : decode cX7_add 11 = .ok (.sipush 255, 3) := by decide +kernel
theorem d_Ta_add_14 : decode cX7_add 14 = .ok (.iand, 1) := by decide +kernel
theorem d_Ta_add_15 : decode cX7_add 15 = .ok (.istore 4, 2) := by decide +kernel
theorem d_Ta_add_17 : decode cX7_add 17 = .ok (.iload 4, 2) := by decide +kernel
theorem d_Ta_add_19 : decode cX7_add 19 = .ok (.bipush 10, 2) := by decide +kernel
theorem d_Ta_add_21 : decode cX7_add 21 = .ok (.if_icmp .eq 17, 3) := by decide +kernel
theorem d_Ta_add_24 : decode cX7_add 24 = .ok (.iload 4, 2) := by decide +kernel
theorem d_Ta_add_26 : decode cX7_add 26 = .ok (.bipush 32, 2) := by decide +kernel
theorem d_Ta_add_28 : decode cX7_add 28 = .ok (.if_icmp .lt 14, 3) := by decide +kernel
theorem d_Ta_add_31 : decode cX7_add 31 = .ok (.iload 4, 2) := by decide +kernel
theorem d_Ta_add_33 : decode cX7_add 33 = .ok (.bipush 126, 2) := by decide +kernel
theorem d_Ta_add_35 : decode cX7_add 35 = .ok (.if_icmp .gt 7, 3) := by decide +kernel
theorem d_Ta_add_38 : decode cX7_add 38 = .ok (.iconst 1, 1) := by decide +kernel
theorem d_Ta_add_39 : decode cX7_add 39 = .ok (.goto 4, 3) := by decide +kernel
theorem d_Ta_add_42 : decode cX7_add 42 = .ok (.iconst 0, 1) := by decide +kernel
theorem d_Ta_add_43 : decode cX7_add 43 = .ok (.istore 5, 2) := by decide +kernel
theorem d_Ta_add_45 : decode cX7_add 45 = .ok (.iload 5, 2) := by decide +kernel
theorem d_Ta_add_47 : decode cX7_add 47 = .ok (.ifCond .eq 35, 3) := by decide +kernel
theorem d_Ta_add_50 : decode cX7_add 50 = .ok (.aload_n 0, 1) := by decide +kernel
theorem d_Ta_add_51 : decode cX7_add 51 = .ok (.getfield 15, 3) := by decide +kernel
theorem d_Ta_add_54 : decode cX7_add 54 = .ok (.sipush 1000, 3) := by decide +kernel
theorem d_Ta_add_57 : decode cX7_add 57 = .ok (.if_icmp .ge 25, 3) := by decide +kernel
theorem d_Ta_add_60 : decode cX7_add 60 = .ok (.aload_n 0, 1) := by decide +kernel
theorem d_Ta_add_61 : decode cX7_add 61 = .ok (.getfield 11, 3) := by decide +kernel
theorem d_Ta_add_64 : decode cX7_add 64 = .ok (.aload_n 0, 1) := by decide +kernel
theorem d_Ta_add_65 : decode cX7_add 65 = .ok (.getfield 15, 3) := by decide +kernel
theorem d_Ta_add_68 : decode cX7_add 68 = .ok (.iload 4, 2) := by decide +kernel
theorem d_Ta_add_70 : decode cX7_add 70 = .ok (.i2c, 1) := by decide +kernel
theorem d_Ta_add_71 : decode cX7_add 71 = .ok (.castore, 1) := by decide +kernel
theorem d_Ta_add_72 : decode cX7_add 72 = .ok (.aload_n 0, 1) := by decide +kernel
theorem d_Ta_add_73 : decode cX7_add 73 = .ok (.dup, 1) := by decide +kernel
theorem d_Ta_add_74 : decode cX7_add 74 = .ok (.getfield 15, 3) := by decide +kernel
theorem d_Ta_add_77 : decode cX7_add 77 = .ok (.iconst 1, 1) := by decide +kernel
theorem d_Ta_add_78 : decode cX7_add 78 = .ok (.iadd, 1) := by decide +kernel
theorem d_Ta_add_79 : decode cX7_add 79 = .ok (.putfield 15, 3) := by decide +kernel
theorem d_Ta_add_82 : decode cX7_add 82 = .ok (.iinc 3 (-8), 3) := by decide +kernel
theorem d_Ta_add_85 : decode cX7_add 85 = .ok (.goto (-82), 3) := by decide +kernel
theorem d_Ta_add_88 : decode cX7_add 88 = .ok (.return_, 1) := by decide +kernel
noncomputable def f_Ta_add (x1 : Int64) (h : mm_H) : Option mm_H := (mm_while (σ := (Int32 × mm_H)) (ρ := mm_H) (fun s1 => if s1.1 < 0 then (some (Sum.inr s1.2)) else (mm_let ((Int64.toInt32 ((Int64.toUInt64 x1 >>> ((Int32.toInt64 s1.1).toUInt64 &&& Int64.toUInt64 63)).toInt64)) &&& 255) fun y7 => (if y7 = 10 then (some 1) else (if y7 < 32 then (some 0) else (if 126 < y7 then (some 0) else (some 1))) : Option Int32).bind fun j9 => (if j9 = 0 then (some s1.2) else (if 1000 ≤ (s1.2.1 33 1) then (some s1.2) else ((mm_ix (s1.2.1 33 1) 1000).bind fun k22 => mm_let (mm_pI s1.2 34 k22 (Int32.toUInt32 ((Int32.toUInt32 y7 % 65536).toInt32)).toUInt16.toUInt32.toInt32) fun h24 => mm_let (mm_pI h24 33 1 ((h24.1 33 1) + 1)) fun h26 => some h26)) : Option mm_H).bind fun j20 => mm_let (s1.1 + (-8)) fun y34 => some (Sum.inl (y34, j20)))) (56, h)).bind fun v4 => some v4
theorem T_Ta_add (V : mm_V) (l : Launch) (x1 : Int64) (h : mm_H) (r : mm_H) (hf : f_Ta_add x1 h = some r) : MT V l Y_Ta_add 1 [.ref 33, .long x1] (fun r1 h1 => r1 = none ∧ h1 = r) h := by
  unfold f_Ta_add at hf
  refine MT.intro (pn_Ta rfl) [(0, .ref 33), (1, .long x1)] rfl (Nat.le_of_ble_eq_true rfl) ?_
  generalize hZ : mm_Z V _ = Z0
  refine MM.bipush bp_56 d_Ta_add_0 rfl ?_
  refine MM.istore_n (i := 3) (lv' := [(3, .int 56), (0, .ref 33), (1, .long x1)]) rfl rfl (Nat.le_of_ble_eq_true rfl) rfl d_Ta_add_2 rfl ?_
  obtain ⟨v4, e6, hf⟩ := mm_bind hf
  have K5 : MM V l Y_Ta_add 1 0 0 Z0 88 [] [] v4 := by
    obtain rfl := Option.some.inj hf
    subst hZ
    exact MM.vret rfl d_Ta_add_88 ⟨rfl, rfl⟩
  clear hf
  refine MM.sub [1, 2, 0] (by rfl) (mm_while_ind (fun s1 => MM V l Y_Ta_add 1 0 0 Z0 3 [(0, .ref 33), (1, .long x1), (3, .int s1.1)] [] s1.2) e6 (fun s1 q2 hf hx3 => ?_))
  refine MM.iload_n (i := 3) rfl rfl d_Ta_add_3 rfl ?_
  obtain ⟨m39, m40⟩ := mm_ifE hf
  refine MM.if_lt (tgt := 88) d_Ta_add_4 rfl rfl (fun c38 => ?_) (fun c38 => ?_)
  · replace hf := m39 c38
    obtain rfl := Option.some.inj hf
    obtain rfl := Option.some.inj (mm_wxR hx3)
    exact MM.sub [] (by rfl) K5
  · replace hf := m40 c38
    refine MM.lload_n (i := 1) rfl rfl d_Ta_add_7 rfl ?_
    refine MM.iload_n (i := 3) rfl rfl d_Ta_add_8 rfl ?_
    refine MM.lushr d_Ta_add_9 rfl ?_
    refine MM.l2i d_Ta_add_10 rfl ?_
    refine MM.sipush sp_255 d_Ta_add_11 rfl ?_
    refine MM.iand d_Ta_add_14 rfl ?_
    obtain ⟨y7, e8, hf⟩ := mm_letE hf
    refine MM.istore (lv' := [(4, .int y7), (0, .ref 33), (1, .long x1), (3, .int s1.1)]) e8 (Nat.le_of_ble_eq_true rfl) rfl d_Ta_add_15 rfl ?_
    refine MM.iload rfl d_Ta_add_17 rfl ?_
    refine MM.bipush bp_10 d_Ta_add_19 rfl ?_
    obtain ⟨j9, e37, hf⟩ := mm_bind hf
    have K10 : MM V l Y_Ta_add 1 0 0 Z0 43 [(0, .ref 33), (1, .long x1), (3, .int s1.1), (4, .int y7)] [.int j9] s1.2 := by
      refine MM.istore (lv' := [(5, .int j9), (0, .ref 33), (1, .long x1), (3, .int s1.1), (4, .int y7)]) rfl (Nat.le_of_ble_eq_true rfl) rfl d_Ta_add_43 rfl ?_
      refine MM.iload rfl d_Ta_add_45 rfl ?_
      obtain ⟨j20, e36, hf⟩ := mm_bind hf
      have K21 : MM V l Y_Ta_add 1 0 0 Z0 82 [(0, .ref 33), (1, .long x1), (3, .int s1.1)] [] j20 := by
        obtain ⟨y34, e35, hf⟩ := mm_letE hf
        refine MM.iinc (k0 := 2) (lv' := [(3, .int y34), (0, .ref 33), (1, .long x1)]) (by rw [ic_m8]; exact e35) rfl (Nat.le_of_ble_eq_true rfl) rfl d_Ta_add_82 rfl ?_
        refine MM.goto (tgt := 3) d_Ta_add_85 rfl ?_
        obtain rfl := Option.some.inj hf
        have h9 := mm_wxL hx3
        exact MM.sub [1, 2, 0] (by rfl) h9
      clear hf
      have hf := e36
      clear e36
      obtain ⟨m32, m33⟩ := mm_ifE hf
      refine MM.if_eq (tgt := 82) d_Ta_add_47 rfl rfl (fun c31 => ?_) (fun c31 => ?_)
      · replace hf := m32 c31
        obtain rfl := Option.some.inj hf
        exact MM.sub [1, 2, 3] (by rfl) K21
      · replace hf := m33 c31
        refine MM.aload_n (i := 0) rfl rfl d_Ta_add_50 rfl ?_
        refine MM.getI 6 tg_33 lays_6 gq_6_1 ww_152 d_Ta_add_51 rfl ?_
        refine MM.sipush sp_1000 d_Ta_add_54 rfl ?_
        obtain ⟨m29, m30⟩ := mm_ifE hf
        refine MM.icmp_ge (tgt := 82) d_Ta_add_57 rfl rfl (fun c28 => ?_) (fun c28 => ?_)
        · replace hf := m29 c28
          obtain rfl := Option.some.inj hf
          exact MM.sub [1, 2, 3] (by rfl) K21
        · replace hf := m30 c28
          refine MM.aload_n (i := 0) rfl rfl d_Ta_add_60 rfl ?_
          refine MM.gR 6 1 tg_33 rq_6_0 rfl lays_6 ww_151 d_Ta_add_61 rfl ?_
          refine MM.aload_n (i := 0) rfl rfl d_Ta_add_64 rfl ?_
          refine MM.getI 6 tg_33 lays_6 gq_6_1 ww_152 d_Ta_add_65 rfl ?_
          refine MM.iload rfl d_Ta_add_68 rfl ?_
          refine MM.i2c d_Ta_add_70 rfl ?_
          obtain ⟨k22, e23, hf⟩ := mm_bind hf
          obtain ⟨h24, e25, hf⟩ := mm_letE hf
          refine MM.sC e23 e25 al_34 d_Ta_add_71 rfl ?_
          refine MM.aload_n (i := 0) rfl rfl d_Ta_add_72 rfl ?_
          refine MM.dup rfl d_Ta_add_73 rfl ?_
          refine MM.getI 6 tg_33 lays_6 gq_6_1 ww_152 d_Ta_add_74 rfl ?_
          refine MM.iconst ic_1 d_Ta_add_77 rfl ?_
          refine MM.iadd d_Ta_add_78 rfl ?_
          obtain ⟨h26, e27, hf⟩ := mm_letE hf
          refine MM.putI e27 6 tg_33 lays_6 toks_6 pq_6_1 ww_152 d_Ta_add_79 rfl ?_
          obtain rfl := Option.some.inj hf
          exact MM.sub [1, 2, 3] (by rfl) K21
    clear hf
    have hf := e37
    clear e37
    obtain ⟨m18, m19⟩ := mm_ifE hf
    refine MM.icmp_eq (tgt := 38) d_Ta_add_21 rfl rfl (fun c17 => ?_) (fun c17 => ?_)
    · replace hf := m18 c17
      refine MM.iconst ic_1 d_Ta_add_38 rfl ?_
      refine MM.goto (tgt := 43) d_Ta_add_39 rfl ?_
      obtain rfl := Option.some.inj hf
      exact MM.sub [1, 2, 3, 0] (by rfl) K10
    · replace hf := m19 c17
      refine MM.iload rfl d_Ta_add_24 rfl ?_
      refine MM.bipush bp_32 d_Ta_add_26 rfl ?_
      obtain ⟨m15, m16⟩ := mm_ifE hf
      refine MM.icmp_lt (tgt := 42) d_Ta_add_28 rfl rfl (fun c14 => ?_) (fun c14 => ?_)
      · replace hf := m15 c14
        refine MM.iconst ic_0 d_Ta_add_42 rfl ?_
        obtain rfl := Option.some.inj hf
        exact MM.sub [1, 2, 3, 0] (by rfl) K10
      · replace hf := m16 c14
        refine MM.iload rfl d_Ta_add_31 rfl ?_
        refine MM.bipush bp_126 d_Ta_add_33 rfl ?_
        obtain ⟨m12, m13⟩ := mm_ifE hf
        refine MM.icmp_gt (tgt := 42) d_Ta_add_35 rfl rfl (fun c11 => ?_) (fun c11 => ?_)
        · replace hf := m12 c11
          refine MM.iconst ic_0 d_Ta_add_42 rfl ?_
          obtain rfl := Option.some.inj hf
          exact MM.sub [1, 2, 3, 0] (by rfl) K10
        · replace hf := m13 c11
          refine MM.iconst ic_1 d_Ta_add_38 rfl ?_
          refine MM.goto (tgt := 43) d_Ta_add_39 rfl ?_
          obtain rfl := Option.some.inj hf
          exact MM.sub [1, 2, 3, 0] (by rfl) K10
theorem d_X_feed_0 : decode cX11_feed 0 = .ok (.aload_n 0, 1) := by decide +kernel
theorem d_X_feed_1 : decode cX11_feed 1 = .ok (.getfield 12, 3) := by decide +kernel
theorem d_X_feed_4 : decode cX11_feed 4 = .ok (.lload_n 1, 1) := by decide +kernel
theorem d_X_feed_5 : decode cX11_feed 5 = .ok (.invokevirtual 102, 3) := by decide +kernel
theorem d_X_feed_8 : decode cX11_feed 8 = .ok (.aload_n 0, 1) := by decide +kernel
theorem d_X_feed_9 : decode cX11_feed 9 = .ok (.getfield 12, 3) := by decide +kernel
theorem d_X_feed_12 : decode cX11_feed 12 = .ok (.lload_n 3, 1) := by decide +kernel
theorem d_X_feed_13 : decode cX11_feed 13 = .ok (.invokevirtual 102, 3) := by decide +kernel
theorem d_X_feed_16 : decode cX11_feed 16 = .ok (.aload_n 0, 1) := by decide +kernel
theorem d_X_feed_17 : decode cX11_feed 17 = .ok (.getfield 12, 3) := by decide +kernel
theorem d_X_feed_20 : decode cX11_feed 20 = .ok (.lload 5, 2) := by decide +kernel
theorem d_X_feed_22 : decode cX11_feed 22 = .ok (.invokevirtual 102, 3) := by decide +kernel
theorem d_X_feed_25 : decode cX11_feed 25 = .ok (.aload_n 0, 1) := by decide +kernel
theorem d_X_feed_26 : decode cX11_feed 26 = .ok (.getfield 12, 3) := by decide +kernel
theorem d_X_feed_29 : decode cX11_feed 29 = .ok (.getfield 106, 3) := by decide +kernel
theorem d_X_feed_32 : decode cX11_feed 32 = .ok (.ireturn, 1) := by decide +kernel
noncomputable def f_X_feed (x1 : Int64) (x3 : Int64) (x5 : Int64) (h : mm_H) : Option (Int32 × mm_H) := (f_Ta_add x1 h).bind fun v2 => (f_Ta_add x3 v2).bind fun v4 => (f_Ta_add x5 v4).bind fun v6 => some ((v6.1 33 1), v6)
theorem T_X_feed (V : mm_V) (l : Launch) (x1 : Int64) (x3 : Int64) (x5 : Int64) (h : mm_H) (r : (Int32 × mm_H)) (hf : f_X_feed x1 x3 x5 h = some r) : MT V l Y_X_feed 2 [.ref 32, .long x1, .long x3, .long x5] (fun r1 h1 => r1 = some (.int r.1) ∧ h1 = r.2) h := by
  unfold f_X_feed at hf
  refine MT.intro (pn_X rfl) [(0, .ref 32), (1, .long x1), (3, .long x3), (5, .long x5)] rfl (Nat.le_of_ble_eq_true rfl) ?_
  generalize hZ : mm_Z V _ = Z0
  refine MM.aload_n (i := 0) rfl rfl d_X_feed_0 rfl ?_
  refine MM.gR 8 1 tg_32 rq_8_0 rfl lays_8 ww_472 d_X_feed_1 rfl ?_
  refine MM.lload_n (i := 1) rfl rfl d_X_feed_4 rfl ?_
  obtain ⟨v2, e1, hf⟩ := mm_bind hf
  refine MM.callV0 (T_Ta_add V l x1 h _ e1) (fun _ _ q => q) cal_Ta_add rfl tg_33 ct_6 ww_539 ww_538 ww_537 (by decide) (by simp [Value.category]) d_X_feed_5 rfl ⟨rfl, rfl⟩ rfl ?_
  refine MM.aload_n (i := 0) rfl rfl d_X_feed_8 rfl ?_
  refine MM.gR 8 1 tg_32 rq_8_0 rfl lays_8 ww_472 d_X_feed_9 rfl ?_
  refine MM.lload_n (i := 3) rfl rfl d_X_feed_12 rfl ?_
  obtain ⟨v4, e3, hf⟩ := mm_bind hf
  refine MM.callV0 (T_Ta_add V l x3 v2 _ e3) (fun _ _ q => q) cal_Ta_add rfl tg_33 ct_6 ww_539 ww_538 ww_537 (by decide) (by simp [Value.category]) d_X_feed_13 rfl ⟨rfl, rfl⟩ rfl ?_
  refine MM.aload_n (i := 0) rfl rfl d_X_feed_16 rfl ?_
  refine MM.gR 8 1 tg_32 rq_8_0 rfl lays_8 ww_472 d_X_feed_17 rfl ?_
  refine MM.lload rfl d_X_feed_20 rfl ?_
  obtain ⟨v6, e5, hf⟩ := mm_bind hf
  refine MM.callV0 (T_Ta_add V l x5 v4 _ e5) (fun _ _ q => q) cal_Ta_add rfl tg_33 ct_6 ww_539 ww_538 ww_537 (by decide) (by simp [Value.category]) d_X_feed_22 rfl ⟨rfl, rfl⟩ rfl ?_
  refine MM.aload_n (i := 0) rfl rfl d_X_feed_25 rfl ?_
  refine MM.gR 8 1 tg_32 rq_8_0 rfl lays_8 ww_472 d_X_feed_26 rfl ?_
  refine MM.getI 6 tg_33 lays_6 gq_6_1 ww_153 d_X_feed_29 rfl ?_
  obtain rfl := Option.some.inj hf
  subst hZ
  exact MM.iret rfl d_X_feed_32 ⟨rfl, rfl⟩
theorem d_JA_fill_AIIV_0 : decode cJ7_fill_53178 0 = .ok (.iconst 0, 1) := by decide +kernel
theorem d_JA_fill_AIIV_1 : decode cJ7_fill_53178 1 = .ok (.istore_n 2, 1) := by decide +kernel
theorem d_JA_fill_AIIV_2 : decode cJ7_fill_53178 2 = .ok (.aload_n 0, 1) := by decide +kernel
theorem d_JA_fill_AIIV_3 : decode cJ7_fill_53178 3 = .ok (.arraylength, 1) := by decide +kernel
theorem d_JA_fill_AIIV_4 : decode cJ7_fill_53178 4 = .ok (.istore_n 3, 1) := by decide +kernel
theorem d_JA_fill_AIIV_5 : decode cJ7_fill_53178 5 = .ok (.iload_n 2, 1) := by decide +kernel
theorem d_JA_fill_AIIV_6 : decode cJ7_fill_53178 6 = .ok (.iload_n 3, 1) := by decide +kernel
theorem d_JA_fill_AIIV_7 : decode cJ7_fill_53178 7 = .ok (.if_icmp .ge 13, 3) := by decide +kernel
theorem d_JA_fill_AIIV_10 : decode cJ7_fill_53178 10 = .ok (.aload_n 0, 1) := by decide +kernel
theorem d_JA_fill_AIIV_11 : decode cJ7_fill_53178 11 = .ok (.iload_n 2, 1) := by decide +kernel
theorem d_JA_fill_AIIV_12 : decode cJ7_fill_53178 12 = .ok (.iload_n 1, 1) := by decide +kernel
theorem d_JA_fill_AIIV_13 : decode cJ7_fill_53178 13 = .ok (.iastore, 1) := by decide +kernel
theorem d_JA_fill_AIIV_14 : decode cJ7_fill_53178 14 = .ok (.iinc 2 1, 3) := by decide +kernel
theorem d_JA_fill_AIIV_17 : decode cJ7_fill_53178 17 = .ok (.goto (-12), 3) := by decide +kernel
theorem d_JA_fill_AIIV_20 : decode cJ7_fill_53178 20 = .ok (.return_, 1) := by decide +kernel
noncomputable def f_JA_fill_AIIV (a0 : Nat) (x1 : Int32) (h : mm_H) : Option mm_H := if mm_tg a0 = 20 then (mm_let (Int32.ofNat (mm_ln a0)) fun y1 => (mm_while (σ := (Int32 × mm_H)) (ρ := mm_H) (fun s3 => if y1 ≤ s3.1 then (some (Sum.inr s3.2)) else ((mm_ix s3.1 (mm_ln a0)).bind fun k9 => mm_let (mm_pI s3.2 a0 k9 x1) fun h11 => mm_let (s3.1 + 1) fun y13 => some (Sum.inl (y13, h11)))) (0, h)).bind fun v6 => some v6) else none
theorem T_JA_fill_AIIV (V : mm_V) (l : Launch) (a0 : Nat) (x1 : Int32) (h : mm_H) (r : mm_H) (hf : f_JA_fill_AIIV a0 x1 h = some r) : MT V l Y_JA_fill_AIIV 1 [.ref a0, .int x1] (fun r1 h1 => r1 = none ∧ h1 = r) h := by
  unfold f_JA_fill_AIIV at hf
  obtain ⟨t_a0, hf⟩ := mm_chkE hf
  refine MT.intro (pn_JA rfl) [(0, .ref a0), (1, .int x1)] rfl (Nat.le_of_ble_eq_true rfl) ?_
  generalize hZ : mm_Z V _ = Z0
  refine MM.iconst ic_0 d_JA_fill_AIIV_0 rfl ?_
  refine MM.istore_n (i := 2) (lv' := [(2, .int 0), (0, .ref a0), (1, .int x1)]) rfl rfl (Nat.le_of_ble_eq_true rfl) rfl d_JA_fill_AIIV_1 rfl ?_
  refine MM.aload_n (i := 0) rfl rfl d_JA_fill_AIIV_2 rfl ?_
  refine MM.alenN ⟨t_a0, rfl⟩ (by decide) rfl d_JA_fill_AIIV_3 rfl ?_
  obtain ⟨y1, e2, hf⟩ := mm_letE hf
  refine MM.istore_n (i := 3) (lv' := [(3, .int y1), (2, .int 0), (0, .ref a0), (1, .int x1)]) e2 rfl (Nat.le_of_ble_eq_true rfl) rfl d_JA_fill_AIIV_4 rfl ?_
  obtain ⟨v6, e8, hf⟩ := mm_bind hf
  have K7 : MM V l Y_JA_fill_AIIV 1 0 0 Z0 20 [] [] v6 := by
    obtain rfl := Option.some.inj hf
    subst hZ
    exact MM.vret rfl d_JA_fill_AIIV_20 ⟨rfl, rfl⟩
  clear hf
  refine MM.sub [2, 3, 1, 0] (by rfl) (mm_while_ind (fun s3 => MM V l Y_JA_fill_AIIV 1 0 0 Z0 5 [(0, .ref a0), (1, .int x1), (2, .int s3.1), (3, .int y1)] [] s3.2) e8 (fun s3 q4 hf hx5 => ?_))
  refine MM.iload_n (i := 2) rfl rfl d_JA_fill_AIIV_5 rfl ?_
  refine MM.iload_n (i := 3) rfl rfl d_JA_fill_AIIV_6 rfl ?_
  obtain ⟨m16, m17⟩ := mm_ifE hf
  refine MM.icmp_ge (tgt := 20) d_JA_fill_AIIV_7 rfl rfl (fun c15 => ?_) (fun c15 => ?_)
  · replace hf := m16 c15
    obtain rfl := Option.some.inj hf
    obtain rfl := Option.some.inj (mm_wxR hx5)
    exact MM.sub [] (by rfl) K7
  · replace hf := m17 c15
    refine MM.aload_n (i := 0) rfl rfl d_JA_fill_AIIV_10 rfl ?_
    refine MM.iload_n (i := 2) rfl rfl d_JA_fill_AIIV_11 rfl ?_
    refine MM.iload_n (i := 1) rfl rfl d_JA_fill_AIIV_12 rfl ?_
    obtain ⟨k9, e10, hf⟩ := mm_bind hf
    obtain ⟨h11, e12, hf⟩ := mm_letE hf
    refine MM.sI e10 e12 ⟨t_a0, rfl⟩ d_JA_fill_AIIV_13 rfl ?_
    obtain ⟨y13, e14, hf⟩ := mm_letE hf
    refine MM.iinc (k0 := 2) (lv' := [(2, .int y13), (0, .ref a0), (1, .int x1), (3, .int y1)]) (by rw [ic_1]; exact e14) rfl (Nat.le_of_ble_eq_true rfl) rfl d_JA_fill_AIIV_14 rfl ?_
    refine MM.goto (tgt := 5) d_JA_fill_AIIV_17 rfl ?_
    obtain rfl := Option.some.inj hf
    have h9 := mm_wxL hx5
    exact MM.sub [1, 2, 0, 3] (by rfl) h9
theorem d_To_clear_0 : decode cX8_clear 0 = .ok (.aload_n 0, 1) := by decide +kernel
theorem d_To_clear_1 : decode cX8_clear 1 = .ok (.iconst 0, 1) := by decide +kernel
theorem d_To_clear_2 : decode cX8_clear 2 = .ok (.putfield 9, 3) := by decide +kernel
theorem d_To_clear_5 : decode cX8_clear 5 = .ok (.aload_n 0, 1) := by decide +kernel
theorem d_To_clear_6 : decode cX8_clear 6 = .ok (.iconst 0, 1) := by decide +kernel
theorem d_To_clear_7 : decode cX8_clear 7 = .ok (.putfield 29, 3) := by decide +kernel
theorem d_To_clear_10 : decode cX8_clear 10 = .ok (.aload_n 0, 1) := by decide +kernel
theorem d_To_clear_11 : decode cX8_clear 11 = .ok (.iconst 0, 1) := by decide +kernel
theorem d_To_clear_12 : decode cX8_clear 12 = .ok (.putfield 32, 3) := by decide +kernel
theorem d_To_clear_15 : decode cX8_clear 15 = .ok (.aload_n 0, 1) := by decide +kernel
theorem d_To_clear_16 : decode cX8_clear 16 = .ok (.iconst 0, 1) := by decide +kernel
theorem d_To_clear_17 : decode cX8_clear 17 = .ok (.putfield 38, 3) := by decide +kernel
theorem d_To_clear_20 : decode cX8_clear 20 = .ok (.aload_n 0, 1) := by decide +kernel
theorem d_To_clear_21 : decode cX8_clear 21 = .ok (.iconst 0, 1) := by decide +kernel
theorem d_To_clear_22 : decode cX8_clear 22 = .ok (.putfield 53, 3) := by decide +kernel
theorem d_To_clear_25 : decode cX8_clear 25 = .ok (.aload_n 0, 1) := by decide +kernel
theorem d_To_clear_26 : decode cX8_clear 26 = .ok (.iconst 0, 1) := by decide +kernel
theorem d_To_clear_27 : decode cX8_clear 27 = .ok (.putfield 65, 3) := by decide +kernel
theorem d_To_clear_30 : decode cX8_clear 30 = .ok (.aload_n 0, 1) := by decide +kernel
theorem d_To_clear_31 : decode cX8_clear 31 = .ok (.getfield 74, 3) := by decide +kernel
theorem d_To_clear_34 : decode cX8_clear 34 = .ok (.iconst 0, 1) := by decide +kernel
theorem d_To_clear_35 : decode cX8_clear 35 = .ok (.putfield 78, 3) := by decide +kernel
theorem d_To_clear_38 : decode cX8_clear 38 = .ok (.aload_n 0, 1) := by decide +kernel
theorem d_To_clear_39 : decode cX8_clear 39 = .ok (.getfield 62, 3) := by decide +kernel
theorem d_To_clear_42 : decode cX8_clear 42 = .ok (.iconst (-1), 1) := by decide +kernel
theorem d_To_clear_43 : decode cX8_clear 43 = .ok (.invokestatic 81, 3) := by decide +kernel
theorem d_To_clear_46 : decode cX8_clear 46 = .ok (.aload_n 0, 1) := by decide +kernel
theorem d_To_clear_47 : decode cX8_clear 47 = .ok (.getfield 68, 3) := by decide +kernel
theorem d_To_clear_50 : decode cX8_clear 50 = .ok (.iconst 0, 1) := by decide +kernel
theorem d_To_clear_51 : decode cX8_clear 51 = .ok (.invokestatic 81, 3) := by decide +kernel
theorem d_To_clear_54 : decode cX8_clear 54 = .ok (.return_, 1) := by decide +kernel
noncomputable def f_To_clear (a0 : Nat) (h : mm_H) : Option mm_H := if mm_tg a0 = 7 then (mm_let (mm_pI h a0 0 0) fun h1 => mm_let (mm_pI h1 a0 5 0) fun h3 => mm_let (mm_pI h3 a0 6 0) fun h5 => mm_let (mm_pI h5 a0 8 0) fun h7 => mm_let (mm_pI h7 a0 13 0) fun h9 => mm_let (mm_pI h9 a0 17 0) fun h11 => mm_let (mm_pI h11 (a0 + 14) 2 0) fun h13 => (f_JA_fill_AIIV (a0 + 12) (-1) h13).bind fun v16 => (f_JA_fill_AIIV (a0 + 13) 0 v16).bind fun v18 => some v18) else none
theorem T_To_clear (V : mm_V) (l : Launch) (a0 : Nat) (h : mm_H) (r : mm_H) (hf : f_To_clear a0 h = some r) : MT V l Y_To_clear 2 [.ref a0] (fun r1 h1 => r1 = none ∧ h1 = r) h := by
  unfold f_To_clear at hf
  obtain ⟨t_a0, hf⟩ := mm_chkE hf
  refine MT.intro (pn_To rfl) [(0, .ref a0)] rfl (Nat.le_of_ble_eq_true rfl) ?_
  generalize hZ : mm_Z V _ = Z0
  refine MM.aload_n (i := 0) rfl rfl d_To_clear_0 rfl ?_
  refine MM.iconst ic_0 d_To_clear_1 rfl ?_
  obtain ⟨h1, e2, hf⟩ := mm_letE hf
  refine MM.putI e2 7 t_a0 lays_7 toks_7 pq_7_0 ww_363 d_To_clear_2 rfl ?_
  refine MM.aload_n (i := 0) rfl rfl d_To_clear_5 rfl ?_
  refine MM.iconst ic_0 d_To_clear_6 rfl ?_
  obtain ⟨h3, e4, hf⟩ := mm_letE hf
  refine MM.putI e4 7 t_a0 lays_7 toks_7 pq_7_5 ww_383 d_To_clear_7 rfl ?_
  refine MM.aload_n (i := 0) rfl rfl d_To_clear_10 rfl ?_
  refine MM.iconst ic_0 d_To_clear_11 rfl ?_
  obtain ⟨h5, e6, hf⟩ := mm_letE hf
  refine MM.putI e6 7 t_a0 lays_7 toks_7 pq_7_6 ww_385 d_To_clear_12 rfl ?_
  refine MM.aload_n (i := 0) rfl rfl d_To_clear_15 rfl ?_
  refine MM.iconst ic_0 d_To_clear_16 rfl ?_
  obtain ⟨h7, e8, hf⟩ := mm_letE hf
  refine MM.putI e8 7 t_a0 lays_7 toks_7 pq_7_8 ww_392 d_To_clear_17 rfl ?_
  refine MM.aload_n (i := 0) rfl rfl d_To_clear_20 rfl ?_
  refine MM.iconst ic_0 d_To_clear_21 rfl ?_
  obtain ⟨h9, e10, hf⟩ := mm_letE hf
  refine MM.putI e10 7 t_a0 lays_7 toks_7 pq_7_13 ww_411 d_To_clear_22 rfl ?_
  refine MM.aload_n (i := 0) rfl rfl d_To_clear_25 rfl ?_
  refine MM.iconst ic_0 d_To_clear_26 rfl ?_
  obtain ⟨h11, e12, hf⟩ := mm_letE hf
  refine MM.putI e12 7 t_a0 lays_7 toks_7 pq_7_17 ww_422 d_To_clear_27 rfl ?_
  refine MM.aload_n (i := 0) rfl rfl d_To_clear_30 rfl ?_
  refine MM.gR 7 14 t_a0 rq_7_19 rfl lays_7 ww_428 d_To_clear_31 rfl ?_
  refine MM.iconst ic_0 d_To_clear_34 rfl ?_
  obtain ⟨h13, e14, hf⟩ := mm_letE hf
  refine MM.putI e14 2 (tg_7_19f t_a0) lays_2 toks_2 pq_2_2 ww_353 d_To_clear_35 rfl ?_
  refine MM.aload_n (i := 0) rfl rfl d_To_clear_38 rfl ?_
  refine MM.gR 7 12 t_a0 rq_7_16 rfl lays_7 ww_420 d_To_clear_39 rfl ?_
  refine MM.iconst ic_m1 d_To_clear_42 rfl ?_
  obtain ⟨v16, e15, hf⟩ := mm_bind hf
  refine MM.callS0 (T_JA_fill_AIIV V l (a0 + 12) (-1) h13 _ e15) (fun _ _ q => q) cal_JA_fill_AIIV rfl ww_553 ww_552 (by decide) (by simp [Value.category]) d_To_clear_43 rfl ⟨rfl, rfl⟩ rfl ?_
  refine MM.aload_n (i := 0) rfl rfl d_To_clear_46 rfl ?_
  refine MM.gR 7 13 t_a0 rq_7_18 rfl lays_7 ww_425 d_To_clear_47 rfl ?_
  refine MM.iconst ic_0 d_To_clear_50 rfl ?_
  obtain ⟨v18, e17, hf⟩ := mm_bind hf
  refine MM.callS0 (T_JA_fill_AIIV V l (a0 + 13) 0 v16 _ e17) (fun _ _ q => q) cal_JA_fill_AIIV rfl ww_553 ww_552 (by decide) (by simp [Value.category]) d_To_clear_51 rfl ⟨rfl, rfl⟩ rfl ?_
  obtain rfl := Option.some.inj hf
  subst hZ
  exact MM.vret rfl d_To_clear_54 ⟨rfl, rfl⟩
theorem d_Ta_scanWord_0 : decode cX7_scanWord 0 = .ok (.aload_n 0, 1) := by decide +kernel
theorem d_Ta_scanWord_1 : decode cX7_scanWord 1 = .ok (.lconst 0, 1) := by decide +kernel
theorem d_Ta_scanWord_2 : decode cX7_scanWord 2 = .ok (.putfield 31, 3) := by decide +kernel
theorem d_Ta_scanWord_5 : decode cX7_scanWord 5 = .ok (.aload_n 0, 1) := by decide +kernel
theorem d_Ta_scanWord_6 : decode cX7_scanWord 6 = .ok (.getfield 19, 3) := by decide +kernel
theorem d_Ta_scanWord_9 : decode cX7_scanWord 9 = .ok (.aload_n 0, 1) := by decide +kernel
theorem d_Ta_scanWord_10 : decode cX7_scanWord 10 = .ok (.getfield 15, 3) := by decide +kernel
theorem d_Ta_scanWord_13 : decode cX7_scanWord 13 = .ok (.if_icmp .ge 72, 3) := by decide +kernel
theorem d_Ta_scanWord_16 : decode cX7_scanWord 16 = .ok (.aload_n 0, 1) := by decide +kernel
theorem d_Ta_scanWord_17 : decode cX7_scanWord 17 = .ok (.getfield 11, 3) := by decide +kernel
theorem d_Ta_scanWord_20 : decode cX7_scanWord 20 = .ok (.aload_n 0, 1) := by decide +kernel
theorem d_Ta_scanWord_21 : decode cX7_scanWord 21 = .ok (.getfield 19, 3) := by decide +kernel
theorem d_Ta_scanWord_24 : decode cX7_scanWord 24 = .ok (.caload, 1) := by decide +kernel
theorem d_Ta_scanWord_25 : decode cX7_scanWord 25 = .ok (.bipush 97, 2) := by decide +kernel
theorem d_Ta_scanWord_27 : decode cX7_scanWord 27 = .ok (.if_icmp .lt 58, 3) := by decide +kernel
theorem d_Ta_scanWord_30 : decode cX7_scanWord 30 = .ok (.aload_n 0, 1) := by decide +kernel
theorem d_Ta_scanWord_31 : decode cX7_scanWord 31 = .ok (.getfield 11, 3) := by decide +kernel
theorem d_Ta_scanWord_34 : decode cX7_scanWord 34 = .ok (.aload_n 0, 1) := by decide +kernel
theorem d_Ta_scanWord_35 : decode cX7_scanWord 35 = .ok (.getfield 19, 3) := by decide +kernel
theorem d_Ta_scanWord_38 : decode cX7_scanWord 38 = .ok (.caload, 1) := by decide +kernel
theorem d_Ta_scanWord_39 : decode cX7_scanWord 39 = .ok (.bipush 122, 2) := by decide +kernel
theorem d_Ta_scanWord_41 : decode cX7_scanWord 41 = .ok (.if_icmp .gt 44, 3) := by decide +kernel
theorem d_Ta_scanWord_44 : decode cX7_scanWord 44 = .ok (.aload_n 0, 1) := by decide +kernel
theorem d_Ta_scanWord_45 : decode cX7_scanWord 45 = .ok (.aload_n 0, 1) := by decide +kernel
theorem d_Ta_scanWord_46 : decode cX7_scanWord 46 = .ok (.getfield 31, 3) := by decide +kernel
theorem d_Ta_scanWord_49 : decode cX7_scanWord 49 = .ok (.ldc2_w 63, 3) := by decide +kernel
theorem d_Ta_scanWord_52 : decode cX7_scanWord 52 = .ok (.lmul, 1) := by decide +kernel
theorem d_Ta_scanWord_53 : decode cX7_scanWord 53 = .ok (.aload_n 0, 1) := by decide +kernel
theorem d_Ta_scanWord_54 : decode cX7_scanWord 54 = .ok (.getfield 11, 3) := by decide +kernel
theorem d_Ta_scanWord_57 : decode cX7_scanWord 57 = .ok (.aload_n 0, 1) := by decide +kernel
theorem d_Ta_scanWord_58 : decode cX7_scanWord 58 = .ok (.getfield 19, 3) := by decide +kernel
theorem d_Ta_scanWord_61 : decode cX7_scanWord 61 = .ok (.caload, 1) := by decide +kernel
theorem d_Ta_scanWord_62 : decode cX7_scanWord 62 = .ok (.bipush 97, 2) := by decide +kernel
theorem d_Ta_scanWord_64 : decode cX7_scanWord 64 = .ok (.isub, 1) := by decide +kernel
theorem d_Ta_scanWord_65 : decode cX7_scanWord 65 = .ok (.iconst 1, 1) := by decide +kernel
theorem d_Ta_scanWord_66 : decode cX7_scanWord 66 = .ok (.iadd, 1) := by decide +kernel
theorem d_Ta_scanWord_67 : decode cX7_scanWord 67 = .ok (.i2l, 1) := by decide +kernel
theorem d_Ta_scanWord_68 : decode cX7_scanWord 68 = .ok (.ladd, 1) := by decide +kernel
theorem d_Ta_scanWord_69 : decode cX7_scanWord 69 = .ok (.putfield 31, 3) := by decide +kernel
theorem d_Ta_scanWord_72 : decode cX7_scanWord 72 = .ok (.aload_n 0, 1) := by decide +kernel
theorem d_Ta_scanWord_73 : decode cX7_scanWord 73 = .ok (.dup, 1) := by decide +kernel
theorem d_Ta_scanWord_74 : decode cX7_scanWord 74 = .ok (.getfield 19, 3) := by decide +kernel
theorem d_Ta_scanWord_77 : decode cX7_scanWord 77 = .ok (.iconst 1, 1) := by decide +kernel
theorem d_Ta_scanWord_78 : decode cX7_scanWord 78 = .ok (.iadd, 1) := by decide +kernel
theorem d_Ta_scanWord_79 : decode cX7_scanWord 79 = .ok (.putfield 19, 3) := by decide +kernel
theorem d_Ta_scanWord_82 : decode cX7_scanWord 82 = .ok (.goto (-77), 3) := by decide +kernel
theorem d_Ta_scanWord_85 : decode cX7_scanWord 85 = .ok (.aload_n 0, 1) := by decide +kernel
theorem d_Ta_scanWord_86 : decode cX7_scanWord 86 = .ok (.aload_n 0, 1) := by decide +kernel
theorem d_Ta_scanWord_87 : decode cX7_scanWord 87 = .ok (.getfield 19, 3) := by decide +kernel
theorem d_Ta_scanWord_90 : decode cX7_scanWord 90 = .ok (.aload_n 0, 1) := by decide +kernel
theorem d_Ta_scanWord_91 : decode cX7_scanWord 91 = .ok (.getfield 22, 3) := by decide +kernel
theorem d_Ta_scanWord_94 : decode cX7_scanWord 94 = .ok (.isub, 1) := by decide +kernel
theorem d_Ta_scanWord_95 : decode cX7_scanWord 95 = .ok (.bipush 8, 2) := by decide +kernel
theorem d_Ta_scanWord_97 : decode cX7_scanWord 97 = .ok (.if_icmp .le 7, 3) := by decide +kernel
theorem d_Ta_scanWord_100 : decode cX7_scanWord 100 = .ok (.iconst 0, 1) := by decide +kernel
theorem d_Ta_scanWord_101 : decode cX7_scanWord 101 = .ok (.goto 4, 3) := by decide +kernel
theorem d_Ta_scanWord_104 : decode cX7_scanWord 104 = .ok (.iconst 2, 1) := by decide +kernel
theorem d_Ta_scanWord_105 : decode cX7_scanWord 105 = .ok (.putfield 25, 3) := by decide +kernel
theorem d_Ta_scanWord_108 : decode cX7_scanWord 108 = .ok (.iconst 0, 1) := by decide +kernel
theorem d_Ta_scanWord_109 : decode cX7_scanWord 109 = .ok (.istore_n 1, 1) := by decide +kernel
theorem d_Ta_scanWord_110 : decode cX7_scanWord 110 = .ok (.iload_n 1, 1) := by decide +kernel
theorem d_Ta_scanWord_111 : decode cX7_scanWord 111 = .ok (.getstatic 65, 3) := by decide +kernel
theorem d_Ta_scanWord_114 : decode cX7_scanWord 114 = .ok (.arraylength, 1) := by decide +kernel
theorem d_Ta_scanWord_115 : decode cX7_scanWord 115 = .ok (.if_icmp .ge 42, 3) := by decide +kernel
theorem d_Ta_scanWord_118 : decode cX7_scanWord 118 = .ok (.aload_n 0, 1) := by decide +kernel
theorem d_Ta_scanWord_119 : decode cX7_scanWord 119 = .ok (.getfield 25, 3) := by decide +kernel
theorem d_Ta_scanWord_122 : decode cX7_scanWord 122 = .ok (.iconst 2, 1) := by decide +kernel
theorem d_Ta_scanWord_123 : decode cX7_scanWord 123 = .ok (.if_icmp .ne 34, 3) := by decide +kernel
theorem d_Ta_scanWord_126 : decode cX7_scanWord 126 = .ok (.getstatic 65, 3) := by decide +kernel
theorem d_Ta_scanWord_129 : decode cX7_scanWord 129 = .ok (.iload_n 1, 1) := by decide +kernel
theorem d_Ta_scanWord_130 : decode cX7_scanWord 130 = .ok (.aaload, 1) := by decide +kernel
theorem d_Ta_scanWord_131 : decode cX7_scanWord 131 = .ok (.getfield 69, 3) := by decide +kernel
theorem d_Ta_scanWord_134 : decode cX7_scanWord 134 = .ok (.aload_n 0, 1) := by decide +kernel
theorem d_Ta_scanWord_135 : decode cX7_scanWord 135 = .ok (.getfield 31, 3) := by decide +kernel
theorem d_Ta_scanWord_138 : decode cX7_scanWord 138 = .ok (.lcmp, 1) := by decide +kernel
theorem d_Ta_scanWord_139 : decode cX7_scanWord 139 = .ok (.ifCond .ne 12, 3) := by decide +kernel
theorem d_Ta_scanWord_142 : decode cX7_scanWord 142 = .ok (.aload_n 0, 1) := by decide +kernel
theorem d_Ta_scanWord_143 : decode cX7_scanWord 143 = .ok (.getstatic 65, 3) := by decide +kernel
theorem d_Ta_scanWord_146 : decode cX7_scanWord 146 = .ok (.iload_n 1, 1) := by decide +kernel
theorem d_Ta_scanWord_147 : decode cX7_scanWord 147 = .ok (.aaload, 1) := by decide +kernel
theorem d_Ta_scanWord_148 : decode cX7_scanWord 148 = .ok (.putfield 35, 3) := by decide +kernel
theorem d_Ta_scanWord_151 : decode cX7_scanWord 151 = .ok (.iinc 1 1, 3) := by decide +kernel
theorem d_Ta_scanWord_154 : decode cX7_scanWord 154 = .ok (.goto (-44), 3) := by decide +kernel
theorem d_Ta_scanWord_157 : decode cX7_scanWord 157 = .ok (.return_, 1) := by decide +kernel
noncomputable def f_Ta_scanWord (h : mm_H) : Option mm_H := mm_let (mm_pL h 33 6 0) fun h1 => (mm_while (σ := mm_H) (ρ := mm_H) (fun s3 => if (s3.1 33 1) ≤ (s3.1 33 2) then (some (Sum.inr s3)) else ((mm_ix (s3.1 33 2) 1000).bind fun k9 => if (s3.1 34 k9) < 97 then (some (Sum.inr s3)) else ((mm_ix (s3.1 33 2) 1000).bind fun k11 => if 122 < (s3.1 34 k11) then (some (Sum.inr s3)) else ((mm_ix (s3.1 33 2) 1000).bind fun k13 => mm_let (mm_pL s3 33 6 (((s3.2.1 33 6) * 32) + (Int32.toInt64 (((s3.1 34 k13) - 97) + 1)))) fun h15 => mm_let (mm_pI h15 33 2 ((h15.1 33 2) + 1)) fun h17 => some (Sum.inl h17))))) h1).bind fun v6 => (if ((v6.1 33 2) - (v6.1 33 3)) ≤ 8 then (some 2) else (some 0) : Option Int32).bind fun j28 => mm_let (mm_pI v6 33 4 j28) fun h33 => (mm_while (σ := (Int32 × mm_H)) (ρ := mm_H) (fun s35 => if 28 ≤ s35.1 then (some (Sum.inr s35.2)) else (if (s35.2.1 33 4) = 2 then ((mm_ix s35.1 28).bind fun k41 => (if (lg_cmp (mm_wc k41) (s35.2.2.1 33 6)) = 0 then ((mm_ix s35.1 28).bind fun k46 => mm_let (mm_pR s35.2 33 7 (some k46)) fun h49 => some h49) else (some s35.2) : Option mm_H).bind fun j44 => mm_let (s35.1 + 1) fun y54 => some (Sum.inl (y54, j44))) else (some (Sum.inr s35.2)))) (0, h33)).bind fun v38 => some v38
theorem T_Ta_scanWord (V : mm_V) (l : Launch) (h : mm_H) (r : mm_H) (hf : f_Ta_scanWord h = some r) : MT V l Y_Ta_scanWord 1 [.ref 33] (fun r1 h1 => r1 = none ∧ h1 = r) h := by
  unfold f_Ta_scanWord at hf
  refine MT.intro (pn_Ta rfl) [(0, .ref 33)] rfl (Nat.le_of_ble_eq_true rfl) ?_
  generalize hZ : mm_Z V _ = Z0
  refine MM.aload_n (i := 0) rfl rfl d_Ta_scanWord_0 rfl ?_
  refine MM.lconst (v := 0) rfl d_Ta_scanWord_1 rfl ?_
  obtain ⟨h1, e2, hf⟩ := mm_letE hf
  refine MM.putL e2 6 tg_33 lays_6 toks_6 pq_6_6 ww_162 d_Ta_scanWord_2 rfl ?_
  obtain ⟨v6, e8, hf⟩ := mm_bind hf
  have K7 : MM V l Y_Ta_scanWord 1 0 0 Z0 85 [(0, .ref 33)] [] v6 := by
    refine MM.aload_n (i := 0) rfl rfl d_Ta_scanWord_85 rfl ?_
    refine MM.aload_n (i := 0) rfl rfl d_Ta_scanWord_86 rfl ?_
    refine MM.getI 6 tg_33 lays_6 gq_6_2 ww_154 d_Ta_scanWord_87 rfl ?_
    refine MM.aload_n (i := 0) rfl rfl d_Ta_scanWord_90 rfl ?_
    refine MM.getI 6 tg_33 lays_6 gq_6_3 ww_155 d_Ta_scanWord_91 rfl ?_
    refine MM.isub d_Ta_scanWord_94 rfl ?_
    refine MM.bipush bp_8 d_Ta_scanWord_95 rfl ?_
    obtain ⟨j28, e63, hf⟩ := mm_bind hf
    have K29 : MM V l Y_Ta_scanWord 1 0 0 Z0 105 [(0, .ref 33)] [.int j28, .ref 33] v6 := by
      obtain ⟨h33, e34, hf⟩ := mm_letE hf
      refine MM.putI e34 6 tg_33 lays_6 toks_6 pq_6_4 ww_156 d_Ta_scanWord_105 rfl ?_
      refine MM.iconst ic_0 d_Ta_scanWord_108 rfl ?_
      refine MM.istore_n (i := 1) (lv' := [(1, .int 0), (0, .ref 33)]) rfl rfl (Nat.le_of_ble_eq_true rfl) rfl d_Ta_scanWord_109 rfl ?_
      obtain ⟨v38, e40, hf⟩ := mm_bind hf
      have K39 : MM V l Y_Ta_scanWord 1 0 0 Z0 157 [] [] v38 := by
        obtain rfl := Option.some.inj hf
        subst hZ
        exact MM.vret rfl d_Ta_scanWord_157 ⟨rfl, rfl⟩
      clear hf
      refine MM.sub [1, 0] (by rfl) (mm_while_ind (fun s35 => MM V l Y_Ta_scanWord 1 0 0 Z0 110 [(0, .ref 33), (1, .int s35.1)] [] s35.2) e40 (fun s35 q36 hf hx37 => ?_))
      refine MM.iload_n (i := 1) rfl rfl d_Ta_scanWord_110 rfl ?_
      refine MM.words ww_568n d_Ta_scanWord_111 rfl ?_
      refine MM.wlen d_Ta_scanWord_114 rfl ?_
      obtain ⟨m61, m62⟩ := mm_ifE hf
      refine MM.icmp_ge (tgt := 157) d_Ta_scanWord_115 rfl rfl (fun c60 => ?_) (fun c60 => ?_)
      · replace hf := m61 c60
        obtain rfl := Option.some.inj hf
        obtain rfl := Option.some.inj (mm_wxR hx37)
        exact MM.sub [] (by rfl) K39
      · replace hf := m62 c60
        refine MM.aload_n (i := 0) rfl rfl d_Ta_scanWord_118 rfl ?_
        refine MM.getI 6 tg_33 lays_6 gq_6_4 ww_156 d_Ta_scanWord_119 rfl ?_
        refine MM.iconst ic_2 d_Ta_scanWord_122 rfl ?_
        obtain ⟨m58, m59⟩ := mm_ifE hf
        refine MM.icmp_ne (tgt := 157) d_Ta_scanWord_123 rfl rfl (fun c57 => ?_) (fun c57 => ?_)
        · replace hf := m59 c57
          obtain rfl := Option.some.inj hf
          obtain rfl := Option.some.inj (mm_wxR hx37)
          exact MM.sub [] (by rfl) K39
        · replace hf := m58 c57
          refine MM.words ww_568n d_Ta_scanWord_126 rfl ?_
          refine MM.iload_n (i := 1) rfl rfl d_Ta_scanWord_129 rfl ?_
          obtain ⟨k41, e42, hf⟩ := mm_bind hf
          refine MM.gWS e42 d_Ta_scanWord_130 rfl (fun l43 => ?_)
          refine MM.wcode l43 ww_2047 d_Ta_scanWord_131 rfl ?_
          refine MM.aload_n (i := 0) rfl rfl d_Ta_scanWord_134 rfl ?_
          refine MM.getL 6 tg_33 lays_6 gq_6_6 ww_162 d_Ta_scanWord_135 rfl ?_
          refine MM.lcmp d_Ta_scanWord_138 rfl ?_
          obtain ⟨j44, e56, hf⟩ := mm_bind hf
          have K45 : MM V l Y_Ta_scanWord 1 0 0 Z0 151 [(0, .ref 33), (1, .int s35.1)] [] j44 := by
            obtain ⟨y54, e55, hf⟩ := mm_letE hf
            refine MM.iinc (k0 := 1) (lv' := [(1, .int y54), (0, .ref 33)]) (by rw [ic_1]; exact e55) rfl (Nat.le_of_ble_eq_true rfl) rfl d_Ta_scanWord_151 rfl ?_
            refine MM.goto (tgt := 110) d_Ta_scanWord_154 rfl ?_
            obtain rfl := Option.some.inj hf
            have h9 := mm_wxL hx37
            exact MM.sub [1, 0] (by rfl) h9
          clear hf
          have hf := e56
          clear e56
          obtain ⟨m52, m53⟩ := mm_ifE hf
          refine MM.if_ne (tgt := 151) d_Ta_scanWord_139 rfl rfl (fun c51 => ?_) (fun c51 => ?_)
          · replace hf := m53 c51
            obtain rfl := Option.some.inj hf
            exact MM.sub [0, 1] (by rfl) K45
          · replace hf := m52 c51
            refine MM.aload_n (i := 0) rfl rfl d_Ta_scanWord_142 rfl ?_
            refine MM.words ww_568n d_Ta_scanWord_143 rfl ?_
            refine MM.iload_n (i := 1) rfl rfl d_Ta_scanWord_146 rfl ?_
            obtain ⟨k46, e47, hf⟩ := mm_bind hf
            refine MM.gWS e47 d_Ta_scanWord_147 rfl (fun l48 => ?_)
            obtain ⟨h49, e50, hf⟩ := mm_letE hf
            refine MM.putW e50 6 tg_33 lays_6 toks_6 pq_6_7 ww_165 d_Ta_scanWord_148 rfl ?_
            obtain rfl := Option.some.inj hf
            exact MM.sub [0, 1] (by rfl) K45
    clear hf
    have hf := e63
    clear e63
    obtain ⟨m31, m32⟩ := mm_ifE hf
    refine MM.icmp_le (tgt := 104) d_Ta_scanWord_97 rfl rfl (fun c30 => ?_) (fun c30 => ?_)
    · replace hf := m31 c30
      refine MM.iconst ic_2 d_Ta_scanWord_104 rfl ?_
      obtain rfl := Option.some.inj hf
      exact MM.sub [0] (by rfl) K29
    · replace hf := m32 c30
      refine MM.iconst ic_0 d_Ta_scanWord_100 rfl ?_
      refine MM.goto (tgt := 105) d_Ta_scanWord_101 rfl ?_
      obtain rfl := Option.some.inj hf
      exact MM.sub [0] (by rfl) K29
  clear hf
  refine MM.sub [0] (by rfl) (mm_while_ind (fun s3 => MM V l Y_Ta_scanWord 1 0 0 Z0 5 [(0, .ref 33)] [] s3) e8 (fun s3 q4 hf hx5 => ?_))
  refine MM.aload_n (i := 0) rfl rfl d_Ta_scanWord_5 rfl ?_
  refine MM.getI 6 tg_33 lays_6 gq_6_2 ww_154 d_Ta_scanWord_6 rfl ?_
  refine MM.aload_n (i := 0) rfl rfl d_Ta_scanWord_9 rfl ?_
  refine MM.getI 6 tg_33 lays_6 gq_6_1 ww_152 d_Ta_scanWord_10 rfl ?_
  obtain ⟨m26, m27⟩ := mm_ifE hf
  refine MM.icmp_ge (tgt := 85) d_Ta_scanWord_13 rfl rfl (fun c25 => ?_) (fun c25 => ?_)
  · replace hf := m26 c25
    obtain rfl := Option.some.inj hf
    obtain rfl := Option.some.inj (mm_wxR hx5)
    exact MM.sub [0] (by rfl) K7
  · replace hf := m27 c25
    refine MM.aload_n (i := 0) rfl rfl d_Ta_scanWord_16 rfl ?_
    refine MM.gR 6 1 tg_33 rq_6_0 rfl lays_6 ww_151 d_Ta_scanWord_17 rfl ?_
    refine MM.aload_n (i := 0) rfl rfl d_Ta_scanWord_20 rfl ?_
    refine MM.getI 6 tg_33 lays_6 gq_6_2 ww_154 d_Ta_scanWord_21 rfl ?_
    obtain ⟨k9, e10, hf⟩ := mm_bind hf
    refine MM.gC e10 al_34 d_Ta_scanWord_24 rfl ?_
    refine MM.bipush bp_97 d_Ta_scanWord_25 rfl ?_
    obtain ⟨m23, m24⟩ := mm_ifE hf
    refine MM.icmp_lt (tgt := 85) d_Ta_scanWord_27 rfl rfl (fun c22 => ?_) (fun c22 => ?_)
    · replace hf := m23 c22
      obtain rfl := Option.some.inj hf
      obtain rfl := Option.some.inj (mm_wxR hx5)
      exact MM.sub [0] (by rfl) K7
    · replace hf := m24 c22
      refine MM.aload_n (i := 0) rfl rfl d_Ta_scanWord_30 rfl ?_
      refine MM.gR 6 1 tg_33 rq_6_0 rfl lays_6 ww_151 d_Ta_scanWord_31 rfl ?_
      refine MM.aload_n (i := 0) rfl rfl d_Ta_scanWord_34 rfl ?_
      refine MM.getI 6 tg_33 lays_6 gq_6_2 ww_154 d_Ta_scanWord_35 rfl ?_
      obtain ⟨k11, e12, hf⟩ := mm_bind hf
      refine MM.gC e12 al_34 d_Ta_scanWord_38 rfl ?_
      refine MM.bipush bp_122 d_Ta_scanWord_39 rfl ?_
      obtain ⟨m20, m21⟩ := mm_ifE hf
      refine MM.icmp_gt (tgt := 85) d_Ta_scanWord_41 rfl rfl (fun c19 => ?_) (fun c19 => ?_)
      · replace hf := m20 c19
        obtain rfl := Option.some.inj hf
        obtain rfl := Option.some.inj (mm_wxR hx5)
        exact MM.sub [0] (by rfl) K7
      · replace hf := m21 c19
        refine MM.aload_n (i := 0) rfl rfl d_Ta_scanWord_44 rfl ?_
        refine MM.aload_n (i := 0) rfl rfl d_Ta_scanWord_45 rfl ?_
        refine MM.getL 6 tg_33 lays_6 gq_6_6 ww_162 d_Ta_scanWord_46 rfl ?_
        refine MM.ldc2 ww_567 d_Ta_scanWord_49 rfl ?_
        refine MM.lmul d_Ta_scanWord_52 rfl ?_
        refine MM.aload_n (i := 0) rfl rfl d_Ta_scanWord_53 rfl ?_
        refine MM.gR 6 1 tg_33 rq_6_0 rfl lays_6 ww_151 d_Ta_scanWord_54 rfl ?_
        refine MM.aload_n (i := 0) rfl rfl d_Ta_scanWord_57 rfl ?_
        refine MM.getI 6 tg_33 lays_6 gq_6_2 ww_154 d_Ta_scanWord_58 rfl ?_
        obtain ⟨k13, e14, hf⟩ := mm_bind hf
        refine MM.gC e14 al_34 d_Ta_scanWord_61 rfl ?_
        refine MM.bipush bp_97 d_Ta_scanWord_62 rfl ?_
        refine MM.isub d_Ta_scanWord_64 rfl ?_
        refine MM.iconst ic_1 d_Ta_scanWord_65 rfl ?_
        refine MM.iadd d_Ta_scanWord_66 rfl ?_
        refine MM.i2l d_Ta_scanWord_67 rfl ?_
        refine MM.ladd d_Ta_scanWord_68 rfl ?_
        obtain ⟨h15, e16, hf⟩ := mm_letE hf
        refine MM.putL e16 6 tg_33 lays_6 toks_6 pq_6_6 ww_162 d_Ta_scanWord_69 rfl ?_
        refine MM.aload_n (i := 0) rfl rfl d_Ta_scanWord_72 rfl ?_
        refine MM.dup rfl d_Ta_scanWord_73 rfl ?_
        refine MM.getI 6 tg_33 lays_6 gq_6_2 ww_154 d_Ta_scanWord_74 rfl ?_
        refine MM.iconst ic_1 d_Ta_scanWord_77 rfl ?_
        refine MM.iadd d_Ta_scanWord_78 rfl ?_
        obtain ⟨h17, e18, hf⟩ := mm_letE hf
        refine MM.putI e18 6 tg_33 lays_6 toks_6 pq_6_2 ww_154 d_Ta_scanWord_79 rfl ?_
        refine MM.goto (tgt := 5) d_Ta_scanWord_82 rfl ?_
        obtain rfl := Option.some.inj hf
        have h9 := mm_wxL hx5
        exact MM.sub [0] (by rfl) h9
theorem d_Ta_scanNumber_0 : decode cX7_scanNumber 0 = .ok (.aload_n 0, 1) := by decide +kernel
theorem d_Ta_scanNumber_1 : decode cX7_scanNumber 1 = .ok (.iconst 0, 1) := by decide +kernel
theorem d_Ta_scanNumber_2 : decode cX7_scanNumber 2 = .ok (.putfield 28, 3) := by decide +kernel
theorem d_Ta_scanNumber_5 : decode cX7_scanNumber 5 = .ok (.aload_n 0, 1) := by decide +kernel
theorem d_Ta_scanNumber_6 : decode cX7_scanNumber 6 = .ok (.getfield 19, 3) := by decide +kernel
theorem d_Ta_scanNumber_9 : decode cX7_scanNumber 9 = .ok (.aload_n 0, 1) := by decide +kernel
theorem d_Ta_scanNumber_10 : decode cX7_scanNumber 10 = .ok (.getfield 15, 3) := by decide +kernel
theorem d_Ta_scanNumber_13 : decode cX7_scanNumber 13 = .ok (.if_icmp .ge 68, 3) := by decide +kernel
theorem d_Ta_scanNumber_16 : decode cX7_scanNumber 16 = .ok (.aload_n 0, 1) := by decide +kernel
theorem d_Ta_scanNumber_17 : decode cX7_scanNumber 17 = .ok (.getfield 11, 3) := by decide +kernel
theorem d_Ta_scanNumber_20 : decode cX7_scanNumber 20 = .ok (.aload_n 0, 1) := by decide +kernel
theorem d_Ta_scanNumber_21 : decode cX7_scanNumber 21 = .ok (.getfield 19, 3) := by decide +kernel
theorem d_Ta_scanNumber_24 : decode cX7_scanNumber 24 = .ok (.caload, 1) := by decide +kernel
theorem d_Ta_scanNumber_25 : decode cX7_scanNumber 25 = .ok (.bipush 48, 2) := by decide +kernel
theorem d_Ta_scanNumber_27 : decode cX7_scanNumber 27 = .ok (.if_icmp .lt 54, 3) := by decide +kernel
theorem d_Ta_scanNumber_30 : decode cX7_scanNumber 30 = .ok (.aload_n 0, 1) := by decide +kernel
theorem d_Ta_scanNumber_31 : decode cX7_scanNumber 31 = .ok (.getfield 11, 3) := by decide +kernel
theorem d_Ta_scanNumber_34 : decode cX7_scanNumber 34 = .ok (.aload_n 0, 1) := by decide +kernel
theorem d_Ta_scanNumber_35 : decode cX7_scanNumber 35 = .ok (.getfield 19, 3) := by decide +kernel
theorem d_Ta_scanNumber_38 : decode cX7_scanNumber 38 = .ok (.caload, 1) := by decide +kernel
theorem d_Ta_scanNumber_39 : decode cX7_scanNumber 39 = .ok (.bipush 57, 2) := by decide +kernel
theorem d_Ta_scanNumber_41 : decode cX7_scanNumber 41 = .ok (.if_icmp .gt 40, 3) := by decide +kernel
theorem d_Ta_scanNumber_44 : decode cX7_scanNumber 44 = .ok (.aload_n 0, 1) := by decide +kernel
theorem d_Ta_scanNumber_45 : decode cX7_scanNumber 45 = .ok (.aload_n 0, 1) := by decide +kernel
theorem d_Ta_scanNumber_46 : decode cX7_scanNumber 46 = .ok (.getfield 28, 3) := by decide +kernel
theorem d_Ta_scanNumber_49 : decode cX7_scanNumber 49 = .ok (.bipush 10, 2) := by decide +kernel
theorem d_Ta_scanNumber_51 : decode cX7_scanNumber 51 = .ok (.imul, 1) := by decide +kernel
theorem d_Ta_scanNumber_52 : decode cX7_scanNumber 52 = .ok (.aload_n 0, 1) := by decide +kernel
theorem d_Ta_scanNumber_53 : decode cX7_scanNumber 53 = .ok (.getfield 11, 3) := by decide +kernel
theorem d_Ta_scanNumber_56 : decode cX7_scanNumber 56 = .ok (.aload_n 0, 1) := by decide +kernel
theorem d_Ta_scanNumber_57 : decode cX7_scanNumber 57 = .ok (.getfield 19, 3) := by decide +kernel
theorem d_Ta_scanNumber_60 : decode cX7_scanNumber 60 = .ok (.caload, 1) := by decide +kernel
theorem d_Ta_scanNumber_61 : decode cX7_scanNumber 61 = .ok (.bipush 48, 2) := by decide +kernel
theorem d_Ta_scanNumber_63 : decode cX7_scanNumber 63 = .ok (.isub, 1) := by decide +kernel
theorem d_Ta_scanNumber_64 : decode cX7_scanNumber 64 = .ok (.iadd, 1) := by decide +kernel
theorem d_Ta_scanNumber_65 : decode cX7_scanNumber 65 = .ok (.putfield 28, 3) := by decide +kernel
theorem d_Ta_scanNumber_68 : decode cX7_scanNumber 68 = .ok (.aload_n 0, 1) := by decide +kernel
theorem d_Ta_scanNumber_69 : decode cX7_scanNumber 69 = .ok (.dup, 1) := by decide +kernel
theorem d_Ta_scanNumber_70 : decode cX7_scanNumber 70 = .ok (.getfield 19, 3) := by decide +kernel
theorem d_Ta_scanNumber_73 : decode cX7_scanNumber 73 = .ok (.iconst 1, 1) := by decide +kernel
theorem d_Ta_scanNumber_74 : decode cX7_scanNumber 74 = .ok (.iadd, 1) := by decide +kernel
theorem d_Ta_scanNumber_75 : decode cX7_scanNumber 75 = .ok (.putfield 19, 3) := by decide +kernel
theorem d_Ta_scanNumber_78 : decode cX7_scanNumber 78 = .ok (.goto (-73), 3) := by decide +kernel
theorem d_Ta_scanNumber_81 : decode cX7_scanNumber 81 = .ok (.aload_n 0, 1) := by decide +kernel
theorem d_Ta_scanNumber_82 : decode cX7_scanNumber 82 = .ok (.aload_n 0, 1) := by decide +kernel
theorem d_Ta_scanNumber_83 : decode cX7_scanNumber 83 = .ok (.getfield 19, 3) := by decide +kernel
theorem d_Ta_scanNumber_86 : decode cX7_scanNumber 86 = .ok (.aload_n 0, 1) := by decide +kernel
theorem d_Ta_scanNumber_87 : decode cX7_scanNumber 87 = .ok (.getfield 22, 3) := by decide +kernel
theorem d_Ta_scanNumber_90 : decode cX7_scanNumber 90 = .ok (.isub, 1) := by decide +kernel
theorem d_Ta_scanNumber_91 : decode cX7_scanNumber 91 = .ok (.iconst 4, 1) := by decide +kernel
theorem d_Ta_scanNumber_92 : decode cX7_scanNumber 92 = .ok (.if_icmp .le 7, 3) := by decide +kernel
theorem d_Ta_scanNumber_95 : decode cX7_scanNumber 95 = .ok (.iconst 0, 1) := by decide +kernel
theorem d_Ta_scanNumber_96 : decode cX7_scanNumber 96 = .ok (.goto 4, 3) := by decide +kernel
theorem d_Ta_scanNumber_99 : decode cX7_scanNumber 99 = .ok (.iconst 3, 1) := by decide +kernel
theorem d_Ta_scanNumber_100 : decode cX7_scanNumber 100 = .ok (.putfield 25, 3) := by decide +kernel
theorem d_Ta_scanNumber_103 : decode cX7_scanNumber 103 = .ok (.return_, 1) := by decide +kernel
noncomputable def f_Ta_scanNumber (h : mm_H) : Option mm_H := mm_let (mm_pI h 33 5 0) fun h1 => (mm_while (σ := mm_H) (ρ := mm_H) (fun s3 => if (s3.1 33 1) ≤ (s3.1 33 2) then (some (Sum.inr s3)) else ((mm_ix (s3.1 33 2) 1000).bind fun k9 => if (s3.1 34 k9) < 48 then (some (Sum.inr s3)) else ((mm_ix (s3.1 33 2) 1000).bind fun k11 => if 57 < (s3.1 34 k11) then (some (Sum.inr s3)) else ((mm_ix (s3.1 33 2) 1000).bind fun k13 => mm_let (mm_pI s3 33 5 (((s3.1 33 5) * 10) + ((s3.1 34 k13) - 48))) fun h15 => mm_let (mm_pI h15 33 2 ((h15.1 33 2) + 1)) fun h17 => some (Sum.inl h17))))) h1).bind fun v6 => (if ((v6.1 33 2) - (v6.1 33 3)) ≤ 4 then (some 3) else (some 0) : Option Int32).bind fun j28 => mm_let (mm_pI v6 33 4 j28) fun h33 => some h33
theorem T_Ta_scanNumber (V : mm_V) (l : Launch) (h : mm_H) (r : mm_H) (hf : f_Ta_scanNumber h = some r) : MT V l Y_Ta_scanNumber 1 [.ref 33] (fun r1 h1 => r1 = none ∧ h1 = r) h := by
  unfold f_Ta_scanNumber at hf
  refine MT.intro (pn_Ta rfl) [(0, .ref 33)] rfl (Nat.le_of_ble_eq_true rfl) ?_
  generalize hZ : mm_Z V _ = Z0
  refine MM.aload_n (i := 0) rfl rfl d_Ta_scanNumber_0 rfl ?_
  refine MM.iconst ic_0 d_Ta_scanNumber_1 rfl ?_
  obtain ⟨h1, e2, hf⟩ := mm_letE hf
  refine MM.putI e2 6 tg_33 lays_6 toks_6 pq_6_5 ww_160 d_Ta_scanNumber_2 rfl ?_
  obtain ⟨v6, e8, hf⟩ := mm_bind hf
  have K7 : MM V l Y_Ta_scanNumber 1 0 0 Z0 81 [(0, .ref 33)] [] v6 := by
    refine MM.aload_n (i := 0) rfl rfl d_Ta_scanNumber_81 rfl ?_
    refine MM.aload_n (i := 0) rfl rfl d_Ta_scanNumber_82 rfl ?_
    refine MM.getI 6 tg_33 lays_6 gq_6_2 ww_154 d_Ta_scanNumber_83 rfl ?_
    refine MM.aload_n (i := 0) rfl rfl d_Ta_scanNumber_86 rfl ?_
    refine MM.getI 6 tg_33 lays_6 gq_6_3 ww_155 d_Ta_scanNumber_87 rfl ?_
    refine MM.isub d_Ta_scanNumber_90 rfl ?_
    refine MM.iconst ic_4 d_Ta_scanNumber_91 rfl ?_
    obtain ⟨j28, e35, hf⟩ := mm_bind hf
    have K29 : MM V l Y_Ta_scanNumber 1 0 0 Z0 100 [] [.int j28, .ref 33] v6 := by
      obtain ⟨h33, e34, hf⟩ := mm_letE hf
      refine MM.putI e34 6 tg_33 lays_6 toks_6 pq_6_4 ww_156 d_Ta_scanNumber_100 rfl ?_
      obtain rfl := Option.some.inj hf
      subst hZ
      exact MM.vret rfl d_Ta_scanNumber_103 ⟨rfl, rfl⟩
    clear hf
    have hf := e35
    clear e35
    obtain ⟨m31, m32⟩ := mm_ifE hf
    refine MM.icmp_le (tgt := 99) d_Ta_scanNumber_92 rfl rfl (fun c30 => ?_) (fun c30 => ?_)
    · replace hf := m31 c30
      refine MM.iconst ic_3 d_Ta_scanNumber_99 rfl ?_
      obtain rfl := Option.some.inj hf
      exact MM.sub [] (by rfl) K29
    · replace hf := m32 c30
      refine MM.iconst ic_0 d_Ta_scanNumber_95 rfl ?_
      refine MM.goto (tgt := 100) d_Ta_scanNumber_96 rfl ?_
      obtain rfl := Option.some.inj hf
      exact MM.sub [] (by rfl) K29
  clear hf
  refine MM.sub [0] (by rfl) (mm_while_ind (fun s3 => MM V l Y_Ta_scanNumber 1 0 0 Z0 5 [(0, .ref 33)] [] s3) e8 (fun s3 q4 hf hx5 => ?_))
  refine MM.aload_n (i := 0) rfl rfl d_Ta_scanNumber_5 rfl ?_
  refine MM.getI 6 tg_33 lays_6 gq_6_2 ww_154 d_Ta_scanNumber_6 rfl ?_
  refine MM.aload_n (i := 0) rfl rfl d_Ta_scanNumber_9 rfl ?_
  refine MM.getI 6 tg_33 lays_6 gq_6_1 ww_152 d_Ta_scanNumber_10 rfl ?_
  obtain ⟨m26, m27⟩ := mm_ifE hf
  refine MM.icmp_ge (tgt := 81) d_Ta_scanNumber_13 rfl rfl (fun c25 => ?_) (fun c25 => ?_)
  · replace hf := m26 c25
    obtain rfl := Option.some.inj hf
    obtain rfl := Option.some.inj (mm_wxR hx5)
    exact MM.sub [0] (by rfl) K7
  · replace hf := m27 c25
    refine MM.aload_n (i := 0) rfl rfl d_Ta_scanNumber_16 rfl ?_
    refine MM.gR 6 1 tg_33 rq_6_0 rfl lays_6 ww_151 d_Ta_scanNumber_17 rfl ?_
    refine MM.aload_n (i := 0) rfl rfl d_Ta_scanNumber_20 rfl ?_
    refine MM.getI 6 tg_33 lays_6 gq_6_2 ww_154 d_Ta_scanNumber_21 rfl ?_
    obtain ⟨k9, e10, hf⟩ := mm_bind hf
    refine MM.gC e10 al_34 d_Ta_scanNumber_24 rfl ?_
    refine MM.bipush bp_48 d_Ta_scanNumber_25 rfl ?_
    obtain ⟨m23, m24⟩ := mm_ifE hf
    refine MM.icmp_lt (tgt := 81) d_Ta_scanNumber_27 rfl rfl (fun c22 => ?_) (fun c22 => ?_)
    · replace hf := m23 c22
      obtain rfl := Option.some.inj hf
      obtain rfl := Option.some.inj (mm_wxR hx5)
      exact MM.sub [0] (by rfl) K7
    · replace hf := m24 c22
      refine MM.aload_n (i := 0) rfl rfl d_Ta_scanNumber_30 rfl ?_
      refine MM.gR 6 1 tg_33 rq_6_0 rfl lays_6 ww_151 d_Ta_scanNumber_31 rfl ?_
      refine MM.aload_n (i := 0) rfl rfl d_Ta_scanNumber_34 rfl ?_
      refine MM.getI 6 tg_33 lays_6 gq_6_2 ww_154 d_Ta_scanNumber_35 rfl ?_
      obtain ⟨k11, e12, hf⟩ := mm_bind hf
      refine MM.gC e12 al_34 d_Ta_scanNumber_38 rfl ?_
      refine MM.bipush bp_57 d_Ta_scanNumber_39 rfl ?_
      obtain ⟨m20, m21⟩ := mm_ifE hf
      refine MM.icmp_gt (tgt := 81) d_Ta_scanNumber_41 rfl rfl (fun c19 => ?_) (fun c19 => ?_)
      · replace hf := m20 c19
        obtain rfl := Option.some.inj hf
        obtain rfl := Option.some.inj (mm_wxR hx5)
        exact MM.sub [0] (by rfl) K7
      · replace hf := m21 c19
        refine MM.aload_n (i := 0) rfl rfl d_Ta_scanNumber_44 rfl ?_
        refine MM.aload_n (i := 0) rfl rfl d_Ta_scanNumber_45 rfl ?_
        refine MM.getI 6 tg_33 lays_6 gq_6_5 ww_160 d_Ta_scanNumber_46 rfl ?_
        refine MM.bipush bp_10 d_Ta_scanNumber_49 rfl ?_
        refine MM.imul d_Ta_scanNumber_51 rfl ?_
        refine MM.aload_n (i := 0) rfl rfl d_Ta_scanNumber_52 rfl ?_
        refine MM.gR 6 1 tg_33 rq_6_0 rfl lays_6 ww_151 d_Ta_scanNumber_53 rfl ?_
        refine MM.aload_n (i := 0) rfl rfl d_Ta_scanNumber_56 rfl ?_
        refine MM.getI 6 tg_33 lays_6 gq_6_2 ww_154 d_Ta_scanNumber_57 rfl ?_
        obtain ⟨k13, e14, hf⟩ := mm_bind hf
        refine MM.gC e14 al_34 d_Ta_scanNumber_60 rfl ?_
        refine MM.bipush bp_48 d_Ta_scanNumber_61 rfl ?_
        refine MM.isub d_Ta_scanNumber_63 rfl ?_
        refine MM.iadd d_Ta_scanNumber_64 rfl ?_
        obtain ⟨h15, e16, hf⟩ := mm_letE hf
        refine MM.putI e16 6 tg_33 lays_6 toks_6 pq_6_5 ww_160 d_Ta_scanNumber_65 rfl ?_
        refine MM.aload_n (i := 0) rfl rfl d_Ta_scanNumber_68 rfl ?_
        refine MM.dup rfl d_Ta_scanNumber_69 rfl ?_
        refine MM.getI 6 tg_33 lays_6 gq_6_2 ww_154 d_Ta_scanNumber_70 rfl ?_
        refine MM.iconst ic_1 d_Ta_scanNumber_73 rfl ?_
        refine MM.iadd d_Ta_scanNumber_74 rfl ?_
        obtain ⟨h17, e18, hf⟩ := mm_letE hf
        refine MM.putI e18 6 tg_33 lays_6 toks_6 pq_6_2 ww_154 d_Ta_scanNumber_75 rfl ?_
        refine MM.goto (tgt := 5) d_Ta_scanNumber_78 rfl ?_
        obtain rfl := Option.some.inj hf
        have h9 := mm_wxL hx5
        exact MM.sub [0] (by rfl) h9
theorem d_JS_isLatin1_0 : decode cJ0_isLatin1_aae02 0 = .ok (.getstatic 38, 3) := by decide +kernel
theorem d_JS_isLatin1_3 : decode cJ0_isLatin1_aae02 3 = .ok (.ifCond .eq 14, 3) := by decide +kernel
theorem d_JS_isLatin1_6 : decode cJ0_isLatin1_aae02 6 = .ok (.aload_n 0, 1) := by decide +kernel
theorem d_JS_isLatin1_7 : decode cJ0_isLatin1_aae02 7 = .ok (.getfield 15, 3) := by decide +kernel
theorem d_JS_isLatin1_10 : decode cJ0_isLatin1_aae02 10 = .ok (.ifCond .ne 7, 3) := by decide +kernel
theorem d_JS_isLatin1_13 : decode cJ0_isLatin1_aae02 13 = .ok (.iconst 1, 1) := by decide +kernel
theorem d_JS_isLatin1_14 : decode cJ0_isLatin1_aae02 14 = .ok (.goto 4, 3) := by decide +kernel
theorem d_JS_isLatin1_17 : decode cJ0_isLatin1_aae02 17 = .ok (.iconst 0, 1) := by decide +kernel
theorem d_JS_isLatin1_18 : decode cJ0_isLatin1_aae02 18 = .ok (.ireturn, 1) := by decide +kernel
noncomputable def f_JS_isLatin1  : Option Int32 := if (1 : Int32) = 0 then (some 0) else (if (0 : Int32) = 0 then (some 1) else (some 0))
theorem T_JS_isLatin1 (V : mm_V) (l : Launch) (h : mm_H) (r : Int32) (hf : f_JS_isLatin1 = some r) : MT V l Y_JS_isLatin1 1 [.ref 29] (fun r1 h1 => r1 = some (.int r) ∧ h1 = h) h := by
  unfold f_JS_isLatin1 at hf
  refine MT.intro (pn_JS rfl) [(0, .ref 29)] rfl (Nat.le_of_ble_eq_true rfl) ?_
  generalize hZ : mm_Z V _ = Z0
  refine MM.strK ww_587 d_JS_isLatin1_0 rfl ?_
  obtain ⟨m5, m6⟩ := mm_ifE hf
  refine MM.if_eq (tgt := 17) d_JS_isLatin1_3 rfl rfl (fun c4 => ?_) (fun c4 => ?_)
  · replace hf := m5 c4
    refine MM.iconst ic_0 d_JS_isLatin1_17 rfl ?_
    obtain rfl := Option.some.inj hf
    subst hZ
    exact MM.zret (Or.inl rfl) rfl d_JS_isLatin1_18 ⟨rfl, rfl⟩
  · replace hf := m6 c4
    refine MM.aload_n (i := 0) rfl rfl d_JS_isLatin1_6 rfl ?_
    refine MM.strC ww_2048 d_JS_isLatin1_7 rfl ?_
    obtain ⟨m2, m3⟩ := mm_ifE hf
    refine MM.if_ne (tgt := 17) d_JS_isLatin1_10 rfl rfl (fun c1 => ?_) (fun c1 => ?_)
    · replace hf := m3 c1
      refine MM.iconst ic_0 d_JS_isLatin1_17 rfl ?_
      obtain rfl := Option.some.inj hf
      subst hZ
      exact MM.zret (Or.inl rfl) rfl d_JS_isLatin1_18 ⟨rfl, rfl⟩
    · replace hf := m2 c1
      refine MM.iconst ic_1 d_JS_isLatin1_13 rfl ?_
      refine MM.goto (tgt := 18) d_JS_isLatin1_14 rfl ?_
      obtain rfl := Option.some.inj hf
      subst hZ
      exact MM.zret (Or.inr rfl) rfl d_JS_isLatin1_18 ⟨rfl, rfl⟩
theorem d_JS_coder_0 : decode cJ0_coder_7d493 0 = .ok (.getstatic 38, 3) := by decide +kernel
theorem d_JS_coder_3 : decode cJ0_coder_7d493 3 = .ok (.ifCond .eq 10, 3) := by decide +kernel
theorem d_JS_coder_6 : decode cJ0_coder_7d493 6 = .ok (.aload_n 0, 1) := by decide +kernel
theorem d_JS_coder_7 : decode cJ0_coder_7d493 7 = .ok (.getfield 15, 3) := by decide +kernel
theorem d_JS_coder_10 : decode cJ0_coder_7d493 10 = .ok (.goto 4, 3) := by decide +kernel
theorem d_JS_coder_13 : decode cJ0_coder_7d493 13 = .ok (.iconst 1, 1) := by decide +kernel
theorem d_JS_coder_14 : decode cJ0_coder_7d493 14 = .ok (.ireturn, 1) := by decide +kernel
noncomputable def f_JS_coder  : Option Int32 := if (1 : Int32) = 0 then (some 1) else (some 0)
theorem T_JS_coder (V : mm_V) (l : Launch) (h : mm_H) (r : Int32) (hf : f_JS_coder = some r) : MT V l Y_JS_coder 1 [.ref 29] (fun r1 h1 => r1 = some (.int r) ∧ h1 = h) h := by
  unfold f_JS_coder at hf
  refine MT.intro (pn_JS rfl) [(0, .ref 29)] rfl (Nat.le_of_ble_eq_true rfl) ?_
  generalize hZ : mm_Z V _ = Z0
  refine MM.strK ww_587 d_JS_coder_0 rfl ?_
  obtain ⟨m2, m3⟩ := mm_ifE hf
  refine MM.if_eq (tgt := 13) d_JS_coder_3 rfl rfl (fun c1 => ?_) (fun c1 => ?_)
  · replace hf := m2 c1
    refine MM.iconst ic_1 d_JS_coder_13 rfl ?_
    obtain rfl := Option.some.inj hf
    subst hZ
    exact MM.nret rfl rfl d_JS_coder_14 ⟨rfl, rfl⟩
  · replace hf := m3 c1
    refine MM.aload_n (i := 0) rfl rfl d_JS_coder_6 rfl ?_
    refine MM.strC ww_2048 d_JS_coder_7 rfl ?_
    refine MM.goto (tgt := 14) d_JS_coder_10 rfl ?_
    obtain rfl := Option.some.inj hf
    subst hZ
    exact MM.nret rfl rfl d_JS_coder_14 ⟨rfl, rfl⟩
theorem d_JS_length_0 : decode cJ0_length_8abf5 0 = .ok (.aload_n 0, 1) := by decide +kernel
theorem d_JS_length_1 : decode cJ0_length_8abf5 1 = .ok (.getfield 9, 3) := by decide +kernel
theorem d_JS_length_4 : decode cJ0_length_8abf5 4 = .ok (.arraylength, 1) := by decide +kernel
theorem d_JS_length_5 : decode cJ0_length_8abf5 5 = .ok (.aload_n 0, 1) := by decide +kernel
theorem d_JS_length_6 : decode cJ0_length_8abf5 6 = .ok (.invokevirtual 335, 3) := by decide +kernel
theorem d_JS_length_9 : decode cJ0_length_8abf5 9 = .ok (.ishr, 1) := by decide +kernel
theorem d_JS_length_10 : decode cJ0_length_8abf5 10 = .ok (.ireturn, 1) := by decide +kernel
noncomputable def f_JS_length  : Option Int32 := (f_JS_coder).bind fun v2 => some ((8 : Int32) >>> (v2 &&& 31))
theorem T_JS_length (V : mm_V) (l : Launch) (h : mm_H) (r : Int32) (hf : f_JS_length = some r) : MT V l Y_JS_length 2 [.ref 29] (fun r1 h1 => r1 = some (.int r) ∧ h1 = h) h := by
  unfold f_JS_length at hf
  refine MT.intro (pn_JS rfl) [(0, .ref 29)] rfl (Nat.le_of_ble_eq_true rfl) ?_
  generalize hZ : mm_Z V _ = Z0
  refine MM.aload_n (i := 0) rfl rfl d_JS_length_0 rfl ?_
  refine MM.strV ww_2049 d_JS_length_1 rfl ?_
  refine MM.strL d_JS_length_4 rfl ?_
  refine MM.aload_n (i := 0) rfl rfl d_JS_length_5 rfl ?_
  obtain ⟨v2, e1, hf⟩ := mm_bind hf
  refine MM.callT1 (T_JS_coder V l  h _ e1) cal_JS_coder rfl rfl (by decide) ww_595 ww_594 ww_593 (by decide) (by simp [Value.category]) d_JS_length_6 rfl ⟨rfl, rfl⟩ rfl ?_
  refine MM.ishr d_JS_length_9 rfl ?_
  obtain rfl := Option.some.inj hf
  subst hZ
  exact MM.iret rfl d_JS_length_10 ⟨rfl, rfl⟩
theorem d_JL_canEncode_0 : decode cJ1_canEncode_9a6ad 0 = .ok (.iload_n 0, 1) := by decide +kernel
theorem d_JL_canEncode_1 : decode cJ1_canEncode_9a6ad 1 = .ok (.ifCond .lt 14, 3) := by decide +kernel
theorem d_JL_canEncode_4 : decode cJ1_canEncode_9a6ad 4 = .ok (.iload_n 0, 1) := by decide +kernel
theorem d_JL_canEncode_5 : decode cJ1_canEncode_9a6ad 5 = .ok (.sipush 255, 3) := by decide +kernel
theorem d_JL_canEncode_8 : decode cJ1_canEncode_9a6ad 8 = .ok (.if_icmp .gt 7, 3) := by decide +kernel
theorem d_JL_canEncode_11 : decode cJ1_canEncode_9a6ad 11 = .ok (.iconst 1, 1) := by decide +kernel
theorem d_JL_canEncode_12 : decode cJ1_canEncode_9a6ad 12 = .ok (.goto 4, 3) := by decide +kernel
theorem d_JL_canEncode_15 : decode cJ1_canEncode_9a6ad 15 = .ok (.iconst 0, 1) := by decide +kernel
theorem d_JL_canEncode_16 : decode cJ1_canEncode_9a6ad 16 = .ok (.ireturn, 1) := by decide +kernel
noncomputable def f_JL_canEncode (x0 : Int32) : Option Int32 := if x0 < 0 then (some 0) else (if 255 < x0 then (some 0) else (some 1))
theorem T_JL_canEncode (V : mm_V) (l : Launch) (x0 : Int32) (h : mm_H) (r : Int32) (hf : f_JL_canEncode x0 = some r) : MT V l Y_JL_canEncode 1 [.int x0] (fun r1 h1 => r1 = some (.int r) ∧ h1 = h) h := by
  unfold f_JL_canEncode at hf
  refine MT.intro (pn_JL rfl) [(0, .int x0)] rfl (Nat.le_of_ble_eq_true rfl) ?_
  generalize hZ : mm_Z V _ = Z0
  refine MM.iload_n (i := 0) rfl rfl d_JL_canEncode_0 rfl ?_
  obtain ⟨m5, m6⟩ := mm_ifE hf
  refine MM.if_lt (tgt := 15) d_JL_canEncode_1 rfl rfl (fun c4 => ?_) (fun c4 => ?_)
  · replace hf := m5 c4
    refine MM.iconst ic_0 d_JL_canEncode_15 rfl ?_
    obtain rfl := Option.some.inj hf
    subst hZ
    exact MM.zret (Or.inl rfl) rfl d_JL_canEncode_16 ⟨rfl, rfl⟩
  · replace hf := m6 c4
    refine MM.iload_n (i := 0) rfl rfl d_JL_canEncode_4 rfl ?_
    refine MM.sipush sp_255 d_JL_canEncode_5 rfl ?_
    obtain ⟨m2, m3⟩ := mm_ifE hf
    refine MM.icmp_gt (tgt := 15) d_JL_canEncode_8 rfl rfl (fun c1 => ?_) (fun c1 => ?_)
    · replace hf := m2 c1
      refine MM.iconst ic_0 d_JL_canEncode_15 rfl ?_
      obtain rfl := Option.some.inj hf
      subst hZ
      exact MM.zret (Or.inl rfl) rfl d_JL_canEncode_16 ⟨rfl, rfl⟩
    · replace hf := m3 c1
      refine MM.iconst ic_1 d_JL_canEncode_11 rfl ?_
      refine MM.goto (tgt := 16) d_JL_canEncode_12 rfl ?_
      obtain rfl := Option.some.inj hf
      subst hZ
      exact MM.zret (Or.inr rfl) rfl d_JL_canEncode_16 ⟨rfl, rfl⟩
theorem d_JM_max_0 : decode cJ9_max_7cf53 0 = .ok (.iload_n 0, 1) := by decide +kernel
theorem d_JM_max_1 : decode cJ9_max_7cf53 1 = .ok (.iload_n 1, 1) := by decide +kernel
theorem d_JM_max_2 : decode cJ9_max_7cf53 2 = .ok (.if_icmp .lt 7, 3) := by decide +kernel
theorem d_JM_max_5 : decode cJ9_max_7cf53 5 = .ok (.iload_n 0, 1) := by decide +kernel
theorem d_JM_max_6 : decode cJ9_max_7cf53 6 = .ok (.goto 4, 3) := by decide +kernel
theorem d_JM_max_9 : decode cJ9_max_7cf53 9 = .ok (.iload_n 1, 1) := by decide +kernel
theorem d_JM_max_10 : decode cJ9_max_7cf53 10 = .ok (.ireturn, 1) := by decide +kernel
noncomputable def f_JM_max (x0 : Int32) (x1 : Int32) : Option Int32 := if x0 < x1 then (some x1) else (some x0)
theorem T_JM_max (V : mm_V) (l : Launch) (x0 : Int32) (x1 : Int32) (h : mm_H) (r : Int32) (hf : f_JM_max x0 x1 = some r) : MT V l Y_JM_max 1 [.int x0, .int x1] (fun r1 h1 => r1 = some (.int r) ∧ h1 = h) h := by
  unfold f_JM_max at hf
  refine MT.intro (pn_JM_max) [(0, .int x0), (1, .int x1)] rfl (Nat.le_of_ble_eq_true rfl) ?_
  generalize hZ : mm_Z V _ = Z0
  refine MM.iload_n (i := 0) rfl rfl d_JM_max_0 rfl ?_
  refine MM.iload_n (i := 1) rfl rfl d_JM_max_1 rfl ?_
  obtain ⟨m2, m3⟩ := mm_ifE hf
  refine MM.icmp_lt (tgt := 9) d_JM_max_2 rfl rfl (fun c1 => ?_) (fun c1 => ?_)
  · replace hf := m2 c1
    refine MM.iload_n (i := 1) rfl rfl d_JM_max_9 rfl ?_
    obtain rfl := Option.some.inj hf
    subst hZ
    exact MM.iret rfl d_JM_max_10 ⟨rfl, rfl⟩
  · replace hf := m3 c1
    refine MM.iload_n (i := 0) rfl rfl d_JM_max_5 rfl ?_
    refine MM.goto (tgt := 10) d_JM_max_6 rfl ?_
    obtain rfl := Option.some.inj hf
    subst hZ
    exact MM.iret rfl d_JM_max_10 ⟨rfl, rfl⟩
theorem d_JM_min_0 : decode cJ9_min_7cf53 0 = .ok (.iload_n 0, 1) := by decide +kernel
theorem d_JM_min_1 : decode cJ9_min_7cf53 1 = .ok (.iload_n 1, 1) := by decide +kernel
theorem d_JM_min_2 : decode cJ9_min_7cf53 2 = .ok (.if_icmp .gt 7, 3) := by decide +kernel
theorem d_JM_min_5 : decode cJ9_min_7cf53 5 = .ok (.iload_n 0, 1) := by decide +kernel
theorem d_JM_min_6 : decode cJ9_min_7cf53 6 = .ok (.goto 4, 3) := by decide +kernel
theorem d_JM_min_9 : decode cJ9_min_7cf53 9 = .ok (.iload_n 1, 1) := by decide +kernel
theorem d_JM_min_10 : decode cJ9_min_7cf53 10 = .ok (.ireturn, 1) := by decide +kernel
noncomputable def f_JM_min (x0 : Int32) (x1 : Int32) : Option Int32 := if x1 < x0 then (some x1) else (some x0)
theorem T_JM_min (V : mm_V) (l : Launch) (x0 : Int32) (x1 : Int32) (h : mm_H) (r : Int32) (hf : f_JM_min x0 x1 = some r) : MT V l Y_JM_min 1 [.int x0, .int x1] (fun r1 h1 => r1 = some (.int r) ∧ h1 = h) h := by
  unfold f_JM_min at hf
  refine MT.intro (pn_JM_min) [(0, .int x0), (1, .int x1)] rfl (Nat.le_of_ble_eq_true rfl) ?_
  generalize hZ : mm_Z V _ = Z0
  refine MM.iload_n (i := 0) rfl rfl d_JM_min_0 rfl ?_
  refine MM.iload_n (i := 1) rfl rfl d_JM_min_1 rfl ?_
  obtain ⟨m2, m3⟩ := mm_ifE hf
  refine MM.icmp_gt (tgt := 9) d_JM_min_2 rfl rfl (fun c1 => ?_) (fun c1 => ?_)
  · replace hf := m2 c1
    refine MM.iload_n (i := 1) rfl rfl d_JM_min_9 rfl ?_
    obtain rfl := Option.some.inj hf
    subst hZ
    exact MM.iret rfl d_JM_min_10 ⟨rfl, rfl⟩
  · replace hf := m3 c1
    refine MM.iload_n (i := 0) rfl rfl d_JM_min_5 rfl ?_
    refine MM.goto (tgt := 10) d_JM_min_6 rfl ?_
    obtain rfl := Option.some.inj hf
    subst hZ
    exact MM.iret rfl d_JM_min_10 ⟨rfl, rfl⟩
theorem d_JL_indexOfChar_0 : decode cJ1_indexOfChar_4cfef 0 = .ok (.iload_n 1, 1) := by decide +kernel
theorem d_JL_indexOfChar_1 : decode cJ1_indexOfChar_4cfef 1 = .ok (.i2b, 1) := by decide +kernel
theorem d_JL_indexOfChar_2 : decode cJ1_indexOfChar_4cfef 2 = .ok (.istore 4, 2) := by decide +kernel
theorem d_JL_indexOfChar_4 : decode cJ1_indexOfChar_4cfef 4 = .ok (.iload_n 2, 1) := by decide +kernel
theorem d_JL_indexOfChar_5 : decode cJ1_indexOfChar_4cfef 5 = .ok (.istore 5, 2) := by decide +kernel
theorem d_JL_indexOfChar_7 : decode cJ1_indexOfChar_4cfef 7 = .ok (.iload 5, 2) := by decide +kernel
theorem d_JL_indexOfChar_9 : decode cJ1_indexOfChar_4cfef 9 = .ok (.iload_n 3, 1) := by decide +kernel
theorem d_JL_indexOfChar_10 : decode cJ1_indexOfChar_4cfef 10 = .ok (.if_icmp .ge 21, 3) := by decide +kernel
theorem d_JL_indexOfChar_13 : decode cJ1_indexOfChar_4cfef 13 = .ok (.aload_n 0, 1) := by decide +kernel
theorem d_JL_indexOfChar_14 : decode cJ1_indexOfChar_4cfef 14 = .ok (.iload 5, 2) := by decide +kernel
theorem d_JL_indexOfChar_16 : decode cJ1_indexOfChar_4cfef 16 = .ok (.baload, 1) := by decide +kernel
theorem d_JL_indexOfChar_17 : decode cJ1_indexOfChar_4cfef 17 = .ok (.iload 4, 2) := by decide +kernel
theorem d_JL_indexOfChar_19 : decode cJ1_indexOfChar_4cfef 19 = .ok (.if_icmp .ne 6, 3) := by decide +kernel
theorem d_JL_indexOfChar_22 : decode cJ1_indexOfChar_4cfef 22 = .ok (.iload 5, 2) := by decide +kernel
theorem d_JL_indexOfChar_24 : decode cJ1_indexOfChar_4cfef 24 = .ok (.ireturn, 1) := by decide +kernel
theorem d_JL_indexOfChar_25 : decode cJ1_indexOfChar_4cfef 25 = .ok (.iinc 5 1, 3) := by decide +kernel
theorem d_JL_indexOfChar_28 : decode cJ1_indexOfChar_4cfef 28 = .ok (.goto (-21), 3) := by decide +kernel
theorem d_JL_indexOfChar_31 : decode cJ1_indexOfChar_4cfef 31 = .ok (.iconst (-1), 1) := by decide +kernel
theorem d_JL_indexOfChar_32 : decode cJ1_indexOfChar_4cfef 32 = .ok (.ireturn, 1) := by decide +kernel
noncomputable def f_JL_indexOfChar (x1 : Int32) (x2 : Int32) (x3 : Int32) : Option Int32 := mm_let ((Int32.toInt8 x1).toInt32) fun y1 => mm_while (σ := Int32) (ρ := Int32) (fun s3 => if x3 ≤ s3 then (some (Sum.inr (-1))) else ((mm_ix s3 8).bind fun k6 => if (mm_byt.getD k6 0) = y1 then (some (Sum.inr s3)) else (mm_let (s3 + 1) fun y8 => some (Sum.inl y8)))) x2
theorem T_JL_indexOfChar (V : mm_V) (l : Launch) (x1 : Int32) (x2 : Int32) (x3 : Int32) (h : mm_H) (r : Int32) (hf : f_JL_indexOfChar x1 x2 x3 = some r) : MT V l Y_JL_indexOfChar 1 [.ref 30, .int x1, .int x2, .int x3] (fun r1 h1 => r1 = some (.int r) ∧ h1 = h) h := by
  unfold f_JL_indexOfChar at hf
  refine MT.intro (pn_JL rfl) [(0, .ref 30), (1, .int x1), (2, .int x2), (3, .int x3)] rfl (Nat.le_of_ble_eq_true rfl) ?_
  generalize hZ : mm_Z V _ = Z0
  refine MM.iload_n (i := 1) rfl rfl d_JL_indexOfChar_0 rfl ?_
  refine MM.i2b d_JL_indexOfChar_1 rfl ?_
  obtain ⟨y1, e2, hf⟩ := mm_letE hf
  refine MM.istore (lv' := [(4, .int y1), (0, .ref 30), (1, .int x1), (2, .int x2), (3, .int x3)]) e2 (Nat.le_of_ble_eq_true rfl) rfl d_JL_indexOfChar_2 rfl ?_
  refine MM.iload_n (i := 2) rfl rfl d_JL_indexOfChar_4 rfl ?_
  refine MM.istore (lv' := [(5, .int x2), (4, .int y1), (0, .ref 30), (1, .int x1), (2, .int x2), (3, .int x3)]) rfl (Nat.le_of_ble_eq_true rfl) rfl d_JL_indexOfChar_5 rfl ?_
  refine MM.sub [2, 5, 1, 0] (by rfl) (mm_while_ind (fun s3 => MM V l Y_JL_indexOfChar 1 0 0 Z0 7 [(0, .ref 30), (3, .int x3), (4, .int y1), (5, .int s3)] [] h) hf (fun s3 q4 hf hx5 => ?_))
  refine MM.iload rfl d_JL_indexOfChar_7 rfl ?_
  refine MM.iload_n (i := 3) rfl rfl d_JL_indexOfChar_9 rfl ?_
  obtain ⟨m14, m15⟩ := mm_ifE hf
  refine MM.icmp_ge (tgt := 31) d_JL_indexOfChar_10 rfl rfl (fun c13 => ?_) (fun c13 => ?_)
  · replace hf := m14 c13
    refine MM.iconst ic_m1 d_JL_indexOfChar_31 rfl ?_
    obtain rfl := Option.some.inj hf
    replace hf := mm_wxR hx5
    obtain rfl := Option.some.inj hf
    subst hZ
    exact MM.iret rfl d_JL_indexOfChar_32 ⟨rfl, rfl⟩
  · replace hf := m15 c13
    refine MM.aload_n (i := 0) rfl rfl d_JL_indexOfChar_13 rfl ?_
    refine MM.iload rfl d_JL_indexOfChar_14 rfl ?_
    obtain ⟨k6, e7, hf⟩ := mm_bind hf
    refine MM.strB e7 d_JL_indexOfChar_16 rfl ?_
    refine MM.iload rfl d_JL_indexOfChar_17 rfl ?_
    obtain ⟨m11, m12⟩ := mm_ifE hf
    refine MM.icmp_ne (tgt := 25) d_JL_indexOfChar_19 rfl rfl (fun c10 => ?_) (fun c10 => ?_)
    · replace hf := m12 c10
      obtain ⟨y8, e9, hf⟩ := mm_letE hf
      refine MM.iinc (k0 := 3) (lv' := [(5, .int y8), (0, .ref 30), (3, .int x3), (4, .int y1)]) (by rw [ic_1]; exact e9) rfl (Nat.le_of_ble_eq_true rfl) rfl d_JL_indexOfChar_25 rfl ?_
      refine MM.goto (tgt := 7) d_JL_indexOfChar_28 rfl ?_
      obtain rfl := Option.some.inj hf
      have h9 := mm_wxL hx5
      exact MM.sub [1, 2, 3, 0] (by rfl) h9
    · replace hf := m11 c10
      refine MM.iload rfl d_JL_indexOfChar_22 rfl ?_
      obtain rfl := Option.some.inj hf
      replace hf := mm_wxR hx5
      obtain rfl := Option.some.inj hf
      subst hZ
      exact MM.iret rfl d_JL_indexOfChar_24 ⟨rfl, rfl⟩
theorem d_JL_indexOf_0 : decode cJ1_indexOf_4cfef 0 = .ok (.iload_n 1, 1) := by decide +kernel
theorem d_JL_indexOf_1 : decode cJ1_indexOf_4cfef 1 = .ok (.invokestatic 88, 3) := by decide +kernel
theorem d_JL_indexOf_4 : decode cJ1_indexOf_4cfef 4 = .ok (.ifCond .ne 5, 3) := by decide +kernel
theorem d_JL_indexOf_7 : decode cJ1_indexOf_4cfef 7 = .ok (.iconst (-1), 1) := by decide +kernel
theorem d_JL_indexOf_8 : decode cJ1_indexOf_4cfef 8 = .ok (.ireturn, 1) := by decide +kernel
theorem d_JL_indexOf_9 : decode cJ1_indexOf_4cfef 9 = .ok (.iload_n 2, 1) := by decide +kernel
theorem d_JL_indexOf_10 : decode cJ1_indexOf_4cfef 10 = .ok (.iconst 0, 1) := by decide +kernel
theorem d_JL_indexOf_11 : decode cJ1_indexOf_4cfef 11 = .ok (.invokestatic 92, 3) := by decide +kernel
theorem d_JL_indexOf_14 : decode cJ1_indexOf_4cfef 14 = .ok (.istore_n 2, 1) := by decide +kernel
theorem d_JL_indexOf_15 : decode cJ1_indexOf_4cfef 15 = .ok (.iload_n 3, 1) := by decide +kernel
theorem d_JL_indexOf_16 : decode cJ1_indexOf_4cfef 16 = .ok (.aload_n 0, 1) := by decide +kernel
theorem d_JL_indexOf_17 : decode cJ1_indexOf_4cfef 17 = .ok (.arraylength, 1) := by decide +kernel
theorem d_JL_indexOf_18 : decode cJ1_indexOf_4cfef 18 = .ok (.invokestatic 38, 3) := by decide +kernel
theorem d_JL_indexOf_21 : decode cJ1_indexOf_4cfef 21 = .ok (.istore_n 3, 1) := by decide +kernel
theorem d_JL_indexOf_22 : decode cJ1_indexOf_4cfef 22 = .ok (.iload_n 2, 1) := by decide +kernel
theorem d_JL_indexOf_23 : decode cJ1_indexOf_4cfef 23 = .ok (.iload_n 3, 1) := by decide +kernel
theorem d_JL_indexOf_24 : decode cJ1_indexOf_4cfef 24 = .ok (.if_icmp .lt 5, 3) := by decide +kernel
theorem d_JL_indexOf_27 : decode cJ1_indexOf_4cfef 27 = .ok (.iconst (-1), 1) := by decide +kernel
theorem d_JL_indexOf_28 : decode cJ1_indexOf_4cfef 28 = .ok (.ireturn, 1) := by decide +kernel
theorem d_JL_indexOf_29 : decode cJ1_indexOf_4cfef 29 = .ok (.aload_n 0, 1) := by decide +kernel
theorem d_JL_indexOf_30 : decode cJ1_indexOf_4cfef 30 = .ok (.iload_n 1, 1) := by decide +kernel
theorem d_JL_indexOf_31 : decode cJ1_indexOf_4cfef 31 = .ok (.iload_n 2, 1) := by decide +kernel
theorem d_JL_indexOf_32 : decode cJ1_indexOf_4cfef 32 = .ok (.iload_n 3, 1) := by decide +kernel
theorem d_JL_indexOf_33 : decode cJ1_indexOf_4cfef 33 = .ok (.invokestatic 95, 3) := by decide +kernel
theorem d_JL_indexOf_36 : decode cJ1_indexOf_4cfef 36 = .ok (.ireturn, 1) := by decide +kernel
noncomputable def f_JL_indexOf (x1 : Int32) (x2 : Int32) (x3 : Int32) : Option Int32 := (f_JL_canEncode x1).bind fun v2 => if v2 = 0 then (some (-1)) else ((f_JM_max x2 0).bind fun v4 => (f_JM_min x3 8).bind fun v6 => if v4 < v6 then ((f_JL_indexOfChar x1 v4 v6).bind fun v8 => some v8) else (some (-1)))
theorem T_JL_indexOf (V : mm_V) (l : Launch) (x1 : Int32) (x2 : Int32) (x3 : Int32) (h : mm_H) (r : Int32) (hf : f_JL_indexOf x1 x2 x3 = some r) : MT V l Y_JL_indexOf 2 [.ref 30, .int x1, .int x2, .int x3] (fun r1 h1 => r1 = some (.int r) ∧ h1 = h) h := by
  unfold f_JL_indexOf at hf
  refine MT.intro (pn_JL rfl) [(0, .ref 30), (1, .int x1), (2, .int x2), (3, .int x3)] rfl (Nat.le_of_ble_eq_true rfl) ?_
  generalize hZ : mm_Z V _ = Z0
  refine MM.iload_n (i := 1) rfl rfl d_JL_indexOf_0 rfl ?_
  obtain ⟨v2, e1, hf⟩ := mm_bind hf
  refine MM.callS1 (T_JL_canEncode V l x1 h _ e1) (fun _ _ q => q) cal_JL_canEncode rfl ww_601 ww_600 (by decide) (by simp [Value.category]) d_JL_indexOf_1 rfl ⟨rfl, rfl⟩ rfl ?_
  obtain ⟨m13, m14⟩ := mm_ifE hf
  refine MM.if_ne (tgt := 9) d_JL_indexOf_4 rfl rfl (fun c12 => ?_) (fun c12 => ?_)
  · replace hf := m14 c12
    refine MM.iload_n (i := 2) rfl rfl d_JL_indexOf_9 rfl ?_
    refine MM.iconst ic_0 d_JL_indexOf_10 rfl ?_
    obtain ⟨v4, e3, hf⟩ := mm_bind hf
    refine MM.callS1 (T_JM_max V l x2 0 h _ e3) (fun _ _ q => q) cal_JM_max rfl ww_604 ww_603 (by decide) (by simp [Value.category]) d_JL_indexOf_11 rfl ⟨rfl, rfl⟩ rfl ?_
    refine MM.istore_n (i := 2) (lv' := [(2, .int v4), (0, .ref 30), (1, .int x1), (3, .int x3)]) rfl rfl (Nat.le_of_ble_eq_true rfl) rfl d_JL_indexOf_14 rfl ?_
    refine MM.iload_n (i := 3) rfl rfl d_JL_indexOf_15 rfl ?_
    refine MM.aload_n (i := 0) rfl rfl d_JL_indexOf_16 rfl ?_
    refine MM.strL d_JL_indexOf_17 rfl ?_
    obtain ⟨v6, e5, hf⟩ := mm_bind hf
    refine MM.callS1 (T_JM_min V l x3 8 h _ e5) (fun _ _ q => q) cal_JM_min rfl ww_607 ww_606 (by decide) (by simp [Value.category]) d_JL_indexOf_18 rfl ⟨rfl, rfl⟩ rfl ?_
    refine MM.istore_n (i := 3) (lv' := [(3, .int v6), (2, .int v4), (0, .ref 30), (1, .int x1)]) rfl rfl (Nat.le_of_ble_eq_true rfl) rfl d_JL_indexOf_21 rfl ?_
    refine MM.iload_n (i := 2) rfl rfl d_JL_indexOf_22 rfl ?_
    refine MM.iload_n (i := 3) rfl rfl d_JL_indexOf_23 rfl ?_
    obtain ⟨m10, m11⟩ := mm_ifE hf
    refine MM.icmp_lt (tgt := 29) d_JL_indexOf_24 rfl rfl (fun c9 => ?_) (fun c9 => ?_)
    · replace hf := m10 c9
      refine MM.aload_n (i := 0) rfl rfl d_JL_indexOf_29 rfl ?_
      refine MM.iload_n (i := 1) rfl rfl d_JL_indexOf_30 rfl ?_
      refine MM.iload_n (i := 2) rfl rfl d_JL_indexOf_31 rfl ?_
      refine MM.iload_n (i := 3) rfl rfl d_JL_indexOf_32 rfl ?_
      obtain ⟨v8, e7, hf⟩ := mm_bind hf
      refine MM.callS1 (T_JL_indexOfChar V l x1 v4 v6 h _ e7) (fun _ _ q => q) cal_JL_indexOfChar rfl ww_610 ww_609 (by decide) (by simp [Value.category]) d_JL_indexOf_33 rfl ⟨rfl, rfl⟩ rfl ?_
      obtain rfl := Option.some.inj hf
      subst hZ
      exact MM.iret rfl d_JL_indexOf_36 ⟨rfl, rfl⟩
    · replace hf := m11 c9
      refine MM.iconst ic_m1 d_JL_indexOf_27 rfl ?_
      obtain rfl := Option.some.inj hf
      subst hZ
      exact MM.iret rfl d_JL_indexOf_28 ⟨rfl, rfl⟩
  · replace hf := m13 c12
    refine MM.iconst ic_m1 d_JL_indexOf_7 rfl ?_
    obtain rfl := Option.some.inj hf
    subst hZ
    exact MM.iret rfl d_JL_indexOf_8 ⟨rfl, rfl⟩
theorem d_JS_indexOf_III_0 : decode cJ0_indexOf_7cf53 0 = .ok (.aload_n 0, 1) := by decide +kernel
theorem d_JS_indexOf_III_1 : decode cJ0_indexOf_7cf53 1 = .ok (.invokevirtual 492, 3) := by decide +kernel
theorem d_JS_indexOf_III_4 : decode cJ0_indexOf_7cf53 4 = .ok (.ifCond .eq 19, 3) := by decide +kernel
theorem d_JS_indexOf_III_7 : decode cJ0_indexOf_7cf53 7 = .ok (.aload_n 0, 1) := by decide +kernel
theorem d_JS_indexOf_III_8 : decode cJ0_indexOf_7cf53 8 = .ok (.getfield 9, 3) := by decide +kernel
theorem d_JS_indexOf_III_11 : decode cJ0_indexOf_7cf53 11 = .ok (.iload_n 1, 1) := by decide +kernel
theorem d_JS_indexOf_III_12 : decode cJ0_indexOf_7cf53 12 = .ok (.iload_n 2, 1) := by decide +kernel
theorem d_JS_indexOf_III_13 : decode cJ0_indexOf_7cf53 13 = .ok (.aload_n 0, 1) := by decide +kernel
theorem d_JS_indexOf_III_14 : decode cJ0_indexOf_7cf53 14 = .ok (.invokevirtual 505, 3) := by decide +kernel
theorem d_JS_indexOf_III_17 : decode cJ0_indexOf_7cf53 17 = .ok (.invokestatic 637, 3) := by decide +kernel
theorem d_JS_indexOf_III_20 : decode cJ0_indexOf_7cf53 20 = .ok (.goto 16, 3) := by decide +kernel
theorem d_JS_indexOf_III_23 : decode cJ0_indexOf_7cf53 23 = .ok (.aload_n 0, 1) := by decide +kernel
theorem d_JS_indexOf_III_24 : decode cJ0_indexOf_7cf53 24 = .ok (.getfield 9, 3) := by decide +kernel
theorem d_JS_indexOf_III_27 : decode cJ0_indexOf_7cf53 27 = .ok (.iload_n 1, 1) := by decide +kernel
theorem d_JS_indexOf_III_28 : decode cJ0_indexOf_7cf53 28 = .ok (.iload_n 2, 1) := by decide +kernel
theorem d_JS_indexOf_III_29 : decode cJ0_indexOf_7cf53 29 = .ok (.aload_n 0, 1) := by decide +kernel
theorem d_JS_indexOf_III_30 : decode cJ0_indexOf_7cf53 30 = .ok (.invokevirtual 505, 3) := by decide +kernel
theorem d_JS_indexOf_III_36 : decode cJ0_indexOf_7cf53 36 = .ok (.ireturn, 1) := by decide +kernel
noncomputable def f_JS_indexOf_III (x1 : Int32) (x2 : Int32) : Option Int32 := (f_JS_isLatin1).bind fun v2 => if v2 = 0 then ((f_JS_length).bind fun v4 => none) else ((f_JS_length).bind fun v6 => (f_JL_indexOf x1 x2 v6).bind fun v8 => some v8)
theorem T_JS_indexOf_III (V : mm_V) (l : Launch) (x1 : Int32) (x2 : Int32) (h : mm_H) (r : Int32) (hf : f_JS_indexOf_III x1 x2 = some r) : MT V l Y_JS_indexOf_III 3 [.ref 29, .int x1, .int x2] (fun r1 h1 => r1 = some (.int r) ∧ h1 = h) h := by
  unfold f_JS_indexOf_III at hf
  refine MT.intro (pn_JS rfl) [(0, .ref 29), (1, .int x1), (2, .int x2)] rfl (Nat.le_of_ble_eq_true rfl) ?_
  generalize hZ : mm_Z V _ = Z0
  refine MM.aload_n (i := 0) rfl rfl d_JS_indexOf_III_0 rfl ?_
  obtain ⟨v2, e1, hf⟩ := mm_bind hf
  refine MM.callT1 (T_JS_isLatin1 V l  h _ e1) cal_JS_isLatin1 rfl rfl (by decide) ww_585 ww_584 ww_583 (by decide) (by simp [Value.category]) d_JS_indexOf_III_1 rfl ⟨rfl, rfl⟩ rfl ?_
  obtain ⟨m10, m11⟩ := mm_ifE hf
  refine MM.if_eq (tgt := 23) d_JS_indexOf_III_4 rfl rfl (fun c9 => ?_) (fun c9 => ?_)
  · replace hf := m10 c9
    refine MM.aload_n (i := 0) rfl rfl d_JS_indexOf_III_23 rfl ?_
    refine MM.strV ww_2049 d_JS_indexOf_III_24 rfl ?_
    refine MM.iload_n (i := 1) rfl rfl d_JS_indexOf_III_27 rfl ?_
    refine MM.iload_n (i := 2) rfl rfl d_JS_indexOf_III_28 rfl ?_
    refine MM.aload_n (i := 0) rfl rfl d_JS_indexOf_III_29 rfl ?_
    obtain ⟨v4, e3, hf⟩ := mm_bind hf
    refine MM.callT1 (T_JS_length V l  h _ e3) cal_JS_length rfl rfl (by decide) ww_591 ww_590 ww_589 (by decide) (by simp [Value.category]) d_JS_indexOf_III_30 rfl ⟨rfl, rfl⟩ rfl ?_
    cases hf
  · replace hf := m11 c9
    refine MM.aload_n (i := 0) rfl rfl d_JS_indexOf_III_7 rfl ?_
    refine MM.strV ww_2049 d_JS_indexOf_III_8 rfl ?_
    refine MM.iload_n (i := 1) rfl rfl d_JS_indexOf_III_11 rfl ?_
    refine MM.iload_n (i := 2) rfl rfl d_JS_indexOf_III_12 rfl ?_
    refine MM.aload_n (i := 0) rfl rfl d_JS_indexOf_III_13 rfl ?_
    obtain ⟨v6, e5, hf⟩ := mm_bind hf
    refine MM.callT1 (T_JS_length V l  h _ e5) cal_JS_length rfl rfl (by decide) ww_591 ww_590 ww_589 (by decide) (by simp [Value.category]) d_JS_indexOf_III_14 rfl ⟨rfl, rfl⟩ rfl ?_
    obtain ⟨v8, e7, hf⟩ := mm_bind hf
    refine MM.callS1 (T_JL_indexOf V l x1 x2 v6 h _ e7) (fun _ _ q => q) cal_JL_indexOf rfl ww_598 ww_597 (by decide) (by simp [Value.category]) d_JS_indexOf_III_17 rfl ⟨rfl, rfl⟩ rfl ?_
    refine MM.goto (tgt := 36) d_JS_indexOf_III_20 rfl ?_
    obtain rfl := Option.some.inj hf
    subst hZ
    exact MM.iret rfl d_JS_indexOf_III_36 ⟨rfl, rfl⟩
theorem d_JS_indexOf_II_0 : decode cJ0_indexOf_0f7a4 0 = .ok (.aload_n 0, 1) := by decide +kernel
theorem d_JS_indexOf_II_1 : decode cJ0_indexOf_0f7a4 1 = .ok (.iload_n 1, 1) := by decide +kernel
theorem d_JS_indexOf_II_2 : decode cJ0_indexOf_0f7a4 2 = .ok (.iconst 0, 1) := by decide +kernel
theorem d_JS_indexOf_II_3 : decode cJ0_indexOf_0f7a4 3 = .ok (.invokevirtual 633, 3) := by decide +kernel
theorem d_JS_indexOf_II_6 : decode cJ0_indexOf_0f7a4 6 = .ok (.ireturn, 1) := by decide +kernel
noncomputable def f_JS_indexOf_II (x1 : Int32) : Option Int32 := (f_JS_indexOf_III x1 0).bind fun v2 => some v2
theorem T_JS_indexOf_II (V : mm_V) (l : Launch) (x1 : Int32) (h : mm_H) (r : Int32) (hf : f_JS_indexOf_II x1 = some r) : MT V l Y_JS_indexOf_II 4 [.ref 29, .int x1] (fun r1 h1 => r1 = some (.int r) ∧ h1 = h) h := by
  unfold f_JS_indexOf_II at hf
  refine MT.intro (pn_JS rfl) [(0, .ref 29), (1, .int x1)] rfl (Nat.le_of_ble_eq_true rfl) ?_
  generalize hZ : mm_Z V _ = Z0
  refine MM.aload_n (i := 0) rfl rfl d_JS_indexOf_II_0 rfl ?_
  refine MM.iload_n (i := 1) rfl rfl d_JS_indexOf_II_1 rfl ?_
  refine MM.iconst ic_0 d_JS_indexOf_II_2 rfl ?_
  obtain ⟨v2, e1, hf⟩ := mm_bind hf
  refine MM.callT1 (T_JS_indexOf_III V l x1 0 h _ e1) cal_JS_indexOf_III rfl rfl (by decide) ww_581 ww_580 ww_579 (by decide) (by simp [Value.category]) d_JS_indexOf_II_3 rfl ⟨rfl, rfl⟩ rfl ?_
  obtain rfl := Option.some.inj hf
  subst hZ
  exact MM.iret rfl d_JS_indexOf_II_6 ⟨rfl, rfl⟩
theorem d_Ta_next_0 : decode cX7_next 0 = .ok (.aload_n 0, 1) := by decide +kernel
theorem d_Ta_next_1 : decode cX7_next 1 = .ok (.getfield 19, 3) := by decide +kernel
theorem d_Ta_next_4 : decode cX7_next 4 = .ok (.aload_n 0, 1) := by decide +kernel
theorem d_Ta_next_5 : decode cX7_next 5 = .ok (.getfield 15, 3) := by decide +kernel
theorem d_Ta_next_8 : decode cX7_next 8 = .ok (.if_icmp .ge 44, 3) := by decide +kernel
theorem d_Ta_next_11 : decode cX7_next 11 = .ok (.aload_n 0, 1) := by decide +kernel
theorem d_Ta_next_12 : decode cX7_next 12 = .ok (.getfield 11, 3) := by decide +kernel
theorem d_Ta_next_15 : decode cX7_next 15 = .ok (.aload_n 0, 1) := by decide +kernel
theorem d_Ta_next_16 : decode cX7_next 16 = .ok (.getfield 19, 3) := by decide +kernel
theorem d_Ta_next_19 : decode cX7_next 19 = .ok (.caload, 1) := by decide +kernel
theorem d_Ta_next_20 : decode cX7_next 20 = .ok (.bipush 10, 2) := by decide +kernel
theorem d_Ta_next_22 : decode cX7_next 22 = .ok (.if_icmp .eq 17, 3) := by decide +kernel
theorem d_Ta_next_25 : decode cX7_next 25 = .ok (.aload_n 0, 1) := by decide +kernel
theorem d_Ta_next_26 : decode cX7_next 26 = .ok (.getfield 11, 3) := by decide +kernel
theorem d_Ta_next_29 : decode cX7_next 29 = .ok (.aload_n 0, 1) := by decide +kernel
theorem d_Ta_next_30 : decode cX7_next 30 = .ok (.getfield 19, 3) := by decide +kernel
theorem d_Ta_next_33 : decode cX7_next 33 = .ok (.caload, 1) := by decide +kernel
theorem d_Ta_next_34 : decode cX7_next 34 = .ok (.bipush 32, 2) := by decide +kernel
theorem d_Ta_next_36 : decode cX7_next 36 = .ok (.if_icmp .ne 16, 3) := by decide +kernel
theorem d_Ta_next_39 : decode cX7_next 39 = .ok (.aload_n 0, 1) := by decide +kernel
theorem d_Ta_next_40 : decode cX7_next 40 = .ok (.dup, 1) := by decide +kernel
theorem d_Ta_next_41 : decode cX7_next 41 = .ok (.getfield 19, 3) := by decide +kernel
theorem d_Ta_next_44 : decode cX7_next 44 = .ok (.iconst 1, 1) := by decide +kernel
theorem d_Ta_next_45 : decode cX7_next 45 = .ok (.iadd, 1) := by decide +kernel
theorem d_Ta_next_46 : decode cX7_next 46 = .ok (.putfield 19, 3) := by decide +kernel
theorem d_Ta_next_49 : decode cX7_next 49 = .ok (.goto (-49), 3) := by decide +kernel
theorem d_Ta_next_52 : decode cX7_next 52 = .ok (.aload_n 0, 1) := by decide +kernel
theorem d_Ta_next_53 : decode cX7_next 53 = .ok (.aload_n 0, 1) := by decide +kernel
theorem d_Ta_next_54 : decode cX7_next 54 = .ok (.getfield 19, 3) := by decide +kernel
theorem d_Ta_next_57 : decode cX7_next 57 = .ok (.putfield 22, 3) := by decide +kernel
theorem d_Ta_next_60 : decode cX7_next 60 = .ok (.aload_n 0, 1) := by decide +kernel
theorem d_Ta_next_61 : decode cX7_next 61 = .ok (.aconst_null, 1) := by decide +kernel
theorem d_Ta_next_62 : decode cX7_next 62 = .ok (.putfield 35, 3) := by decide +kernel
theorem d_Ta_next_65 : decode cX7_next 65 = .ok (.aload_n 0, 1) := by decide +kernel
theorem d_Ta_next_66 : decode cX7_next 66 = .ok (.getfield 19, 3) := by decide +kernel
theorem d_Ta_next_69 : decode cX7_next 69 = .ok (.aload_n 0, 1) := by decide +kernel
theorem d_Ta_next_70 : decode cX7_next 70 = .ok (.getfield 15, 3) := by decide +kernel
theorem d_Ta_next_73 : decode cX7_next 73 = .ok (.if_icmp .lt 9, 3) := by decide +kernel
theorem d_Ta_next_76 : decode cX7_next 76 = .ok (.aload_n 0, 1) := by decide +kernel
theorem d_Ta_next_77 : decode cX7_next 77 = .ok (.iconst 1, 1) := by decide +kernel
theorem d_Ta_next_78 : decode cX7_next 78 = .ok (.putfield 25, 3) := by decide +kernel
theorem d_Ta_next_81 : decode cX7_next 81 = .ok (.return_, 1) := by decide +kernel
theorem d_Ta_next_82 : decode cX7_next 82 = .ok (.aload_n 0, 1) := by decide +kernel
theorem d_Ta_next_83 : decode cX7_next 83 = .ok (.getfield 11, 3) := by decide +kernel
theorem d_Ta_next_86 : decode cX7_next 86 = .ok (.aload_n 0, 1) := by decide +kernel
theorem d_Ta_next_87 : decode cX7_next 87 = .ok (.getfield 19, 3) := by decide +kernel
theorem d_Ta_next_90 : decode cX7_next 90 = .ok (.caload, 1) := by decide +kernel
theorem d_Ta_next_91 : decode cX7_next 91 = .ok (.istore_n 1, 1) := by decide +kernel
theorem d_Ta_next_92 : decode cX7_next 92 = .ok (.iload_n 1, 1) := by decide +kernel
theorem d_Ta_next_93 : decode cX7_next 93 = .ok (.bipush 97, 2) := by decide +kernel
theorem d_Ta_next_95 : decode cX7_next 95 = .ok (.if_icmp .lt 16, 3) := by decide +kernel
theorem d_Ta_next_98 : decode cX7_next 98 = .ok (.iload_n 1, 1) := by decide +kernel
theorem d_Ta_next_99 : decode cX7_next 99 = .ok (.bipush 122, 2) := by decide +kernel
theorem d_Ta_next_101 : decode cX7_next 101 = .ok (.if_icmp .gt 10, 3) := by decide +kernel
theorem d_Ta_next_104 : decode cX7_next 104 = .ok (.aload_n 0, 1) := by decide +kernel
theorem d_Ta_next_105 : decode cX7_next 105 = .ok (.invokevirtual 49, 3) := by decide +kernel
theorem d_Ta_next_108 : decode cX7_next 108 = .ok (.goto 55, 3) := by decide +kernel
theorem d_Ta_next_111 : decode cX7_next 111 = .ok (.iload_n 1, 1) := by decide +kernel
theorem d_Ta_next_112 : decode cX7_next 112 = .ok (.bipush 48, 2) := by decide +kernel
theorem d_Ta_next_114 : decode cX7_next 114 = .ok (.if_icmp .lt 16, 3) := by decide +kernel
theorem d_Ta_next_117 : decode cX7_next 117 = .ok (.iload_n 1, 1) := by decide +kernel
theorem d_Ta_next_118 : decode cX7_next 118 = .ok (.bipush 57, 2) := by decide +kernel
theorem d_Ta_next_120 : decode cX7_next 120 = .ok (.if_icmp .gt 10, 3) := by decide +kernel
theorem d_Ta_next_123 : decode cX7_next 123 = .ok (.aload_n 0, 1) := by decide +kernel
theorem d_Ta_next_124 : decode cX7_next 124 = .ok (.invokevirtual 52, 3) := by decide +kernel
theorem d_Ta_next_127 : decode cX7_next 127 = .ok (.goto 36, 3) := by decide +kernel
theorem d_Ta_next_130 : decode cX7_next 130 = .ok (.aload_n 0, 1) := by decide +kernel
theorem d_Ta_next_131 : decode cX7_next 131 = .ok (.iload_n 1, 1) := by decide +kernel
theorem d_Ta_next_132 : decode cX7_next 132 = .ok (.putfield 39, 3) := by decide +kernel
theorem d_Ta_next_135 : decode cX7_next 135 = .ok (.aload_n 0, 1) := by decide +kernel
theorem d_Ta_next_136 : decode cX7_next 136 = .ok (.ldc 55, 2) := by decide +kernel
theorem d_Ta_next_138 : decode cX7_next 138 = .ok (.iload_n 1, 1) := by decide +kernel
theorem d_Ta_next_139 : decode cX7_next 139 = .ok (.invokevirtual 57, 3) := by decide +kernel
theorem d_Ta_next_142 : decode cX7_next 142 = .ok (.ifCond .lt 7, 3) := by decide +kernel
theorem d_Ta_next_145 : decode cX7_next 145 = .ok (.iconst 4, 1) := by decide +kernel
theorem d_Ta_next_146 : decode cX7_next 146 = .ok (.goto 4, 3) := by decide +kernel
theorem d_Ta_next_149 : decode cX7_next 149 = .ok (.iconst 0, 1) := by decide +kernel
theorem d_Ta_next_150 : decode cX7_next 150 = .ok (.putfield 25, 3) := by decide +kernel
theorem d_Ta_next_153 : decode cX7_next 153 = .ok (.aload_n 0, 1) := by decide +kernel
theorem d_Ta_next_154 : decode cX7_next 154 = .ok (.dup, 1) := by decide +kernel
theorem d_Ta_next_155 : decode cX7_next 155 = .ok (.getfield 19, 3) := by decide +kernel
theorem d_Ta_next_158 : decode cX7_next 158 = .ok (.iconst 1, 1) := by decide +kernel
theorem d_Ta_next_159 : decode cX7_next 159 = .ok (.iadd, 1) := by decide +kernel
theorem d_Ta_next_160 : decode cX7_next 160 = .ok (.putfield 19, 3) := by decide +kernel
theorem d_Ta_next_163 : decode cX7_next 163 = .ok (.return_, 1) := by decide +kernel
noncomputable def f_Ta_next (h : mm_H) : Option mm_H := (if (h.1 33 1) ≤ (h.1 33 2) then (some h) else ((mm_ix (h.1 33 2) 1000).bind fun k3 => mm_jp (fun (j5 : Unit) => (mm_let (mm_pI h 33 2 ((h.1 33 2) + 1)) fun h8 => (mm_while (σ := mm_H) (ρ := mm_H) (fun s10 => if (s10.1 33 1) ≤ (s10.1 33 2) then (some (Sum.inr s10)) else ((mm_ix (s10.1 33 2) 1000).bind fun k16 => mm_jp (fun (j18 : Unit) => (mm_let (mm_pI s10 33 2 ((s10.1 33 2) + 1)) fun h21 => some (Sum.inl h21))) fun k20 => if (s10.1 34 k16) = 10 then (k20 ()) else ((mm_ix (s10.1 33 2) 1000).bind fun k23 => if (s10.1 34 k23) = 32 then (k20 ()) else (some (Sum.inr s10))))) h8).bind fun v13 => some v13)) fun k7 => if (h.1 34 k3) = 10 then (k7 ()) else ((mm_ix (h.1 33 2) 1000).bind fun k35 => if (h.1 34 k35) = 32 then (k7 ()) else (some h))) : Option mm_H).bind fun j1 => mm_let (mm_pI j1 33 3 (j1.1 33 2)) fun h47 => mm_let (mm_pR h47 33 7 none) fun h49 => if (h49.1 33 2) < (h49.1 33 1) then ((mm_ix (h49.1 33 2) 1000).bind fun k51 => mm_let (h49.1 34 k51) fun y53 => mm_jp (fun (j55 : Unit) => (mm_jp (fun (j58 : Unit) => ((mm_chr y53).bind fun _ => mm_let (mm_pI h49 33 8 y53) fun h61 => (f_JS_indexOf_II y53).bind fun v66 => (if v66 < 0 then (some 0) else (some 4) : Option Int32).bind fun j67 => mm_let (mm_pI h61 33 4 j67) fun h72 => mm_let (mm_pI h72 33 2 ((h72.1 33 2) + 1)) fun h74 => some h74)) fun k60 => if y53 < 48 then (k60 ()) else (if 57 < y53 then (k60 ()) else ((f_Ta_scanNumber h49).bind fun v78 => some v78)))) fun k57 => if y53 < 97 then (k57 ()) else (if 122 < y53 then (k57 ()) else ((f_Ta_scanWord h49).bind fun v87 => some v87))) else (mm_let (mm_pI h49 33 4 1) fun h95 => some h95)
theorem T_Ta_next (V : mm_V) (l : Launch) (h : mm_H) (r : mm_H) (hf : f_Ta_next h = some r) : MT V l Y_Ta_next 5 [.ref 33] (fun r1 h1 => r1 = none ∧ h1 = r) h := by
  unfold f_Ta_next at hf
  refine MT.intro (pn_Ta rfl) [(0, .ref 33)] rfl (Nat.le_of_ble_eq_true rfl) ?_
  generalize hZ : mm_Z V _ = Z0
  refine MM.aload_n (i := 0) rfl rfl d_Ta_next_0 rfl ?_
  refine MM.getI 6 tg_33 lays_6 gq_6_2 ww_154 d_Ta_next_1 rfl ?_
  refine MM.aload_n (i := 0) rfl rfl d_Ta_next_4 rfl ?_
  refine MM.getI 6 tg_33 lays_6 gq_6_1 ww_152 d_Ta_next_5 rfl ?_
  obtain ⟨j1, e100, hf⟩ := mm_bind hf
  have K2 : MM V l Y_Ta_next 5 0 0 Z0 52 [(0, .ref 33)] [] j1 := by
    refine MM.aload_n (i := 0) rfl rfl d_Ta_next_52 rfl ?_
    refine MM.aload_n (i := 0) rfl rfl d_Ta_next_53 rfl ?_
    refine MM.getI 6 tg_33 lays_6 gq_6_2 ww_154 d_Ta_next_54 rfl ?_
    obtain ⟨h47, e48, hf⟩ := mm_letE hf
    refine MM.putI e48 6 tg_33 lays_6 toks_6 pq_6_3 ww_155 d_Ta_next_57 rfl ?_
    refine MM.aload_n (i := 0) rfl rfl d_Ta_next_60 rfl ?_
    refine MM.anull d_Ta_next_61 rfl ?_
    obtain ⟨h49, e50, hf⟩ := mm_letE hf
    refine MM.putW e50 6 tg_33 lays_6 toks_6 pq_6_7 ww_165 d_Ta_next_62 rfl ?_
    refine MM.aload_n (i := 0) rfl rfl d_Ta_next_65 rfl ?_
    refine MM.getI 6 tg_33 lays_6 gq_6_2 ww_154 d_Ta_next_66 rfl ?_
    refine MM.aload_n (i := 0) rfl rfl d_Ta_next_69 rfl ?_
    refine MM.getI 6 tg_33 lays_6 gq_6_1 ww_152 d_Ta_next_70 rfl ?_
    obtain ⟨m98, m99⟩ := mm_ifE hf
    refine MM.icmp_lt (tgt := 82) d_Ta_next_73 rfl rfl (fun c97 => ?_) (fun c97 => ?_)
    · replace hf := m98 c97
      refine MM.aload_n (i := 0) rfl rfl d_Ta_next_82 rfl ?_
      refine MM.gR 6 1 tg_33 rq_6_0 rfl lays_6 ww_151 d_Ta_next_83 rfl ?_
      refine MM.aload_n (i := 0) rfl rfl d_Ta_next_86 rfl ?_
      refine MM.getI 6 tg_33 lays_6 gq_6_2 ww_154 d_Ta_next_87 rfl ?_
      obtain ⟨k51, e52, hf⟩ := mm_bind hf
      refine MM.gC e52 al_34 d_Ta_next_90 rfl ?_
      obtain ⟨y53, e54, hf⟩ := mm_letE hf
      refine MM.istore_n (i := 1) (lv' := [(1, .int y53), (0, .ref 33)]) e54 rfl (Nat.le_of_ble_eq_true rfl) rfl d_Ta_next_91 rfl ?_
      refine MM.iload_n (i := 1) rfl rfl d_Ta_next_92 rfl ?_
      refine MM.bipush bp_97 d_Ta_next_93 rfl ?_
      obtain ⟨k57, e94, hf⟩ := mm_jpE hf
      have K56 : ∀ j55, k57 j55 = some r → MM V l Y_Ta_next 5 0 0 Z0 111 [(0, .ref 33), (1, .int y53)] [] h49 := by
        intro j55 hf
        rw [e94] at hf
        refine MM.iload_n (i := 1) rfl rfl d_Ta_next_111 rfl ?_
        refine MM.bipush bp_48 d_Ta_next_112 rfl ?_
        obtain ⟨k60, e85, hf⟩ := mm_jpE hf
        have K59 : ∀ j58, k60 j58 = some r → MM V l Y_Ta_next 5 0 0 Z0 130 [(0, .ref 33), (1, .int y53)] [] h49 := by
          intro j58 hf
          rw [e85] at hf
          refine MM.aload_n (i := 0) rfl rfl d_Ta_next_130 rfl ?_
          refine MM.iload_n (i := 1) rfl rfl d_Ta_next_131 rfl ?_
          obtain ⟨u63, e64, hf⟩ := mm_bind hf
          obtain ⟨h61, e62, hf⟩ := mm_letE hf
          refine MM.putC e62 6 tg_33 lays_6 toks_6 pq_6_8 (mm_chrE e64) ww_169 d_Ta_next_132 rfl ?_
          refine MM.aload_n (i := 0) rfl rfl d_Ta_next_135 rfl ?_
          refine MM.ldcS rfl d_Ta_next_136 rfl ?_
          refine MM.iload_n (i := 1) rfl rfl d_Ta_next_138 rfl ?_
          obtain ⟨v66, e65, hf⟩ := mm_bind hf
          refine MM.callT1 (T_JS_indexOf_II V l y53 h61 _ e65) cal_JS_indexOf_II rfl rfl (by decide) ww_577 ww_576 ww_575 (by decide) (by simp [Value.category]) d_Ta_next_139 rfl ⟨rfl, rfl⟩ rfl ?_
          obtain ⟨j67, e76, hf⟩ := mm_bind hf
          have K68 : MM V l Y_Ta_next 5 0 0 Z0 150 [(0, .ref 33)] [.int j67, .ref 33] h61 := by
            obtain ⟨h72, e73, hf⟩ := mm_letE hf
            refine MM.putI e73 6 tg_33 lays_6 toks_6 pq_6_4 ww_156 d_Ta_next_150 rfl ?_
            refine MM.aload_n (i := 0) rfl rfl d_Ta_next_153 rfl ?_
            refine MM.dup rfl d_Ta_next_154 rfl ?_
            refine MM.getI 6 tg_33 lays_6 gq_6_2 ww_154 d_Ta_next_155 rfl ?_
            refine MM.iconst ic_1 d_Ta_next_158 rfl ?_
            refine MM.iadd d_Ta_next_159 rfl ?_
            obtain ⟨h74, e75, hf⟩ := mm_letE hf
            refine MM.putI e75 6 tg_33 lays_6 toks_6 pq_6_2 ww_154 d_Ta_next_160 rfl ?_
            obtain rfl := Option.some.inj hf
            subst hZ
            exact MM.vret rfl d_Ta_next_163 ⟨rfl, rfl⟩
          clear hf
          have hf := e76
          clear e76
          obtain ⟨m70, m71⟩ := mm_ifE hf
          refine MM.if_lt (tgt := 149) d_Ta_next_142 rfl rfl (fun c69 => ?_) (fun c69 => ?_)
          · replace hf := m70 c69
            refine MM.iconst ic_0 d_Ta_next_149 rfl ?_
            obtain rfl := Option.some.inj hf
            exact MM.sub [0] (by rfl) K68
          · replace hf := m71 c69
            refine MM.iconst ic_4 d_Ta_next_145 rfl ?_
            refine MM.goto (tgt := 150) d_Ta_next_146 rfl ?_
            obtain rfl := Option.some.inj hf
            exact MM.sub [0] (by rfl) K68
        clear e85
        obtain ⟨m83, m84⟩ := mm_ifE hf
        refine MM.icmp_lt (tgt := 130) d_Ta_next_114 rfl rfl (fun c82 => ?_) (fun c82 => ?_)
        · replace hf := m83 c82
          exact MM.sub [0, 1] (by rfl) (K59 _ hf)
        · replace hf := m84 c82
          refine MM.iload_n (i := 1) rfl rfl d_Ta_next_117 rfl ?_
          refine MM.bipush bp_57 d_Ta_next_118 rfl ?_
          obtain ⟨m80, m81⟩ := mm_ifE hf
          refine MM.icmp_gt (tgt := 130) d_Ta_next_120 rfl rfl (fun c79 => ?_) (fun c79 => ?_)
          · replace hf := m80 c79
            exact MM.sub [0, 1] (by rfl) (K59 _ hf)
          · replace hf := m81 c79
            refine MM.aload_n (i := 0) rfl rfl d_Ta_next_123 rfl ?_
            obtain ⟨v78, e77, hf⟩ := mm_bind hf
            refine MM.callV0 (T_Ta_scanNumber V l  h49 _ e77) (fun _ _ q => q) cal_Ta_scanNumber rfl tg_33 ct_6 ww_1 ww_572 ww_570 (by decide) (by simp [Value.category]) d_Ta_next_124 rfl ⟨rfl, rfl⟩ rfl ?_
            refine MM.goto (tgt := 163) d_Ta_next_127 rfl ?_
            obtain rfl := Option.some.inj hf
            subst hZ
            exact MM.vret rfl d_Ta_next_163 ⟨rfl, rfl⟩
      clear e94
      obtain ⟨m92, m93⟩ := mm_ifE hf
      refine MM.icmp_lt (tgt := 111) d_Ta_next_95 rfl rfl (fun c91 => ?_) (fun c91 => ?_)
      · replace hf := m92 c91
        exact MM.sub [1, 0] (by rfl) (K56 _ hf)
      · replace hf := m93 c91
        refine MM.iload_n (i := 1) rfl rfl d_Ta_next_98 rfl ?_
        refine MM.bipush bp_122 d_Ta_next_99 rfl ?_
        obtain ⟨m89, m90⟩ := mm_ifE hf
        refine MM.icmp_gt (tgt := 111) d_Ta_next_101 rfl rfl (fun c88 => ?_) (fun c88 => ?_)
        · replace hf := m89 c88
          exact MM.sub [1, 0] (by rfl) (K56 _ hf)
        · replace hf := m90 c88
          refine MM.aload_n (i := 0) rfl rfl d_Ta_next_104 rfl ?_
          obtain ⟨v87, e86, hf⟩ := mm_bind hf
          refine MM.callV0 (T_Ta_scanWord V l  h49 _ e86) (fun _ _ q => q) cal_Ta_scanWord rfl tg_33 ct_6 ww_0 ww_565 ww_563 (by decide) (by simp [Value.category]) d_Ta_next_105 rfl ⟨rfl, rfl⟩ rfl ?_
          refine MM.goto (tgt := 163) d_Ta_next_108 rfl ?_
          obtain rfl := Option.some.inj hf
          subst hZ
          exact MM.vret rfl d_Ta_next_163 ⟨rfl, rfl⟩
    · replace hf := m99 c97
      refine MM.aload_n (i := 0) rfl rfl d_Ta_next_76 rfl ?_
      refine MM.iconst ic_1 d_Ta_next_77 rfl ?_
      obtain ⟨h95, e96, hf⟩ := mm_letE hf
      refine MM.putI e96 6 tg_33 lays_6 toks_6 pq_6_4 ww_156 d_Ta_next_78 rfl ?_
      obtain rfl := Option.some.inj hf
      subst hZ
      exact MM.vret rfl d_Ta_next_81 ⟨rfl, rfl⟩
  clear hf
  have hf := e100
  clear e100
  obtain ⟨m45, m46⟩ := mm_ifE hf
  refine MM.icmp_ge (tgt := 52) d_Ta_next_8 rfl rfl (fun c44 => ?_) (fun c44 => ?_)
  · replace hf := m45 c44
    obtain rfl := Option.some.inj hf
    exact MM.sub [0] (by rfl) K2
  · replace hf := m46 c44
    refine MM.aload_n (i := 0) rfl rfl d_Ta_next_11 rfl ?_
    refine MM.gR 6 1 tg_33 rq_6_0 rfl lays_6 ww_151 d_Ta_next_12 rfl ?_
    refine MM.aload_n (i := 0) rfl rfl d_Ta_next_15 rfl ?_
    refine MM.getI 6 tg_33 lays_6 gq_6_2 ww_154 d_Ta_next_16 rfl ?_
    obtain ⟨k3, e4, hf⟩ := mm_bind hf
    refine MM.gC e4 al_34 d_Ta_next_19 rfl ?_
    refine MM.bipush bp_10 d_Ta_next_20 rfl ?_
    obtain ⟨k7, e43, hf⟩ := mm_jpE hf
    have K6 : ∀ j5, k7 j5 = some j1 → MM V l Y_Ta_next 5 0 0 Z0 39 [(0, .ref 33)] [] h := by
      intro j5 hf
      rw [e43] at hf
      refine MM.aload_n (i := 0) rfl rfl d_Ta_next_39 rfl ?_
      refine MM.dup rfl d_Ta_next_40 rfl ?_
      refine MM.getI 6 tg_33 lays_6 gq_6_2 ww_154 d_Ta_next_41 rfl ?_
      refine MM.iconst ic_1 d_Ta_next_44 rfl ?_
      refine MM.iadd d_Ta_next_45 rfl ?_
      obtain ⟨h8, e9, hf⟩ := mm_letE hf
      refine MM.putI e9 6 tg_33 lays_6 toks_6 pq_6_2 ww_154 d_Ta_next_46 rfl ?_
      refine MM.goto (tgt := 0) d_Ta_next_49 rfl ?_
      obtain ⟨v13, e15, hf⟩ := mm_bind hf
      have K14 : MM V l Y_Ta_next 5 0 0 Z0 52 [(0, .ref 33)] [] v13 := by
        obtain rfl := Option.some.inj hf
        exact MM.sub [0] (by rfl) K2
      clear hf
      refine MM.sub [0] (by rfl) (mm_while_ind (fun s10 => MM V l Y_Ta_next 5 0 0 Z0 0 [(0, .ref 33)] [] s10) e15 (fun s10 q11 hf hx12 => ?_))
      refine MM.aload_n (i := 0) rfl rfl d_Ta_next_0 rfl ?_
      refine MM.getI 6 tg_33 lays_6 gq_6_2 ww_154 d_Ta_next_1 rfl ?_
      refine MM.aload_n (i := 0) rfl rfl d_Ta_next_4 rfl ?_
      refine MM.getI 6 tg_33 lays_6 gq_6_1 ww_152 d_Ta_next_5 rfl ?_
      obtain ⟨m33, m34⟩ := mm_ifE hf
      refine MM.icmp_ge (tgt := 52) d_Ta_next_8 rfl rfl (fun c32 => ?_) (fun c32 => ?_)
      · replace hf := m33 c32
        obtain rfl := Option.some.inj hf
        obtain rfl := Option.some.inj (mm_wxR hx12)
        exact MM.sub [0] (by rfl) K14
      · replace hf := m34 c32
        refine MM.aload_n (i := 0) rfl rfl d_Ta_next_11 rfl ?_
        refine MM.gR 6 1 tg_33 rq_6_0 rfl lays_6 ww_151 d_Ta_next_12 rfl ?_
        refine MM.aload_n (i := 0) rfl rfl d_Ta_next_15 rfl ?_
        refine MM.getI 6 tg_33 lays_6 gq_6_2 ww_154 d_Ta_next_16 rfl ?_
        obtain ⟨k16, e17, hf⟩ := mm_bind hf
        refine MM.gC e17 al_34 d_Ta_next_19 rfl ?_
        refine MM.bipush bp_10 d_Ta_next_20 rfl ?_
        obtain ⟨k20, e31, hf⟩ := mm_jpE hf
        have K19 : ∀ j18, k20 j18 = some q11 → MM V l Y_Ta_next 5 0 0 Z0 39 [(0, .ref 33)] [] s10 := by
          intro j18 hf
          rw [e31] at hf
          refine MM.aload_n (i := 0) rfl rfl d_Ta_next_39 rfl ?_
          refine MM.dup rfl d_Ta_next_40 rfl ?_
          refine MM.getI 6 tg_33 lays_6 gq_6_2 ww_154 d_Ta_next_41 rfl ?_
          refine MM.iconst ic_1 d_Ta_next_44 rfl ?_
          refine MM.iadd d_Ta_next_45 rfl ?_
          obtain ⟨h21, e22, hf⟩ := mm_letE hf
          refine MM.putI e22 6 tg_33 lays_6 toks_6 pq_6_2 ww_154 d_Ta_next_46 rfl ?_
          refine MM.goto (tgt := 0) d_Ta_next_49 rfl ?_
          obtain rfl := Option.some.inj hf
          have h9 := mm_wxL hx12
          exact MM.sub [0] (by rfl) h9
        clear e31
        obtain ⟨m29, m30⟩ := mm_ifE hf
        refine MM.icmp_eq (tgt := 39) d_Ta_next_22 rfl rfl (fun c28 => ?_) (fun c28 => ?_)
        · replace hf := m29 c28
          exact MM.sub [0] (by rfl) (K19 _ hf)
        · replace hf := m30 c28
          refine MM.aload_n (i := 0) rfl rfl d_Ta_next_25 rfl ?_
          refine MM.gR 6 1 tg_33 rq_6_0 rfl lays_6 ww_151 d_Ta_next_26 rfl ?_
          refine MM.aload_n (i := 0) rfl rfl d_Ta_next_29 rfl ?_
          refine MM.getI 6 tg_33 lays_6 gq_6_2 ww_154 d_Ta_next_30 rfl ?_
          obtain ⟨k23, e24, hf⟩ := mm_bind hf
          refine MM.gC e24 al_34 d_Ta_next_33 rfl ?_
          refine MM.bipush bp_32 d_Ta_next_34 rfl ?_
          obtain ⟨m26, m27⟩ := mm_ifE hf
          refine MM.icmp_ne (tgt := 52) d_Ta_next_36 rfl rfl (fun c25 => ?_) (fun c25 => ?_)
          · replace hf := m27 c25
            obtain rfl := Option.some.inj hf
            obtain rfl := Option.some.inj (mm_wxR hx12)
            exact MM.sub [0] (by rfl) K14
          · replace hf := m26 c25
            exact MM.sub [0] (by rfl) (K19 _ hf)
    clear e43
    obtain ⟨m41, m42⟩ := mm_ifE hf
    refine MM.icmp_eq (tgt := 39) d_Ta_next_22 rfl rfl (fun c40 => ?_) (fun c40 => ?_)
    · replace hf := m41 c40
      exact MM.sub [0] (by rfl) (K6 _ hf)
    · replace hf := m42 c40
      refine MM.aload_n (i := 0) rfl rfl d_Ta_next_25 rfl ?_
      refine MM.gR 6 1 tg_33 rq_6_0 rfl lays_6 ww_151 d_Ta_next_26 rfl ?_
      refine MM.aload_n (i := 0) rfl rfl d_Ta_next_29 rfl ?_
      refine MM.getI 6 tg_33 lays_6 gq_6_2 ww_154 d_Ta_next_30 rfl ?_
      obtain ⟨k35, e36, hf⟩ := mm_bind hf
      refine MM.gC e36 al_34 d_Ta_next_33 rfl ?_
      refine MM.bipush bp_32 d_Ta_next_34 rfl ?_
      obtain ⟨m38, m39⟩ := mm_ifE hf
      refine MM.icmp_ne (tgt := 52) d_Ta_next_36 rfl rfl (fun c37 => ?_) (fun c37 => ?_)
      · replace hf := m39 c37
        obtain rfl := Option.some.inj hf
        exact MM.sub [0] (by rfl) K2
      · replace hf := m38 c37
        exact MM.sub [0] (by rfl) (K6 _ hf)
theorem d_Ta_rewind_0 : decode cX7_rewind 0 = .ok (.aload_n 0, 1) := by decide +kernel
theorem d_Ta_rewind_1 : decode cX7_rewind 1 = .ok (.iconst 0, 1) := by decide +kernel
theorem d_Ta_rewind_2 : decode cX7_rewind 2 = .ok (.putfield 19, 3) := by decide +kernel
theorem d_Ta_rewind_5 : decode cX7_rewind 5 = .ok (.aload_n 0, 1) := by decide +kernel
theorem d_Ta_rewind_6 : decode cX7_rewind 6 = .ok (.iconst 0, 1) := by decide +kernel
theorem d_Ta_rewind_7 : decode cX7_rewind 7 = .ok (.putfield 43, 3) := by decide +kernel
theorem d_Ta_rewind_10 : decode cX7_rewind 10 = .ok (.aload_n 0, 1) := by decide +kernel
theorem d_Ta_rewind_11 : decode cX7_rewind 11 = .ok (.invokevirtual 46, 3) := by decide +kernel
theorem d_Ta_rewind_14 : decode cX7_rewind 14 = .ok (.return_, 1) := by decide +kernel
noncomputable def f_Ta_rewind (h : mm_H) : Option mm_H := mm_let (mm_pI h 33 2 0) fun h1 => mm_let (mm_pI h1 33 9 0) fun h3 => (f_Ta_next h3).bind fun v6 => some v6
theorem T_Ta_rewind (V : mm_V) (l : Launch) (h : mm_H) (r : mm_H) (hf : f_Ta_rewind h = some r) : MT V l Y_Ta_rewind 6 [.ref 33] (fun r1 h1 => r1 = none ∧ h1 = r) h := by
  unfold f_Ta_rewind at hf
  refine MT.intro (pn_Ta rfl) [(0, .ref 33)] rfl (Nat.le_of_ble_eq_true rfl) ?_
  generalize hZ : mm_Z V _ = Z0
  refine MM.aload_n (i := 0) rfl rfl d_Ta_rewind_0 rfl ?_
  refine MM.iconst ic_0 d_Ta_rewind_1 rfl ?_
  obtain ⟨h1, e2, hf⟩ := mm_letE hf
  refine MM.putI e2 6 tg_33 lays_6 toks_6 pq_6_2 ww_154 d_Ta_rewind_2 rfl ?_
  refine MM.aload_n (i := 0) rfl rfl d_Ta_rewind_5 rfl ?_
  refine MM.iconst ic_0 d_Ta_rewind_6 rfl ?_
  obtain ⟨h3, e4, hf⟩ := mm_letE hf
  refine MM.putI e4 6 tg_33 lays_6 toks_6 pq_6_9 ww_170 d_Ta_rewind_7 rfl ?_
  refine MM.aload_n (i := 0) rfl rfl d_Ta_rewind_10 rfl ?_
  obtain ⟨v6, e5, hf⟩ := mm_bind hf
  refine MM.callV0 (T_Ta_next V l  h3 _ e5) (fun _ _ q => q) cal_Ta_next rfl tg_33 ct_6 ww_561 ww_560 ww_559 (by decide) (by simp [Value.category]) d_Ta_rewind_11 rfl ⟨rfl, rfl⟩ rfl ?_
  obtain rfl := Option.some.inj hf
  subst hZ
  exact MM.vret rfl d_Ta_rewind_14 ⟨rfl, rfl⟩
theorem d_Ta_wrong_0 : decode cX7_wrong 0 = .ok (.aload_n 0, 1) := by decide +kernel
theorem d_Ta_wrong_1 : decode cX7_wrong 1 = .ok (.getfield 43, 3) := by decide +kernel
theorem d_Ta_wrong_4 : decode cX7_wrong 4 = .ok (.ifCond .ne 16, 3) := by decide +kernel
theorem d_Ta_wrong_7 : decode cX7_wrong 7 = .ok (.aload_n 0, 1) := by decide +kernel
theorem d_Ta_wrong_8 : decode cX7_wrong 8 = .ok (.iload_n 1, 1) := by decide +kernel
theorem d_Ta_wrong_9 : decode cX7_wrong 9 = .ok (.bipush 16, 2) := by decide +kernel
theorem d_Ta_wrong_11 : decode cX7_wrong 11 = .ok (.aload_n 0, 1) := by decide +kernel
theorem d_Ta_wrong_12 : decode cX7_wrong 12 = .ok (.getfield 22, 3) := by decide +kernel
theorem d_Ta_wrong_15 : decode cX7_wrong 15 = .ok (.imul, 1) := by decide +kernel
theorem d_Ta_wrong_16 : decode cX7_wrong 16 = .ok (.iadd, 1) := by decide +kernel
theorem d_Ta_wrong_17 : decode cX7_wrong 17 = .ok (.putfield 43, 3) := by decide +kernel
theorem d_Ta_wrong_20 : decode cX7_wrong 20 = .ok (.iconst 0, 1) := by decide +kernel
theorem d_Ta_wrong_21 : decode cX7_wrong 21 = .ok (.ireturn, 1) := by decide +kernel
noncomputable def f_Ta_wrong (x1 : Int32) (h : mm_H) : Option (Int32 × mm_H) := if (h.1 33 9) = 0 then (mm_let (mm_pI h 33 9 (x1 + (16 * (h.1 33 3)))) fun h1 => some (0, h1)) else (some (0, h))
theorem T_Ta_wrong (V : mm_V) (l : Launch) (x1 : Int32) (h : mm_H) (r : (Int32 × mm_H)) (hf : f_Ta_wrong x1 h = some r) : MT V l Y_Ta_wrong 1 [.ref 33, .int x1] (fun r1 h1 => r1 = some (.int r.1) ∧ h1 = r.2) h := by
  unfold f_Ta_wrong at hf
  refine MT.intro (pn_Ta rfl) [(0, .ref 33), (1, .int x1)] rfl (Nat.le_of_ble_eq_true rfl) ?_
  generalize hZ : mm_Z V _ = Z0
  refine MM.aload_n (i := 0) rfl rfl d_Ta_wrong_0 rfl ?_
  refine MM.getI 6 tg_33 lays_6 gq_6_9 ww_170 d_Ta_wrong_1 rfl ?_
  obtain ⟨m4, m5⟩ := mm_ifE hf
  refine MM.if_ne (tgt := 20) d_Ta_wrong_4 rfl rfl (fun c3 => ?_) (fun c3 => ?_)
  · replace hf := m5 c3
    refine MM.iconst ic_0 d_Ta_wrong_20 rfl ?_
    obtain rfl := Option.some.inj hf
    subst hZ
    exact MM.zret (Or.inl rfl) rfl d_Ta_wrong_21 ⟨rfl, rfl⟩
  · replace hf := m4 c3
    refine MM.aload_n (i := 0) rfl rfl d_Ta_wrong_7 rfl ?_
    refine MM.iload_n (i := 1) rfl rfl d_Ta_wrong_8 rfl ?_
    refine MM.bipush bp_16 d_Ta_wrong_9 rfl ?_
    refine MM.aload_n (i := 0) rfl rfl d_Ta_wrong_11 rfl ?_
    refine MM.getI 6 tg_33 lays_6 gq_6_3 ww_155 d_Ta_wrong_12 rfl ?_
    refine MM.imul d_Ta_wrong_15 rfl ?_
    refine MM.iadd d_Ta_wrong_16 rfl ?_
    obtain ⟨h1, e2, hf⟩ := mm_letE hf
    refine MM.putI e2 6 tg_33 lays_6 toks_6 pq_6_9 ww_170 d_Ta_wrong_17 rfl ?_
    refine MM.iconst ic_0 d_Ta_wrong_20 rfl ?_
    obtain rfl := Option.some.inj hf
    subst hZ
    exact MM.zret (Or.inl rfl) rfl d_Ta_wrong_21 ⟨rfl, rfl⟩
theorem d_Ta_isName_0 : decode cX7_isName 0 = .ok (.aload_n 0, 1) := by decide +kernel
theorem d_Ta_isName_1 : decode cX7_isName 1 = .ok (.getfield 25, 3) := by decide +kernel
theorem d_Ta_isName_4 : decode cX7_isName 4 = .ok (.iconst 2, 1) := by decide +kernel
theorem d_Ta_isName_5 : decode cX7_isName 5 = .ok (.if_icmp .ne 24, 3) := by decide +kernel
theorem d_Ta_isName_8 : decode cX7_isName 8 = .ok (.aload_n 0, 1) := by decide +kernel
theorem d_Ta_isName_9 : decode cX7_isName 9 = .ok (.getfield 35, 3) := by decide +kernel
theorem d_Ta_isName_12 : decode cX7_isName 12 = .ok (.ifnull 13, 3) := by decide +kernel
theorem d_Ta_isName_15 : decode cX7_isName 15 = .ok (.aload_n 0, 1) := by decide +kernel
theorem d_Ta_isName_16 : decode cX7_isName 16 = .ok (.getfield 35, 3) := by decide +kernel
theorem d_Ta_isName_19 : decode cX7_isName 19 = .ok (.getfield 72, 3) := by decide +kernel
theorem d_Ta_isName_22 : decode cX7_isName 22 = .ok (.ifCond .eq 7, 3) := by decide +kernel
theorem d_Ta_isName_25 : decode cX7_isName 25 = .ok (.iconst 1, 1) := by decide +kernel
theorem d_Ta_isName_26 : decode cX7_isName 26 = .ok (.goto 4, 3) := by decide +kernel
theorem d_Ta_isName_29 : decode cX7_isName 29 = .ok (.iconst 0, 1) := by decide +kernel
theorem d_Ta_isName_30 : decode cX7_isName 30 = .ok (.ireturn, 1) := by decide +kernel
noncomputable def f_Ta_isName (h : mm_H) : Option Int32 := if (h.1 33 4) = 2 then ((mm_gW h).bind fun wd1 => if wd1 = none then (some 1) else ((mm_gW h).bind fun wd3 => (wd3).bind fun k5 => if (mm_wf k5) = 0 then (some 0) else (some 1))) else (some 0)
theorem T_Ta_isName (V : mm_V) (l : Launch) (h : mm_H) (r : Int32) (hf : f_Ta_isName h = some r) : MT V l Y_Ta_isName 1 [.ref 33] (fun r1 h1 => r1 = some (.int r) ∧ h1 = h) h := by
  unfold f_Ta_isName at hf
  refine MT.intro (pn_Ta rfl) [(0, .ref 33)] rfl (Nat.le_of_ble_eq_true rfl) ?_
  generalize hZ : mm_Z V _ = Z0
  refine MM.aload_n (i := 0) rfl rfl d_Ta_isName_0 rfl ?_
  refine MM.getI 6 tg_33 lays_6 gq_6_4 ww_156 d_Ta_isName_1 rfl ?_
  refine MM.iconst ic_2 d_Ta_isName_4 rfl ?_
  obtain ⟨m14, m15⟩ := mm_ifE hf
  refine MM.icmp_ne (tgt := 29) d_Ta_isName_5 rfl rfl (fun c13 => ?_) (fun c13 => ?_)
  · replace hf := m15 c13
    refine MM.iconst ic_0 d_Ta_isName_29 rfl ?_
    obtain rfl := Option.some.inj hf
    subst hZ
    exact MM.zret (Or.inl rfl) rfl d_Ta_isName_30 ⟨rfl, rfl⟩
  · replace hf := m14 c13
    refine MM.aload_n (i := 0) rfl rfl d_Ta_isName_8 rfl ?_
    obtain ⟨wd1, e2, hf⟩ := mm_bind hf
    obtain ⟨e2, b_wd1⟩ := mm_gWE e2
    refine MM.gW e2 tg_33 wq_7 lays_6 ww_165 d_Ta_isName_9 rfl ?_
    obtain ⟨m11, m12⟩ := mm_ifE hf
    refine MM.ifnull (tgt := 25) d_Ta_isName_12 rfl rfl (fun c10 => ?_) (fun c10 => ?_)
    · replace hf := m11 c10
      refine MM.iconst ic_1 d_Ta_isName_25 rfl ?_
      refine MM.goto (tgt := 30) d_Ta_isName_26 rfl ?_
      obtain rfl := Option.some.inj hf
      subst hZ
      exact MM.zret (Or.inr rfl) rfl d_Ta_isName_30 ⟨rfl, rfl⟩
    · replace hf := m12 c10
      refine MM.aload_n (i := 0) rfl rfl d_Ta_isName_15 rfl ?_
      obtain ⟨wd3, e4, hf⟩ := mm_bind hf
      obtain ⟨e4, b_wd3⟩ := mm_gWE e4
      refine MM.gW e4 tg_33 wq_7 lays_6 ww_165 d_Ta_isName_16 rfl ?_
      obtain ⟨k5, e6, hf⟩ := mm_bind hf
      refine MM.wfact k5 e6 (b_wd3 k5 e6) ww_2050 d_Ta_isName_19 rfl ?_
      obtain ⟨m8, m9⟩ := mm_ifE hf
      refine MM.if_eq (tgt := 29) d_Ta_isName_22 rfl rfl (fun c7 => ?_) (fun c7 => ?_)
      · replace hf := m8 c7
        refine MM.iconst ic_0 d_Ta_isName_29 rfl ?_
        obtain rfl := Option.some.inj hf
        subst hZ
        exact MM.zret (Or.inl rfl) rfl d_Ta_isName_30 ⟨rfl, rfl⟩
      · replace hf := m9 c7
        refine MM.iconst ic_1 d_Ta_isName_25 rfl ?_
        refine MM.goto (tgt := 30) d_Ta_isName_26 rfl ?_
        obtain rfl := Option.some.inj hf
        subst hZ
        exact MM.zret (Or.inr rfl) rfl d_Ta_isName_30 ⟨rfl, rfl⟩
theorem d_To_findPerson_0 : decode cX8_findPerson 0 = .ok (.iconst 0, 1) := by decide +kernel
theorem d_To_findPerson_1 : decode cX8_findPerson 1 = .ok (.istore_n 3, 1) := by decide +kernel
theorem d_To_findPerson_2 : decode cX8_findPerson 2 = .ok (.iload_n 3, 1) := by decide +kernel
theorem d_To_findPerson_3 : decode cX8_findPerson 3 = .ok (.aload_n 0, 1) := by decide +kernel
theorem d_To_findPerson_4 : decode cX8_findPerson 4 = .ok (.getfield 9, 3) := by decide +kernel
theorem d_To_findPerson_7 : decode cX8_findPerson 7 = .ok (.if_icmp .ge 22, 3) := by decide +kernel
theorem d_To_findPerson_10 : decode cX8_findPerson 10 = .ok (.aload_n 0, 1) := by decide +kernel
theorem d_To_findPerson_11 : decode cX8_findPerson 11 = .ok (.getfield 15, 3) := by decide +kernel
theorem d_To_findPerson_14 : decode cX8_findPerson 14 = .ok (.iload_n 3, 1) := by decide +kernel
theorem d_To_findPerson_15 : decode cX8_findPerson 15 = .ok (.laload, 1) := by decide +kernel
theorem d_To_findPerson_16 : decode cX8_findPerson 16 = .ok (.lload_n 1, 1) := by decide +kernel
theorem d_To_findPerson_17 : decode cX8_findPerson 17 = .ok (.lcmp, 1) := by decide +kernel
theorem d_To_findPerson_18 : decode cX8_findPerson 18 = .ok (.ifCond .ne 5, 3) := by decide +kernel
theorem d_To_findPerson_21 : decode cX8_findPerson 21 = .ok (.iload_n 3, 1) := by decide +kernel
theorem d_To_findPerson_22 : decode cX8_findPerson 22 = .ok (.ireturn, 1) := by decide +kernel
theorem d_To_findPerson_23 : decode cX8_findPerson 23 = .ok (.iinc 3 1, 3) := by decide +kernel
theorem d_To_findPerson_26 : decode cX8_findPerson 26 = .ok (.goto (-24), 3) := by decide +kernel
theorem d_To_findPerson_29 : decode cX8_findPerson 29 = .ok (.iconst (-1), 1) := by decide +kernel
theorem d_To_findPerson_30 : decode cX8_findPerson 30 = .ok (.ireturn, 1) := by decide +kernel
noncomputable def f_To_findPerson (a0 : Nat) (x1 : Int64) (h : mm_H) : Option Int32 := if mm_tg a0 = 7 then (mm_while (σ := Int32) (ρ := Int32) (fun s1 => if (h.1 a0 0) ≤ s1 then (some (Sum.inr (-1))) else ((mm_ix s1 6).bind fun k4 => if (lg_cmp (h.2.1 (a0 + 1) k4) x1) = 0 then (some (Sum.inr s1)) else (mm_let (s1 + 1) fun y6 => some (Sum.inl y6)))) 0) else none
theorem T_To_findPerson (V : mm_V) (l : Launch) (a0 : Nat) (x1 : Int64) (h : mm_H) (r : Int32) (hf : f_To_findPerson a0 x1 h = some r) : MT V l Y_To_findPerson 1 [.ref a0, .long x1] (fun r1 h1 => r1 = some (.int r) ∧ h1 = h) h := by
  unfold f_To_findPerson at hf
  obtain ⟨t_a0, hf⟩ := mm_chkE hf
  refine MT.intro (pn_To rfl) [(0, .ref a0), (1, .long x1)] rfl (Nat.le_of_ble_eq_true rfl) ?_
  generalize hZ : mm_Z V _ = Z0
  refine MM.iconst ic_0 d_To_findPerson_0 rfl ?_
  refine MM.istore_n (i := 3) (lv' := [(3, .int 0), (0, .ref a0), (1, .long x1)]) rfl rfl (Nat.le_of_ble_eq_true rfl) rfl d_To_findPerson_1 rfl ?_
  refine MM.sub [1, 2, 0] (by rfl) (mm_while_ind (fun s1 => MM V l Y_To_findPerson 1 0 0 Z0 2 [(0, .ref a0), (1, .long x1), (3, .int s1)] [] h) hf (fun s1 q2 hf hx3 => ?_))
  refine MM.iload_n (i := 3) rfl rfl d_To_findPerson_2 rfl ?_
  refine MM.aload_n (i := 0) rfl rfl d_To_findPerson_3 rfl ?_
  refine MM.getI 7 t_a0 lays_7 gq_7_0 ww_363 d_To_findPerson_4 rfl ?_
  obtain ⟨m12, m13⟩ := mm_ifE hf
  refine MM.icmp_ge (tgt := 29) d_To_findPerson_7 rfl rfl (fun c11 => ?_) (fun c11 => ?_)
  · replace hf := m12 c11
    refine MM.iconst ic_m1 d_To_findPerson_29 rfl ?_
    obtain rfl := Option.some.inj hf
    replace hf := mm_wxR hx3
    obtain rfl := Option.some.inj hf
    subst hZ
    exact MM.iret rfl d_To_findPerson_30 ⟨rfl, rfl⟩
  · replace hf := m13 c11
    refine MM.aload_n (i := 0) rfl rfl d_To_findPerson_10 rfl ?_
    refine MM.gR 7 1 t_a0 rq_7_1 rfl lays_7 ww_370 d_To_findPerson_11 rfl ?_
    refine MM.iload_n (i := 3) rfl rfl d_To_findPerson_14 rfl ?_
    obtain ⟨k4, e5, hf⟩ := mm_bind hf
    refine MM.gL e5 (al_7_1f t_a0) d_To_findPerson_15 rfl ?_
    refine MM.lload_n (i := 1) rfl rfl d_To_findPerson_16 rfl ?_
    refine MM.lcmp d_To_findPerson_17 rfl ?_
    obtain ⟨m9, m10⟩ := mm_ifE hf
    refine MM.if_ne (tgt := 23) d_To_findPerson_18 rfl rfl (fun c8 => ?_) (fun c8 => ?_)
    · replace hf := m10 c8
      obtain ⟨y6, e7, hf⟩ := mm_letE hf
      refine MM.iinc (k0 := 2) (lv' := [(3, .int y6), (0, .ref a0), (1, .long x1)]) (by rw [ic_1]; exact e7) rfl (Nat.le_of_ble_eq_true rfl) rfl d_To_findPerson_23 rfl ?_
      refine MM.goto (tgt := 2) d_To_findPerson_26 rfl ?_
      obtain rfl := Option.some.inj hf
      have h9 := mm_wxL hx3
      exact MM.sub [1, 2, 0] (by rfl) h9
    · replace hf := m9 c8
      refine MM.iload_n (i := 3) rfl rfl d_To_findPerson_21 rfl ?_
      obtain rfl := Option.some.inj hf
      replace hf := mm_wxR hx3
      obtain rfl := Option.some.inj hf
      subst hZ
      exact MM.iret rfl d_To_findPerson_22 ⟨rfl, rfl⟩
theorem d_To_findSecret_0 : decode cX8_findSecret 0 = .ok (.iconst 0, 1) := by decide +kernel
theorem d_To_findSecret_1 : decode cX8_findSecret 1 = .ok (.istore_n 3, 1) := by decide +kernel
theorem d_To_findSecret_2 : decode cX8_findSecret 2 = .ok (.iload_n 3, 1) := by decide +kernel
theorem d_To_findSecret_3 : decode cX8_findSecret 3 = .ok (.aload_n 0, 1) := by decide +kernel
theorem d_To_findSecret_4 : decode cX8_findSecret 4 = .ok (.getfield 32, 3) := by decide +kernel
theorem d_To_findSecret_7 : decode cX8_findSecret 7 = .ok (.if_icmp .ge 22, 3) := by decide +kernel
theorem d_To_findSecret_10 : decode cX8_findSecret 10 = .ok (.aload_n 0, 1) := by decide +kernel
theorem d_To_findSecret_11 : decode cX8_findSecret 11 = .ok (.getfield 35, 3) := by decide +kernel
theorem d_To_findSecret_14 : decode cX8_findSecret 14 = .ok (.iload_n 3, 1) := by decide +kernel
theorem d_To_findSecret_15 : decode cX8_findSecret 15 = .ok (.laload, 1) := by decide +kernel
theorem d_To_findSecret_16 : decode cX8_findSecret 16 = .ok (.lload_n 1, 1) := by decide +kernel
theorem d_To_findSecret_17 : decode cX8_findSecret 17 = .ok (.lcmp, 1) := by decide +kernel
theorem d_To_findSecret_18 : decode cX8_findSecret 18 = .ok (.ifCond .ne 5, 3) := by decide +kernel
theorem d_To_findSecret_21 : decode cX8_findSecret 21 = .ok (.iload_n 3, 1) := by decide +kernel
theorem d_To_findSecret_22 : decode cX8_findSecret 22 = .ok (.ireturn, 1) := by decide +kernel
theorem d_To_findSecret_23 : decode cX8_findSecret 23 = .ok (.iinc 3 1, 3) := by decide +kernel
theorem d_To_findSecret_26 : decode cX8_findSecret 26 = .ok (.goto (-24), 3) := by decide +kernel
theorem d_To_findSecret_29 : decode cX8_findSecret 29 = .ok (.iconst (-1), 1) := by decide +kernel
theorem d_To_findSecret_30 : decode cX8_findSecret 30 = .ok (.ireturn, 1) := by decide +kernel
noncomputable def f_To_findSecret (a0 : Nat) (x1 : Int64) (h : mm_H) : Option Int32 := if mm_tg a0 = 7 then (mm_while (σ := Int32) (ρ := Int32) (fun s1 => if (h.1 a0 6) ≤ s1 then (some (Sum.inr (-1))) else ((mm_ix s1 10).bind fun k4 => if (lg_cmp (h.2.1 (a0 + 5) k4) x1) = 0 then (some (Sum.inr s1)) else (mm_let (s1 + 1) fun y6 => some (Sum.inl y6)))) 0) else none
theorem T_To_findSecret (V : mm_V) (l : Launch) (a0 : Nat) (x1 : Int64) (h : mm_H) (r : Int32) (hf : f_To_findSecret a0 x1 h = some r) : MT V l Y_To_findSecret 1 [.ref a0, .long x1] (fun r1 h1 => r1 = some (.int r) ∧ h1 = h) h := by
  unfold f_To_findSecret at hf
  obtain ⟨t_a0, hf⟩ := mm_chkE hf
  refine MT.intro (pn_To rfl) [(0, .ref a0), (1, .long x1)] rfl (Nat.le_of_ble_eq_true rfl) ?_
  generalize hZ : mm_Z V _ = Z0
  refine MM.iconst ic_0 d_To_findSecret_0 rfl ?_
  refine MM.istore_n (i := 3) (lv' := [(3, .int 0), (0, .ref a0), (1, .long x1)]) rfl rfl (Nat.le_of_ble_eq_true rfl) rfl d_To_findSecret_1 rfl ?_
  refine MM.sub [1, 2, 0] (by rfl) (mm_while_ind (fun s1 => MM V l Y_To_findSecret 1 0 0 Z0 2 [(0, .ref a0), (1, .long x1), (3, .int s1)] [] h) hf (fun s1 q2 hf hx3 => ?_))
  refine MM.iload_n (i := 3) rfl rfl d_To_findSecret_2 rfl ?_
  refine MM.aload_n (i := 0) rfl rfl d_To_findSecret_3 rfl ?_
  refine MM.getI 7 t_a0 lays_7 gq_7_6 ww_385 d_To_findSecret_4 rfl ?_
  obtain ⟨m12, m13⟩ := mm_ifE hf
  refine MM.icmp_ge (tgt := 29) d_To_findSecret_7 rfl rfl (fun c11 => ?_) (fun c11 => ?_)
  · replace hf := m12 c11
    refine MM.iconst ic_m1 d_To_findSecret_29 rfl ?_
    obtain rfl := Option.some.inj hf
    replace hf := mm_wxR hx3
    obtain rfl := Option.some.inj hf
    subst hZ
    exact MM.iret rfl d_To_findSecret_30 ⟨rfl, rfl⟩
  · replace hf := m13 c11
    refine MM.aload_n (i := 0) rfl rfl d_To_findSecret_10 rfl ?_
    refine MM.gR 7 5 t_a0 rq_7_7 rfl lays_7 ww_390 d_To_findSecret_11 rfl ?_
    refine MM.iload_n (i := 3) rfl rfl d_To_findSecret_14 rfl ?_
    obtain ⟨k4, e5, hf⟩ := mm_bind hf
    refine MM.gL e5 (al_7_7f t_a0) d_To_findSecret_15 rfl ?_
    refine MM.lload_n (i := 1) rfl rfl d_To_findSecret_16 rfl ?_
    refine MM.lcmp d_To_findSecret_17 rfl ?_
    obtain ⟨m9, m10⟩ := mm_ifE hf
    refine MM.if_ne (tgt := 23) d_To_findSecret_18 rfl rfl (fun c8 => ?_) (fun c8 => ?_)
    · replace hf := m10 c8
      obtain ⟨y6, e7, hf⟩ := mm_letE hf
      refine MM.iinc (k0 := 2) (lv' := [(3, .int y6), (0, .ref a0), (1, .long x1)]) (by rw [ic_1]; exact e7) rfl (Nat.le_of_ble_eq_true rfl) rfl d_To_findSecret_23 rfl ?_
      refine MM.goto (tgt := 2) d_To_findSecret_26 rfl ?_
      obtain rfl := Option.some.inj hf
      have h9 := mm_wxL hx3
      exact MM.sub [1, 2, 0] (by rfl) h9
    · replace hf := m9 c8
      refine MM.iload_n (i := 3) rfl rfl d_To_findSecret_21 rfl ?_
      obtain rfl := Option.some.inj hf
      replace hf := mm_wxR hx3
      obtain rfl := Option.some.inj hf
      subst hZ
      exact MM.iret rfl d_To_findSecret_22 ⟨rfl, rfl⟩
theorem d_Tr_takeNewName_0 : decode cX9_takeNewName 0 = .ok (.aload_n 0, 1) := by decide +kernel
theorem d_Tr_takeNewName_1 : decode cX9_takeNewName 1 = .ok (.invokevirtual 72, 3) := by decide +kernel
theorem d_Tr_takeNewName_4 : decode cX9_takeNewName 4 = .ok (.ifCond .ne 9, 3) := by decide +kernel
theorem d_Tr_takeNewName_7 : decode cX9_takeNewName 7 = .ok (.aload_n 0, 1) := by decide +kernel
theorem d_Tr_takeNewName_8 : decode cX9_takeNewName 8 = .ok (.iconst 1, 1) := by decide +kernel
theorem d_Tr_takeNewName_9 : decode cX9_takeNewName 9 = .ok (.invokevirtual 68, 3) := by decide +kernel
theorem d_Tr_takeNewName_12 : decode cX9_takeNewName 12 = .ok (.ireturn, 1) := by decide +kernel
theorem d_Tr_takeNewName_13 : decode cX9_takeNewName 13 = .ok (.aload_n 1, 1) := by decide +kernel
theorem d_Tr_takeNewName_14 : decode cX9_takeNewName 14 = .ok (.aload_n 0, 1) := by decide +kernel
theorem d_Tr_takeNewName_15 : decode cX9_takeNewName 15 = .ok (.getfield 76, 3) := by decide +kernel
theorem d_Tr_takeNewName_18 : decode cX9_takeNewName 18 = .ok (.invokevirtual 80, 3) := by decide +kernel
theorem d_Tr_takeNewName_21 : decode cX9_takeNewName 21 = .ok (.iconst (-1), 1) := by decide +kernel
theorem d_Tr_takeNewName_22 : decode cX9_takeNewName 22 = .ok (.if_icmp .ne 15, 3) := by decide +kernel
theorem d_Tr_takeNewName_25 : decode cX9_takeNewName 25 = .ok (.aload_n 1, 1) := by decide +kernel
theorem d_Tr_takeNewName_26 : decode cX9_takeNewName 26 = .ok (.aload_n 0, 1) := by decide +kernel
theorem d_Tr_takeNewName_27 : decode cX9_takeNewName 27 = .ok (.getfield 76, 3) := by decide +kernel
theorem d_Tr_takeNewName_30 : decode cX9_takeNewName 30 = .ok (.invokevirtual 84, 3) := by decide +kernel
theorem d_Tr_takeNewName_33 : decode cX9_takeNewName 33 = .ok (.iconst (-1), 1) := by decide +kernel
theorem d_Tr_takeNewName_34 : decode cX9_takeNewName 34 = .ok (.if_icmp .eq 9, 3) := by decide +kernel
theorem d_Tr_takeNewName_37 : decode cX9_takeNewName 37 = .ok (.aload_n 0, 1) := by decide +kernel
theorem d_Tr_takeNewName_38 : decode cX9_takeNewName 38 = .ok (.iconst 3, 1) := by decide +kernel
theorem d_Tr_takeNewName_39 : decode cX9_takeNewName 39 = .ok (.invokevirtual 68, 3) := by decide +kernel
theorem d_Tr_takeNewName_42 : decode cX9_takeNewName 42 = .ok (.ireturn, 1) := by decide +kernel
theorem d_Tr_takeNewName_43 : decode cX9_takeNewName 43 = .ok (.aload_n 0, 1) := by decide +kernel
theorem d_Tr_takeNewName_44 : decode cX9_takeNewName 44 = .ok (.invokevirtual 87, 3) := by decide +kernel
theorem d_Tr_takeNewName_47 : decode cX9_takeNewName 47 = .ok (.iconst 1, 1) := by decide +kernel
theorem d_Tr_takeNewName_48 : decode cX9_takeNewName 48 = .ok (.ireturn, 1) := by decide +kernel
noncomputable def f_Tr_takeNewName (a1 : Nat) (h : mm_H) : Option (Int32 × mm_H) := if mm_tg a1 = 7 then ((f_Ta_isName h).bind fun v2 => if v2 = 0 then ((f_Ta_wrong 1 h).bind fun v24 => (mm_bo v24.1).bind fun b25 => some (b25, v24.2)) else ((f_To_findPerson a1 (h.2.1 33 6) h).bind fun v4 => mm_jp (fun (j5 : Unit) => ((f_Ta_wrong 3 h).bind fun v9 => (mm_bo v9.1).bind fun b10 => some (b10, v9.2))) fun k7 => if v4 = (-1) then ((f_To_findSecret a1 (h.2.1 33 6) h).bind fun v13 => if v13 = (-1) then ((f_Ta_next h).bind fun v15 => some (1, v15)) else (k7 ())) else (k7 ()))) else none
theorem T_Tr_takeNewName (V : mm_V) (l : Launch) (a1 : Nat) (h : mm_H) (r : (Int32 × mm_H)) (hf : f_Tr_takeNewName a1 h = some r) : MT V l Y_Tr_takeNewName 6 [.ref 33, .ref a1] (fun r1 h1 => r1 = some (.int r.1) ∧ h1 = r.2) h := by
  unfold f_Tr_takeNewName at hf
  obtain ⟨t_a1, hf⟩ := mm_chkE hf
  refine MT.intro (pn_Tr rfl) [(0, .ref 33), (1, .ref a1)] rfl (Nat.le_of_ble_eq_true rfl) ?_
  generalize hZ : mm_Z V _ = Z0
  refine MM.aload_n (i := 0) rfl rfl d_Tr_takeNewName_0 rfl ?_
  obtain ⟨v2, e1, hf⟩ := mm_bind hf
  refine MM.callV1 (T_Ta_isName V l  h _ e1) (fun _ _ q => q) cal_Ta_isName rfl tg_33 ct_6 ww_679 ww_678 ww_677 (by decide) (by simp [Value.category]) d_Tr_takeNewName_1 rfl ⟨rfl, rfl⟩ rfl ?_
  obtain ⟨m28, m29⟩ := mm_ifE hf
  refine MM.if_ne (tgt := 13) d_Tr_takeNewName_4 rfl rfl (fun c27 => ?_) (fun c27 => ?_)
  · replace hf := m29 c27
    refine MM.aload_n (i := 1) rfl rfl d_Tr_takeNewName_13 rfl ?_
    refine MM.aload_n (i := 0) rfl rfl d_Tr_takeNewName_14 rfl ?_
    refine MM.getL 6 tg_33 lays_6 gq_6_6 ww_163 d_Tr_takeNewName_15 rfl ?_
    obtain ⟨v4, e3, hf⟩ := mm_bind hf
    refine MM.callV1 (T_To_findPerson V l a1 (h.2.1 33 6) h _ e3) (fun _ _ q => q) cal_To_findPerson rfl t_a1 ct_7 ww_683 ww_682 ww_681 (by decide) (by simp [Value.category]) d_Tr_takeNewName_18 rfl ⟨rfl, rfl⟩ rfl ?_
    refine MM.iconst ic_m1 d_Tr_takeNewName_21 rfl ?_
    obtain ⟨k7, e22, hf⟩ := mm_jpE hf
    have K6 : ∀ j5, k7 j5 = some r → MM V l Y_Tr_takeNewName 6 0 0 Z0 37 [(0, .ref 33)] [] h := by
      intro j5 hf
      rw [e22] at hf
      refine MM.aload_n (i := 0) rfl rfl d_Tr_takeNewName_37 rfl ?_
      refine MM.iconst ic_3 d_Tr_takeNewName_38 rfl ?_
      obtain ⟨v9, e8, hf⟩ := mm_bind hf
      refine MM.callV1 (T_Ta_wrong V l 3 h _ e8) (fun _ _ q => q) cal_Ta_wrong rfl tg_33 ct_6 ww_671 ww_670 ww_669 (by decide) (by simp [Value.category]) d_Tr_takeNewName_39 rfl ⟨rfl, rfl⟩ rfl ?_
      obtain ⟨b10, e11, hf⟩ := mm_bind hf
      obtain ⟨ob10, e11⟩ := mm_boE e11
      subst e11
      obtain rfl := Option.some.inj hf
      subst hZ
      exact MM.zret ob10 rfl d_Tr_takeNewName_42 ⟨rfl, rfl⟩
    clear e22
    obtain ⟨m20, m21⟩ := mm_ifE hf
    refine MM.icmp_ne (tgt := 37) d_Tr_takeNewName_22 rfl rfl (fun c19 => ?_) (fun c19 => ?_)
    · replace hf := m21 c19
      exact MM.sub [0] (by rfl) (K6 _ hf)
    · replace hf := m20 c19
      refine MM.aload_n (i := 1) rfl rfl d_Tr_takeNewName_25 rfl ?_
      refine MM.aload_n (i := 0) rfl rfl d_Tr_takeNewName_26 rfl ?_
      refine MM.getL 6 tg_33 lays_6 gq_6_6 ww_163 d_Tr_takeNewName_27 rfl ?_
      obtain ⟨v13, e12, hf⟩ := mm_bind hf
      refine MM.callV1 (T_To_findSecret V l a1 (h.2.1 33 6) h _ e12) (fun _ _ q => q) cal_To_findSecret rfl t_a1 ct_7 ww_687 ww_686 ww_685 (by decide) (by simp [Value.category]) d_Tr_takeNewName_30 rfl ⟨rfl, rfl⟩ rfl ?_
      refine MM.iconst ic_m1 d_Tr_takeNewName_33 rfl ?_
      obtain ⟨m17, m18⟩ := mm_ifE hf
      refine MM.icmp_eq (tgt := 43) d_Tr_takeNewName_34 rfl rfl (fun c16 => ?_) (fun c16 => ?_)
      · replace hf := m17 c16
        refine MM.aload_n (i := 0) rfl rfl d_Tr_takeNewName_43 rfl ?_
        obtain ⟨v15, e14, hf⟩ := mm_bind hf
        refine MM.callV0 (T_Ta_next V l  h _ e14) (fun _ _ q => q) cal_Ta_next rfl tg_33 ct_6 ww_561 ww_560 ww_673 (by decide) (by simp [Value.category]) d_Tr_takeNewName_44 rfl ⟨rfl, rfl⟩ rfl ?_
        refine MM.iconst ic_1 d_Tr_takeNewName_47 rfl ?_
        obtain rfl := Option.some.inj hf
        subst hZ
        exact MM.zret (Or.inr rfl) rfl d_Tr_takeNewName_48 ⟨rfl, rfl⟩
      · replace hf := m18 c16
        exact MM.sub [0] (by rfl) (K6 _ hf)
  · replace hf := m28 c27
    refine MM.aload_n (i := 0) rfl rfl d_Tr_takeNewName_7 rfl ?_
    refine MM.iconst ic_1 d_Tr_takeNewName_8 rfl ?_
    obtain ⟨v24, e23, hf⟩ := mm_bind hf
    refine MM.callV1 (T_Ta_wrong V l 1 h _ e23) (fun _ _ q => q) cal_Ta_wrong rfl tg_33 ct_6 ww_671 ww_670 ww_669 (by decide) (by simp [Value.category]) d_Tr_takeNewName_9 rfl ⟨rfl, rfl⟩ rfl ?_
    obtain ⟨b25, e26, hf⟩ := mm_bind hf
    obtain ⟨ob25, e26⟩ := mm_boE e26
    subst e26
    obtain rfl := Option.some.inj hf
    subst hZ
    exact MM.zret ob25 rfl d_Tr_takeNewName_12 ⟨rfl, rfl⟩
theorem d_Tr_kindOf_0 : decode cX9_kindOf 0 = .ok (.aload_n 0, 1) := by decide +kernel
theorem d_Tr_kindOf_1 : decode cX9_kindOf 1 = .ok (.getstatic 90, 3) := by decide +kernel
theorem d_Tr_kindOf_4 : decode cX9_kindOf 4 = .ok (.if_acmp .ne 5, 3) := by decide +kernel
theorem d_Tr_kindOf_7 : decode cX9_kindOf 7 = .ok (.iconst 0, 1) := by decide +kernel
theorem d_Tr_kindOf_8 : decode cX9_kindOf 8 = .ok (.ireturn, 1) := by decide +kernel
theorem d_Tr_kindOf_9 : decode cX9_kindOf 9 = .ok (.aload_n 0, 1) := by decide +kernel
theorem d_Tr_kindOf_10 : decode cX9_kindOf 10 = .ok (.getstatic 93, 3) := by decide +kernel
theorem d_Tr_kindOf_13 : decode cX9_kindOf 13 = .ok (.if_acmp .ne 5, 3) := by decide +kernel
theorem d_Tr_kindOf_16 : decode cX9_kindOf 16 = .ok (.iconst 1, 1) := by decide +kernel
theorem d_Tr_kindOf_17 : decode cX9_kindOf 17 = .ok (.ireturn, 1) := by decide +kernel
theorem d_Tr_kindOf_18 : decode cX9_kindOf 18 = .ok (.aload_n 0, 1) := by decide +kernel
theorem d_Tr_kindOf_19 : decode cX9_kindOf 19 = .ok (.getstatic 96, 3) := by decide +kernel
theorem d_Tr_kindOf_22 : decode cX9_kindOf 22 = .ok (.if_acmp .ne 5, 3) := by decide +kernel
theorem d_Tr_kindOf_25 : decode cX9_kindOf 25 = .ok (.iconst 2, 1) := by decide +kernel
theorem d_Tr_kindOf_26 : decode cX9_kindOf 26 = .ok (.ireturn, 1) := by decide +kernel
theorem d_Tr_kindOf_27 : decode cX9_kindOf 27 = .ok (.aload_n 0, 1) := by decide +kernel
theorem d_Tr_kindOf_28 : decode cX9_kindOf 28 = .ok (.getstatic 99, 3) := by decide +kernel
theorem d_Tr_kindOf_31 : decode cX9_kindOf 31 = .ok (.if_acmp .ne 7, 3) := by decide +kernel
theorem d_Tr_kindOf_34 : decode cX9_kindOf 34 = .ok (.iconst 3, 1) := by decide +kernel
theorem d_Tr_kindOf_35 : decode cX9_kindOf 35 = .ok (.goto 4, 3) := by decide +kernel
theorem d_Tr_kindOf_38 : decode cX9_kindOf 38 = .ok (.iconst (-1), 1) := by decide +kernel
theorem d_Tr_kindOf_39 : decode cX9_kindOf 39 = .ok (.ireturn, 1) := by decide +kernel
noncomputable def f_Tr_kindOf (w0 : Option Nat) : Option Int32 := if mm_okW w0 = true then (if w0 = (some 15) then (some 0) else (if w0 = (some 16) then (some 1) else (if w0 = (some 17) then (some 2) else (if w0 = (some 18) then (some 3) else (some (-1)))))) else none
theorem T_Tr_kindOf (V : mm_V) (l : Launch) (w0 : Option Nat) (h : mm_H) (r : Int32) (hf : f_Tr_kindOf w0 = some r) : MT V l Y_Tr_kindOf 1 [va_rf w0] (fun r1 h1 => r1 = some (.int r) ∧ h1 = h) h := by
  unfold f_Tr_kindOf at hf
  obtain ⟨c_w0, hf⟩ := mm_chkE hf
  have b_w0 := mm_okWE c_w0
  refine MT.intro (pn_Tr rfl) [(0, va_rf w0)] (by cases w0 <;> rfl) (by cases w0 <;> exact Nat.le_of_ble_eq_true rfl) ?_
  generalize hZ : mm_Z V _ = Z0
  refine MM.wload_n (i := 0) rfl rfl d_Tr_kindOf_0 rfl ?_
  refine MM.word (j := 15) (by decide) rfl ww_692 d_Tr_kindOf_1 rfl ?_
  obtain ⟨m11, m12⟩ := mm_ifE hf
  refine MM.acmp_ne b_w0 (fun _ q => by cases q; decide) (tgt := 9) d_Tr_kindOf_4 rfl rfl (fun c10 => ?_) (fun c10 => ?_)
  · replace hf := m12 c10
    refine MM.wload_n (i := 0) rfl rfl d_Tr_kindOf_9 rfl ?_
    refine MM.word (j := 16) (by decide) rfl ww_694 d_Tr_kindOf_10 rfl ?_
    obtain ⟨m8, m9⟩ := mm_ifE hf
    refine MM.acmp_ne b_w0 (fun _ q => by cases q; decide) (tgt := 18) d_Tr_kindOf_13 rfl rfl (fun c7 => ?_) (fun c7 => ?_)
    · replace hf := m9 c7
      refine MM.wload_n (i := 0) rfl rfl d_Tr_kindOf_18 rfl ?_
      refine MM.word (j := 17) (by decide) rfl ww_696 d_Tr_kindOf_19 rfl ?_
      obtain ⟨m5, m6⟩ := mm_ifE hf
      refine MM.acmp_ne b_w0 (fun _ q => by cases q; decide) (tgt := 27) d_Tr_kindOf_22 rfl rfl (fun c4 => ?_) (fun c4 => ?_)
      · replace hf := m6 c4
        refine MM.wload_n (i := 0) rfl rfl d_Tr_kindOf_27 rfl ?_
        refine MM.word (j := 18) (by decide) rfl ww_698 d_Tr_kindOf_28 rfl ?_
        obtain ⟨m2, m3⟩ := mm_ifE hf
        refine MM.acmp_ne b_w0 (fun _ q => by cases q; decide) (tgt := 38) d_Tr_kindOf_31 rfl rfl (fun c1 => ?_) (fun c1 => ?_)
        · replace hf := m3 c1
          refine MM.iconst ic_m1 d_Tr_kindOf_38 rfl ?_
          obtain rfl := Option.some.inj hf
          subst hZ
          exact MM.iret rfl d_Tr_kindOf_39 ⟨rfl, rfl⟩
        · replace hf := m2 c1
          refine MM.iconst ic_3 d_Tr_kindOf_34 rfl ?_
          refine MM.goto (tgt := 39) d_Tr_kindOf_35 rfl ?_
          obtain rfl := Option.some.inj hf
          subst hZ
          exact MM.iret rfl d_Tr_kindOf_39 ⟨rfl, rfl⟩
      · replace hf := m5 c4
        refine MM.iconst ic_2 d_Tr_kindOf_25 rfl ?_
        obtain rfl := Option.some.inj hf
        subst hZ
        exact MM.iret rfl d_Tr_kindOf_26 ⟨rfl, rfl⟩
    · replace hf := m8 c7
      refine MM.iconst ic_1 d_Tr_kindOf_16 rfl ?_
      obtain rfl := Option.some.inj hf
      subst hZ
      exact MM.iret rfl d_Tr_kindOf_17 ⟨rfl, rfl⟩
  · replace hf := m11 c10
    refine MM.iconst ic_0 d_Tr_kindOf_7 rfl ?_
    obtain rfl := Option.some.inj hf
    subst hZ
    exact MM.iret rfl d_Tr_kindOf_8 ⟨rfl, rfl⟩
theorem d_Ta_takeWord_0 : decode cX7_takeWord 0 = .ok (.aload_n 0, 1) := by decide +kernel
theorem d_Ta_takeWord_1 : decode cX7_takeWord 1 = .ok (.getfield 35, 3) := by decide +kernel
theorem d_Ta_takeWord_4 : decode cX7_takeWord 4 = .ok (.aload_n 1, 1) := by decide +kernel
theorem d_Ta_takeWord_5 : decode cX7_takeWord 5 = .ok (.if_acmp .eq 9, 3) := by decide +kernel
theorem d_Ta_takeWord_8 : decode cX7_takeWord 8 = .ok (.aload_n 0, 1) := by decide +kernel
theorem d_Ta_takeWord_9 : decode cX7_takeWord 9 = .ok (.iconst 1, 1) := by decide +kernel
theorem d_Ta_takeWord_10 : decode cX7_takeWord 10 = .ok (.invokevirtual 75, 3) := by decide +kernel
theorem d_Ta_takeWord_13 : decode cX7_takeWord 13 = .ok (.ireturn, 1) := by decide +kernel
theorem d_Ta_takeWord_14 : decode cX7_takeWord 14 = .ok (.aload_n 0, 1) := by decide +kernel
theorem d_Ta_takeWord_15 : decode cX7_takeWord 15 = .ok (.invokevirtual 46, 3) := by decide +kernel
theorem d_Ta_takeWord_18 : decode cX7_takeWord 18 = .ok (.iconst 1, 1) := by decide +kernel
theorem d_Ta_takeWord_19 : decode cX7_takeWord 19 = .ok (.ireturn, 1) := by decide +kernel
noncomputable def f_Ta_takeWord (w1 : Option Nat) (h : mm_H) : Option (Int32 × mm_H) := if mm_okW w1 = true then ((mm_gW h).bind fun wd1 => if wd1 = w1 then ((f_Ta_next h).bind fun v4 => some (1, v4)) else ((f_Ta_wrong 1 h).bind fun v6 => (mm_bo v6.1).bind fun b7 => some (b7, v6.2))) else none
theorem T_Ta_takeWord (V : mm_V) (l : Launch) (w1 : Option Nat) (h : mm_H) (r : (Int32 × mm_H)) (hf : f_Ta_takeWord w1 h = some r) : MT V l Y_Ta_takeWord 6 [.ref 33, va_rf w1] (fun r1 h1 => r1 = some (.int r.1) ∧ h1 = r.2) h := by
  unfold f_Ta_takeWord at hf
  obtain ⟨c_w1, hf⟩ := mm_chkE hf
  have b_w1 := mm_okWE c_w1
  refine MT.intro (pn_Ta rfl) [(0, .ref 33), (1, va_rf w1)] (by cases w1 <;> rfl) (by cases w1 <;> exact Nat.le_of_ble_eq_true rfl) ?_
  generalize hZ : mm_Z V _ = Z0
  refine MM.aload_n (i := 0) rfl rfl d_Ta_takeWord_0 rfl ?_
  obtain ⟨wd1, e2, hf⟩ := mm_bind hf
  obtain ⟨e2, b_wd1⟩ := mm_gWE e2
  refine MM.gW e2 tg_33 wq_7 lays_6 ww_165 d_Ta_takeWord_1 rfl ?_
  refine MM.wload_n (i := 1) rfl rfl d_Ta_takeWord_4 rfl ?_
  obtain ⟨m10, m11⟩ := mm_ifE hf
  refine MM.acmp_eq b_wd1 b_w1 (tgt := 14) d_Ta_takeWord_5 rfl rfl (fun c9 => ?_) (fun c9 => ?_)
  · replace hf := m10 c9
    refine MM.aload_n (i := 0) rfl rfl d_Ta_takeWord_14 rfl ?_
    obtain ⟨v4, e3, hf⟩ := mm_bind hf
    refine MM.callV0 (T_Ta_next V l  h _ e3) (fun _ _ q => q) cal_Ta_next rfl tg_33 ct_6 ww_561 ww_560 ww_559 (by decide) (by simp [Value.category]) d_Ta_takeWord_15 rfl ⟨rfl, rfl⟩ rfl ?_
    refine MM.iconst ic_1 d_Ta_takeWord_18 rfl ?_
    obtain rfl := Option.some.inj hf
    subst hZ
    exact MM.zret (Or.inr rfl) rfl d_Ta_takeWord_19 ⟨rfl, rfl⟩
  · replace hf := m11 c9
    refine MM.aload_n (i := 0) rfl rfl d_Ta_takeWord_8 rfl ?_
    refine MM.iconst ic_1 d_Ta_takeWord_9 rfl ?_
    obtain ⟨v6, e5, hf⟩ := mm_bind hf
    refine MM.callV1 (T_Ta_wrong V l 1 h _ e5) (fun _ _ q => q) cal_Ta_wrong rfl tg_33 ct_6 ww_671 ww_670 ww_706 (by decide) (by simp [Value.category]) d_Ta_takeWord_10 rfl ⟨rfl, rfl⟩ rfl ?_
    obtain ⟨b7, e8, hf⟩ := mm_bind hf
    obtain ⟨ob7, e8⟩ := mm_boE e8
    subst e8
    obtain rfl := Option.some.inj hf
    subst hZ
    exact MM.zret ob7 rfl d_Ta_takeWord_13 ⟨rfl, rfl⟩
