/-! methods: M_feed, M_signAt, M_nextToken, M_isWord, M_isSign, M_fails, M_puts, M_fact, M_reads, M_opens -/
theorem d_M_feed_0 : decode cX12_feed 0 = .ok (.aload_n 0, 1) := by decide +kernel
theorem d_M_feed_1 : decode cX12_feed 1 = .ok (.iconst 0, 1) := by decide +kernel
theorem d_M_feed_2 : decode cX12_feed 2 = .ok (.putfield 175, 3) := by decide +kernel
theorem d_M_feed_5 : decode cX12_feed 5 = .ok (.iconst 0, 1) := by decide +kernel
theorem d_M_feed_6 : decode cX12_feed 6 = .ok (.istore 7, 2) := by decide +kernel
theorem d_M_feed_8 : decode cX12_feed 8 = .ok (.iload 7, 2) := by decide +kernel
theorem d_M_feed_10 : decode cX12_feed 10 = .ok (.bipush 24, 2) := by decide +kernel
theorem d_M_feed_12 : decode cX12_feed 12 = .ok (.if_icmp .ge 108, 3) := by decide +kernel
theorem d_M_feed_15 : decode cX12_feed 15 = .ok (.iload 7, 2) := by decide +kernel
theorem d_M_feed_17 : decode cX12_feed 17 = .ok (.bipush 8, 2) := by decide +kernel
theorem d_M_feed_19 : decode cX12_feed 19 = .ok (.if_icmp .ge 7, 3) := by decide +kernel
theorem d_M_feed_22 : decode cX12_feed 22 = .ok (.lload_n 1, 1) := by decide +kernel
theorem d_M_feed_23 : decode cX12_feed 23 = .ok (.goto 16, 3) := by decide +kernel
theorem d_M_feed_26 : decode cX12_feed 26 = .ok (.iload 7, 2) := by decide +kernel
theorem d_M_feed_28 : decode cX12_feed 28 = .ok (.bipush 16, 2) := by decide +kernel
theorem d_M_feed_30 : decode cX12_feed 30 = .ok (.if_icmp .ge 7, 3) := by decide +kernel
theorem d_M_feed_33 : decode cX12_feed 33 = .ok (.lload_n 3, 1) := by decide +kernel
theorem d_M_feed_34 : decode cX12_feed 34 = .ok (.goto 5, 3) := by decide +kernel
theorem d_M_feed_37 : decode cX12_feed 37 = .ok (.lload 5, 2) := by decide +kernel
theorem d_M_feed_39 : decode cX12_feed 39 = .ok (.lstore 8, 2) := by decide +kernel
theorem d_M_feed_41 : decode cX12_feed 41 = .ok (.lload 8, 2) := by decide +kernel
theorem d_M_feed_43 : decode cX12_feed 43 = .ok (.bipush 56, 2) := by decide +kernel
theorem d_M_feed_45 : decode cX12_feed 45 = .ok (.bipush 8, 2) := by decide +kernel
theorem d_M_feed_47 : decode cX12_feed 47 = .ok (.iload 7, 2) := by decide +kernel
theorem d_M_feed_49 : decode cX12_feed 49 = .ok (.bipush 7, 2) := by decide +kernel
theorem d_M_feed_51 : decode cX12_feed 51 = .ok (.iand, 1) := by decide +kernel
theorem d_M_feed_52 : decode cX12_feed 52 = .ok (.imul, 1) := by decide +kernel
theorem d_M_feed_53 : decode cX12_feed 53 = .ok (.isub, 1) := by decide +kernel
theorem d_M_feed_54 : decode cX12_feed 54 = .ok (.lushr, 1) := by decide +kernel
theorem d_M_feed_55 : decode cX12_feed 55 = .ok (.ldc2_w 179, 3) := by decide +kernel
theorem d_M_feed_58 : decode cX12_feed 58 = .ok (.land, 1) := by decide +kernel
theorem d_M_feed_59 : decode cX12_feed 59 = .ok (.l2i, 1) := by decide +kernel
theorem d_M_feed_60 : decode cX12_feed 60 = .ok (.istore 10, 2) := by decide +kernel
theorem d_M_feed_62 : decode cX12_feed 62 = .ok (.aload_n 0, 1) := by decide +kernel
theorem d_M_feed_63 : decode cX12_feed 63 = .ok (.getfield 181, 3) := by decide +kernel
theorem d_M_feed_66 : decode cX12_feed 66 = .ok (.sipush 1000, 3) := by decide +kernel
theorem d_M_feed_69 : decode cX12_feed 69 = .ok (.if_icmp .ge 45, 3) := by decide +kernel
theorem d_M_feed_72 : decode cX12_feed 72 = .ok (.iload 10, 2) := by decide +kernel
theorem d_M_feed_74 : decode cX12_feed 74 = .ok (.bipush 10, 2) := by decide +kernel
theorem d_M_feed_76 : decode cX12_feed 76 = .ok (.if_icmp .eq 17, 3) := by decide +kernel
theorem d_M_feed_79 : decode cX12_feed 79 = .ok (.iload 10, 2) := by decide +kernel
theorem d_M_feed_81 : decode cX12_feed 81 = .ok (.bipush 32, 2) := by decide +kernel
theorem d_M_feed_83 : decode cX12_feed 83 = .ok (.if_icmp .lt 31, 3) := by decide +kernel
theorem d_M_feed_86 : decode cX12_feed 86 = .ok (.iload 10, 2) := by decide +kernel
theorem d_M_feed_88 : decode cX12_feed 88 = .ok (.bipush 126, 2) := by decide +kernel
theorem d_M_feed_90 : decode cX12_feed 90 = .ok (.if_icmp .gt 24, 3) := by decide +kernel
theorem d_M_feed_93 : decode cX12_feed 93 = .ok (.aload_n 0, 1) := by decide +kernel
theorem d_M_feed_94 : decode cX12_feed 94 = .ok (.getfield 7, 3) := by decide +kernel
theorem d_M_feed_97 : decode cX12_feed 97 = .ok (.aload_n 0, 1) := by decide +kernel
theorem d_M_feed_98 : decode cX12_feed 98 = .ok (.getfield 181, 3) := by decide +kernel
theorem d_M_feed_101 : decode cX12_feed 101 = .ok (.iload 10, 2) := by decide +kernel
theorem d_M_feed_103 : decode cX12_feed 103 = .ok (.iastore, 1) := by decide +kernel
theorem d_M_feed_104 : decode cX12_feed 104 = .ok (.aload_n 0, 1) := by decide +kernel
theorem d_M_feed_105 : decode cX12_feed 105 = .ok (.dup, 1) := by decide +kernel
theorem d_M_feed_106 : decode cX12_feed 106 = .ok (.getfield 181, 3) := by decide +kernel
theorem d_M_feed_109 : decode cX12_feed 109 = .ok (.iconst 1, 1) := by decide +kernel
theorem d_M_feed_110 : decode cX12_feed 110 = .ok (.iadd, 1) := by decide +kernel
theorem d_M_feed_111 : decode cX12_feed 111 = .ok (.putfield 181, 3) := by decide +kernel
theorem d_M_feed_114 : decode cX12_feed 114 = .ok (.iinc 7 1, 3) := by decide +kernel
theorem d_M_feed_117 : decode cX12_feed 117 = .ok (.goto (-109), 3) := by decide +kernel
theorem d_M_feed_120 : decode cX12_feed 120 = .ok (.aload_n 0, 1) := by decide +kernel
theorem d_M_feed_121 : decode cX12_feed 121 = .ok (.getfield 181, 3) := by decide +kernel
theorem d_M_feed_124 : decode cX12_feed 124 = .ok (.ireturn, 1) := by decide +kernel
noncomputable def f_M_feed (x1 : Int64) (x3 : Int64) (x5 : Int64) (h : mm_H) : Option (Int32 × mm_H) := mm_let (mm_pI h 261 0 0) fun h1 => (mm_while (σ := (Int32 × mm_H)) (ρ := mm_H) (fun s3 => if 24 ≤ s3.1 then (some (Sum.inr s3.2)) else ((if 8 ≤ s3.1 then (if 16 ≤ s3.1 then (some x5) else (some x3)) else (some x1) : Option Int64).bind fun j9 => mm_let (Int64.toInt32 (((Int64.toUInt64 j9 >>> ((Int32.toInt64 (56 - (8 * (s3.1 &&& 7)))).toUInt64 &&& Int64.toUInt64 63)).toInt64) &&& 255)) fun y17 => (if 1000 ≤ (s3.2.1 261 1) then (some s3.2) else (mm_jp (fun (j21 : Unit) => ((mm_ix (s3.2.1 261 1) 1000).bind fun k24 => mm_let (mm_pI s3.2 262 k24 y17) fun h26 => mm_let (mm_pI h26 261 1 ((h26.1 261 1) + 1)) fun h28 => some h28)) fun k23 => if y17 = 10 then (k23 ()) else (if y17 < 32 then (some s3.2) else (if 126 < y17 then (some s3.2) else (k23 ())))) : Option mm_H).bind fun j19 => mm_let (s3.1 + 1) fun y43 => some (Sum.inl (y43, j19)))) (0, h1)).bind fun v6 => some ((v6.1 261 1), v6)
theorem T_M_feed (V : mm_V) (l : Launch) (x1 : Int64) (x3 : Int64) (x5 : Int64) (h : mm_H) (r : (Int32 × mm_H)) (hf : f_M_feed x1 x3 x5 h = some r) : MT V l Y_M_feed 1 [.ref 261, .long x1, .long x3, .long x5] (fun r1 h1 => r1 = some (.int r.1) ∧ h1 = r.2) h := by
  unfold f_M_feed at hf
  refine MT.intro (pn_M rfl) [(0, .ref 261), (1, .long x1), (3, .long x3), (5, .long x5)] rfl (Nat.le_of_ble_eq_true rfl) ?_
  generalize hZ : mm_Z V _ = Z0
  refine MM.aload_n (i := 0) rfl rfl d_M_feed_0 rfl ?_
  refine MM.iconst ic_0 d_M_feed_1 rfl ?_
  obtain ⟨h1, e2, hf⟩ := mm_letE hf
  refine MM.putI e2 9 tg_261 lays_9 toks_9 pq_9_0 ww_1358 d_M_feed_2 rfl ?_
  refine MM.iconst ic_0 d_M_feed_5 rfl ?_
  refine MM.istore (lv' := [(7, .int 0), (0, .ref 261), (1, .long x1), (3, .long x3), (5, .long x5)]) rfl (Nat.le_of_ble_eq_true rfl) rfl d_M_feed_6 rfl ?_
  obtain ⟨v6, e8, hf⟩ := mm_bind hf
  have K7 : MM V l Y_M_feed 1 0 0 Z0 120 [(0, .ref 261)] [] v6 := by
    refine MM.aload_n (i := 0) rfl rfl d_M_feed_120 rfl ?_
    refine MM.getI 9 tg_261 lays_9 gq_9_1 ww_1359 d_M_feed_121 rfl ?_
    obtain rfl := Option.some.inj hf
    subst hZ
    exact MM.iret rfl d_M_feed_124 ⟨rfl, rfl⟩
  clear hf
  refine MM.sub [1, 2, 3, 4, 0] (by rfl) (mm_while_ind (fun s3 => MM V l Y_M_feed 1 0 0 Z0 8 [(0, .ref 261), (1, .long x1), (3, .long x3), (5, .long x5), (7, .int s3.1)] [] s3.2) e8 (fun s3 q4 hf hx5 => ?_))
  refine MM.iload rfl d_M_feed_8 rfl ?_
  refine MM.bipush bp_24 d_M_feed_10 rfl ?_
  obtain ⟨m48, m49⟩ := mm_ifE hf
  refine MM.icmp_ge (tgt := 120) d_M_feed_12 rfl rfl (fun c47 => ?_) (fun c47 => ?_)
  · replace hf := m48 c47
    obtain rfl := Option.some.inj hf
    obtain rfl := Option.some.inj (mm_wxR hx5)
    exact MM.sub [0] (by rfl) K7
  · replace hf := m49 c47
    refine MM.iload rfl d_M_feed_15 rfl ?_
    refine MM.bipush bp_8 d_M_feed_17 rfl ?_
    obtain ⟨j9, e46, hf⟩ := mm_bind hf
    have K10 : MM V l Y_M_feed 1 0 0 Z0 39 [(0, .ref 261), (1, .long x1), (3, .long x3), (5, .long x5), (7, .int s3.1)] [.long j9] s3.2 := by
      refine MM.lstore (lv' := [(8, .long j9), (0, .ref 261), (1, .long x1), (3, .long x3), (5, .long x5), (7, .int s3.1)]) rfl (Nat.le_of_ble_eq_true rfl) rfl d_M_feed_39 rfl ?_
      refine MM.lload rfl d_M_feed_41 rfl ?_
      refine MM.bipush bp_56 d_M_feed_43 rfl ?_
      refine MM.bipush bp_8 d_M_feed_45 rfl ?_
      refine MM.iload rfl d_M_feed_47 rfl ?_
      refine MM.bipush bp_7 d_M_feed_49 rfl ?_
      refine MM.iand d_M_feed_51 rfl ?_
      refine MM.imul d_M_feed_52 rfl ?_
      refine MM.isub d_M_feed_53 rfl ?_
      refine MM.lushr d_M_feed_54 rfl ?_
      refine MM.ldc2 ww_1578 d_M_feed_55 rfl ?_
      refine MM.land d_M_feed_58 rfl ?_
      refine MM.l2i d_M_feed_59 rfl ?_
      obtain ⟨y17, e18, hf⟩ := mm_letE hf
      refine MM.istore (lv' := [(10, .int y17), (8, .long j9), (0, .ref 261), (1, .long x1), (3, .long x3), (5, .long x5), (7, .int s3.1)]) e18 (Nat.le_of_ble_eq_true rfl) rfl d_M_feed_60 rfl ?_
      refine MM.aload_n (i := 0) rfl rfl d_M_feed_62 rfl ?_
      refine MM.getI 9 tg_261 lays_9 gq_9_1 ww_1359 d_M_feed_63 rfl ?_
      refine MM.sipush sp_1000 d_M_feed_66 rfl ?_
      obtain ⟨j19, e45, hf⟩ := mm_bind hf
      have K20 : MM V l Y_M_feed 1 0 0 Z0 114 [(0, .ref 261), (1, .long x1), (3, .long x3), (5, .long x5), (7, .int s3.1)] [] j19 := by
        obtain ⟨y43, e44, hf⟩ := mm_letE hf
        refine MM.iinc (k0 := 4) (lv' := [(7, .int y43), (0, .ref 261), (1, .long x1), (3, .long x3), (5, .long x5)]) (by rw [ic_1]; exact e44) rfl (Nat.le_of_ble_eq_true rfl) rfl d_M_feed_114 rfl ?_
        refine MM.goto (tgt := 8) d_M_feed_117 rfl ?_
        obtain rfl := Option.some.inj hf
        have h9 := mm_wxL hx5
        exact MM.sub [1, 2, 3, 4, 0] (by rfl) h9
      clear hf
      have hf := e45
      clear e45
      obtain ⟨m41, m42⟩ := mm_ifE hf
      refine MM.icmp_ge (tgt := 114) d_M_feed_69 rfl rfl (fun c40 => ?_) (fun c40 => ?_)
      · replace hf := m41 c40
        obtain rfl := Option.some.inj hf
        exact MM.sub [2, 3, 4, 5, 6] (by rfl) K20
      · replace hf := m42 c40
        refine MM.iload rfl d_M_feed_72 rfl ?_
        refine MM.bipush bp_10 d_M_feed_74 rfl ?_
        obtain ⟨k23, e39, hf⟩ := mm_jpE hf
        have K22 : ∀ j21, k23 j21 = some j19 → MM V l Y_M_feed 1 0 0 Z0 93 [(0, .ref 261), (1, .long x1), (3, .long x3), (5, .long x5), (7, .int s3.1), (10, .int y17)] [] s3.2 := by
          intro j21 hf
          rw [e39] at hf
          refine MM.aload_n (i := 0) rfl rfl d_M_feed_93 rfl ?_
          refine MM.gR 9 1 tg_261 rq_9_2 rfl lays_9 ww_1360 d_M_feed_94 rfl ?_
          refine MM.aload_n (i := 0) rfl rfl d_M_feed_97 rfl ?_
          refine MM.getI 9 tg_261 lays_9 gq_9_1 ww_1359 d_M_feed_98 rfl ?_
          refine MM.iload rfl d_M_feed_101 rfl ?_
          obtain ⟨k24, e25, hf⟩ := mm_bind hf
          obtain ⟨h26, e27, hf⟩ := mm_letE hf
          refine MM.sI e25 e27 al_262 d_M_feed_103 rfl ?_
          refine MM.aload_n (i := 0) rfl rfl d_M_feed_104 rfl ?_
          refine MM.dup rfl d_M_feed_105 rfl ?_
          refine MM.getI 9 tg_261 lays_9 gq_9_1 ww_1359 d_M_feed_106 rfl ?_
          refine MM.iconst ic_1 d_M_feed_109 rfl ?_
          refine MM.iadd d_M_feed_110 rfl ?_
          obtain ⟨h28, e29, hf⟩ := mm_letE hf
          refine MM.putI e29 9 tg_261 lays_9 toks_9 pq_9_1 ww_1359 d_M_feed_111 rfl ?_
          obtain rfl := Option.some.inj hf
          exact MM.sub [0, 1, 2, 3, 4] (by rfl) K20
        clear e39
        obtain ⟨m37, m38⟩ := mm_ifE hf
        refine MM.icmp_eq (tgt := 93) d_M_feed_76 rfl rfl (fun c36 => ?_) (fun c36 => ?_)
        · replace hf := m37 c36
          exact MM.sub [2, 3, 4, 5, 6, 0] (by rfl) (K22 _ hf)
        · replace hf := m38 c36
          refine MM.iload rfl d_M_feed_79 rfl ?_
          refine MM.bipush bp_32 d_M_feed_81 rfl ?_
          obtain ⟨m34, m35⟩ := mm_ifE hf
          refine MM.icmp_lt (tgt := 114) d_M_feed_83 rfl rfl (fun c33 => ?_) (fun c33 => ?_)
          · replace hf := m34 c33
            obtain rfl := Option.some.inj hf
            exact MM.sub [2, 3, 4, 5, 6] (by rfl) K20
          · replace hf := m35 c33
            refine MM.iload rfl d_M_feed_86 rfl ?_
            refine MM.bipush bp_126 d_M_feed_88 rfl ?_
            obtain ⟨m31, m32⟩ := mm_ifE hf
            refine MM.icmp_gt (tgt := 114) d_M_feed_90 rfl rfl (fun c30 => ?_) (fun c30 => ?_)
            · replace hf := m31 c30
              obtain rfl := Option.some.inj hf
              exact MM.sub [2, 3, 4, 5, 6] (by rfl) K20
            · replace hf := m32 c30
              exact MM.sub [2, 3, 4, 5, 6, 0] (by rfl) (K22 _ hf)
    clear hf
    have hf := e46
    clear e46
    obtain ⟨m15, m16⟩ := mm_ifE hf
    refine MM.icmp_ge (tgt := 26) d_M_feed_19 rfl rfl (fun c14 => ?_) (fun c14 => ?_)
    · replace hf := m15 c14
      refine MM.iload rfl d_M_feed_26 rfl ?_
      refine MM.bipush bp_16 d_M_feed_28 rfl ?_
      obtain ⟨m12, m13⟩ := mm_ifE hf
      refine MM.icmp_ge (tgt := 37) d_M_feed_30 rfl rfl (fun c11 => ?_) (fun c11 => ?_)
      · replace hf := m12 c11
        refine MM.lload rfl d_M_feed_37 rfl ?_
        obtain rfl := Option.some.inj hf
        exact MM.sub [0, 1, 2, 3, 4] (by rfl) K10
      · replace hf := m13 c11
        refine MM.lload_n (i := 3) rfl rfl d_M_feed_33 rfl ?_
        refine MM.goto (tgt := 39) d_M_feed_34 rfl ?_
        obtain rfl := Option.some.inj hf
        exact MM.sub [0, 1, 2, 3, 4] (by rfl) K10
    · replace hf := m16 c14
      refine MM.lload_n (i := 1) rfl rfl d_M_feed_22 rfl ?_
      refine MM.goto (tgt := 39) d_M_feed_23 rfl ?_
      obtain rfl := Option.some.inj hf
      exact MM.sub [0, 1, 2, 3, 4] (by rfl) K10
theorem d_M_signAt_0 : decode cX12_signAt 0 = .ok (.iload_n 1, 1) := by decide +kernel
theorem d_M_signAt_1 : decode cX12_signAt 1 = .ok (.aload_n 0, 1) := by decide +kernel
theorem d_M_signAt_2 : decode cX12_signAt 2 = .ok (.getfield 184, 3) := by decide +kernel
theorem d_M_signAt_5 : decode cX12_signAt 5 = .ok (.if_icmp .ge 12, 3) := by decide +kernel
theorem d_M_signAt_8 : decode cX12_signAt 8 = .ok (.aload_n 0, 1) := by decide +kernel
theorem d_M_signAt_9 : decode cX12_signAt 9 = .ok (.getfield 7, 3) := by decide +kernel
theorem d_M_signAt_12 : decode cX12_signAt 12 = .ok (.iload_n 1, 1) := by decide +kernel
theorem d_M_signAt_13 : decode cX12_signAt 13 = .ok (.iaload, 1) := by decide +kernel
theorem d_M_signAt_14 : decode cX12_signAt 14 = .ok (.goto 4, 3) := by decide +kernel
theorem d_M_signAt_17 : decode cX12_signAt 17 = .ok (.iconst 0, 1) := by decide +kernel
theorem d_M_signAt_18 : decode cX12_signAt 18 = .ok (.ireturn, 1) := by decide +kernel
noncomputable def f_M_signAt (x1 : Int32) (h : mm_H) : Option Int32 := if (h.1 261 3) ≤ x1 then (some 0) else ((mm_ix x1 1000).bind fun k1 => some (h.1 262 k1))
theorem T_M_signAt (V : mm_V) (l : Launch) (x1 : Int32) (h : mm_H) (r : Int32) (hf : f_M_signAt x1 h = some r) : MT V l Y_M_signAt 1 [.ref 261, .int x1] (fun r1 h1 => r1 = some (.int r) ∧ h1 = h) h := by
  unfold f_M_signAt at hf
  refine MT.intro (pn_M rfl) [(0, .ref 261), (1, .int x1)] rfl (Nat.le_of_ble_eq_true rfl) ?_
  generalize hZ : mm_Z V _ = Z0
  refine MM.iload_n (i := 1) rfl rfl d_M_signAt_0 rfl ?_
  refine MM.aload_n (i := 0) rfl rfl d_M_signAt_1 rfl ?_
  refine MM.getI 9 tg_261 lays_9 gq_9_3 ww_1361 d_M_signAt_2 rfl ?_
  obtain ⟨m4, m5⟩ := mm_ifE hf
  refine MM.icmp_ge (tgt := 17) d_M_signAt_5 rfl rfl (fun c3 => ?_) (fun c3 => ?_)
  · replace hf := m4 c3
    refine MM.iconst ic_0 d_M_signAt_17 rfl ?_
    obtain rfl := Option.some.inj hf
    subst hZ
    exact MM.iret rfl d_M_signAt_18 ⟨rfl, rfl⟩
  · replace hf := m5 c3
    refine MM.aload_n (i := 0) rfl rfl d_M_signAt_8 rfl ?_
    refine MM.gR 9 1 tg_261 rq_9_2 rfl lays_9 ww_1360 d_M_signAt_9 rfl ?_
    refine MM.iload_n (i := 1) rfl rfl d_M_signAt_12 rfl ?_
    obtain ⟨k1, e2, hf⟩ := mm_bind hf
    refine MM.gI e2 al_262 d_M_signAt_13 rfl ?_
    refine MM.goto (tgt := 18) d_M_signAt_14 rfl ?_
    obtain rfl := Option.some.inj hf
    subst hZ
    exact MM.iret rfl d_M_signAt_18 ⟨rfl, rfl⟩
theorem d_M_nextToken_0 : decode cX12_nextToken 0 = .ok (.aload_n 0, 1) := by decide +kernel
theorem d_M_nextToken_1 : decode cX12_nextToken 1 = .ok (.getfield 187, 3) := by decide +kernel
theorem d_M_nextToken_4 : decode cX12_nextToken 4 = .ok (.aload_n 0, 1) := by decide +kernel
theorem d_M_nextToken_5 : decode cX12_nextToken 5 = .ok (.getfield 184, 3) := by decide +kernel
theorem d_M_nextToken_8 : decode cX12_nextToken 8 = .ok (.if_icmp .ge 44, 3) := by decide +kernel
theorem d_M_nextToken_11 : decode cX12_nextToken 11 = .ok (.aload_n 0, 1) := by decide +kernel
theorem d_M_nextToken_12 : decode cX12_nextToken 12 = .ok (.getfield 7, 3) := by decide +kernel
theorem d_M_nextToken_15 : decode cX12_nextToken 15 = .ok (.aload_n 0, 1) := by decide +kernel
theorem d_M_nextToken_16 : decode cX12_nextToken 16 = .ok (.getfield 187, 3) := by decide +kernel
theorem d_M_nextToken_19 : decode cX12_nextToken 19 = .ok (.iaload, 1) := by decide +kernel
theorem d_M_nextToken_20 : decode cX12_nextToken 20 = .ok (.bipush 32, 2) := by decide +kernel
theorem d_M_nextToken_22 : decode cX12_nextToken 22 = .ok (.if_icmp .eq 17, 3) := by decide +kernel
theorem d_M_nextToken_25 : decode cX12_nextToken 25 = .ok (.aload_n 0, 1) := by decide +kernel
theorem d_M_nextToken_26 : decode cX12_nextToken 26 = .ok (.getfield 7, 3) := by decide +kernel
theorem d_M_nextToken_29 : decode cX12_nextToken 29 = .ok (.aload_n 0, 1) := by decide +kernel
theorem d_M_nextToken_30 : decode cX12_nextToken 30 = .ok (.getfield 187, 3) := by decide +kernel
theorem d_M_nextToken_33 : decode cX12_nextToken 33 = .ok (.iaload, 1) := by decide +kernel
theorem d_M_nextToken_34 : decode cX12_nextToken 34 = .ok (.bipush 10, 2) := by decide +kernel
theorem d_M_nextToken_36 : decode cX12_nextToken 36 = .ok (.if_icmp .ne 16, 3) := by decide +kernel
theorem d_M_nextToken_39 : decode cX12_nextToken 39 = .ok (.aload_n 0, 1) := by decide +kernel
theorem d_M_nextToken_40 : decode cX12_nextToken 40 = .ok (.dup, 1) := by decide +kernel
theorem d_M_nextToken_41 : decode cX12_nextToken 41 = .ok (.getfield 187, 3) := by decide +kernel
theorem d_M_nextToken_44 : decode cX12_nextToken 44 = .ok (.iconst 1, 1) := by decide +kernel
theorem d_M_nextToken_45 : decode cX12_nextToken 45 = .ok (.iadd, 1) := by decide +kernel
theorem d_M_nextToken_46 : decode cX12_nextToken 46 = .ok (.putfield 187, 3) := by decide +kernel
theorem d_M_nextToken_49 : decode cX12_nextToken 49 = .ok (.goto (-49), 3) := by decide +kernel
theorem d_M_nextToken_52 : decode cX12_nextToken 52 = .ok (.aload_n 0, 1) := by decide +kernel
theorem d_M_nextToken_53 : decode cX12_nextToken 53 = .ok (.aload_n 0, 1) := by decide +kernel
theorem d_M_nextToken_54 : decode cX12_nextToken 54 = .ok (.getfield 187, 3) := by decide +kernel
theorem d_M_nextToken_57 : decode cX12_nextToken 57 = .ok (.putfield 190, 3) := by decide +kernel
theorem d_M_nextToken_60 : decode cX12_nextToken 60 = .ok (.aload_n 0, 1) := by decide +kernel
theorem d_M_nextToken_61 : decode cX12_nextToken 61 = .ok (.lconst 0, 1) := by decide +kernel
theorem d_M_nextToken_62 : decode cX12_nextToken 62 = .ok (.putfield 193, 3) := by decide +kernel
theorem d_M_nextToken_65 : decode cX12_nextToken 65 = .ok (.aload_n 0, 1) := by decide +kernel
theorem d_M_nextToken_66 : decode cX12_nextToken 66 = .ok (.iconst 0, 1) := by decide +kernel
theorem d_M_nextToken_67 : decode cX12_nextToken 67 = .ok (.putfield 197, 3) := by decide +kernel
theorem d_M_nextToken_70 : decode cX12_nextToken 70 = .ok (.aload_n 0, 1) := by decide +kernel
theorem d_M_nextToken_71 : decode cX12_nextToken 71 = .ok (.getfield 187, 3) := by decide +kernel
theorem d_M_nextToken_74 : decode cX12_nextToken 74 = .ok (.aload_n 0, 1) := by decide +kernel
theorem d_M_nextToken_75 : decode cX12_nextToken 75 = .ok (.getfield 184, 3) := by decide +kernel
theorem d_M_nextToken_78 : decode cX12_nextToken 78 = .ok (.if_icmp .ne 9, 3) := by decide +kernel
theorem d_M_nextToken_81 : decode cX12_nextToken 81 = .ok (.aload_n 0, 1) := by decide +kernel
theorem d_M_nextToken_82 : decode cX12_nextToken 82 = .ok (.iconst 0, 1) := by decide +kernel
theorem d_M_nextToken_83 : decode cX12_nextToken 83 = .ok (.putfield 200, 3) := by decide +kernel
theorem d_M_nextToken_86 : decode cX12_nextToken 86 = .ok (.return_, 1) := by decide +kernel
theorem d_M_nextToken_87 : decode cX12_nextToken 87 = .ok (.aload_n 0, 1) := by decide +kernel
theorem d_M_nextToken_88 : decode cX12_nextToken 88 = .ok (.getfield 7, 3) := by decide +kernel
theorem d_M_nextToken_91 : decode cX12_nextToken 91 = .ok (.aload_n 0, 1) := by decide +kernel
theorem d_M_nextToken_92 : decode cX12_nextToken 92 = .ok (.getfield 187, 3) := by decide +kernel
theorem d_M_nextToken_95 : decode cX12_nextToken 95 = .ok (.iaload, 1) := by decide +kernel
theorem d_M_nextToken_96 : decode cX12_nextToken 96 = .ok (.istore_n 1, 1) := by decide +kernel
theorem d_M_nextToken_97 : decode cX12_nextToken 97 = .ok (.iload_n 1, 1) := by decide +kernel
theorem d_M_nextToken_98 : decode cX12_nextToken 98 = .ok (.bipush 97, 2) := by decide +kernel
theorem d_M_nextToken_100 : decode cX12_nextToken 100 = .ok (.if_icmp .lt 112, 3) := by decide +kernel
theorem d_M_nextToken_103 : decode cX12_nextToken 103 = .ok (.iload_n 1, 1) := by decide +kernel
theorem d_M_nextToken_104 : decode cX12_nextToken 104 = .ok (.bipush 122, 2) := by decide +kernel
theorem d_M_nextToken_106 : decode cX12_nextToken 106 = .ok (.if_icmp .gt 106, 3) := by decide +kernel
theorem d_M_nextToken_109 : decode cX12_nextToken 109 = .ok (.aload_n 0, 1) := by decide +kernel
theorem d_M_nextToken_110 : decode cX12_nextToken 110 = .ok (.aload_n 0, 1) := by decide +kernel
theorem d_M_nextToken_111 : decode cX12_nextToken 111 = .ok (.getfield 187, 3) := by decide +kernel
theorem d_M_nextToken_114 : decode cX12_nextToken 114 = .ok (.invokevirtual 203, 3) := by decide +kernel
theorem d_M_nextToken_117 : decode cX12_nextToken 117 = .ok (.bipush 97, 2) := by decide +kernel
theorem d_M_nextToken_119 : decode cX12_nextToken 119 = .ok (.if_icmp .lt 69, 3) := by decide +kernel
theorem d_M_nextToken_122 : decode cX12_nextToken 122 = .ok (.aload_n 0, 1) := by decide +kernel
theorem d_M_nextToken_123 : decode cX12_nextToken 123 = .ok (.aload_n 0, 1) := by decide +kernel
theorem d_M_nextToken_124 : decode cX12_nextToken 124 = .ok (.getfield 187, 3) := by decide +kernel
theorem d_M_nextToken_127 : decode cX12_nextToken 127 = .ok (.invokevirtual 203, 3) := by decide +kernel
theorem d_M_nextToken_130 : decode cX12_nextToken 130 = .ok (.bipush 122, 2) := by decide +kernel
theorem d_M_nextToken_132 : decode cX12_nextToken 132 = .ok (.if_icmp .gt 56, 3) := by decide +kernel
theorem d_M_nextToken_135 : decode cX12_nextToken 135 = .ok (.aload_n 0, 1) := by decide +kernel
theorem d_M_nextToken_136 : decode cX12_nextToken 136 = .ok (.getfield 187, 3) := by decide +kernel
theorem d_M_nextToken_139 : decode cX12_nextToken 139 = .ok (.aload_n 0, 1) := by decide +kernel
theorem d_M_nextToken_140 : decode cX12_nextToken 140 = .ok (.getfield 190, 3) := by decide +kernel
theorem d_M_nextToken_143 : decode cX12_nextToken 143 = .ok (.isub, 1) := by decide +kernel
theorem d_M_nextToken_144 : decode cX12_nextToken 144 = .ok (.bipush 8, 2) := by decide +kernel
theorem d_M_nextToken_146 : decode cX12_nextToken 146 = .ok (.if_icmp .ge 29, 3) := by decide +kernel
theorem d_M_nextToken_149 : decode cX12_nextToken 149 = .ok (.aload_n 0, 1) := by decide +kernel
theorem d_M_nextToken_150 : decode cX12_nextToken 150 = .ok (.aload_n 0, 1) := by decide +kernel
theorem d_M_nextToken_151 : decode cX12_nextToken 151 = .ok (.getfield 193, 3) := by decide +kernel
theorem d_M_nextToken_154 : decode cX12_nextToken 154 = .ok (.ldc2_w 207, 3) := by decide +kernel
theorem d_M_nextToken_157 : decode cX12_nextToken 157 = .ok (.lmul, 1) := by decide +kernel
theorem d_M_nextToken_158 : decode cX12_nextToken 158 = .ok (.aload_n 0, 1) := by decide +kernel
theorem d_M_nextToken_159 : decode cX12_nextToken 159 = .ok (.aload_n 0, 1) := by decide +kernel
theorem d_M_nextToken_160 : decode cX12_nextToken 160 = .ok (.getfield 187, 3) := by decide +kernel
theorem d_M_nextToken_163 : decode cX12_nextToken 163 = .ok (.invokevirtual 203, 3) := by decide +kernel
theorem d_M_nextToken_166 : decode cX12_nextToken 166 = .ok (.i2l, 1) := by decide +kernel
theorem d_M_nextToken_167 : decode cX12_nextToken 167 = .ok (.ladd, 1) := by decide +kernel
theorem d_M_nextToken_168 : decode cX12_nextToken 168 = .ok (.ldc2_w 209, 3) := by decide +kernel
theorem d_M_nextToken_171 : decode cX12_nextToken 171 = .ok (.lsub, 1) := by decide +kernel
theorem d_M_nextToken_172 : decode cX12_nextToken 172 = .ok (.putfield 193, 3) := by decide +kernel
theorem d_M_nextToken_175 : decode cX12_nextToken 175 = .ok (.aload_n 0, 1) := by decide +kernel
theorem d_M_nextToken_176 : decode cX12_nextToken 176 = .ok (.dup, 1) := by decide +kernel
theorem d_M_nextToken_177 : decode cX12_nextToken 177 = .ok (.getfield 187, 3) := by decide +kernel
theorem d_M_nextToken_180 : decode cX12_nextToken 180 = .ok (.iconst 1, 1) := by decide +kernel
theorem d_M_nextToken_181 : decode cX12_nextToken 181 = .ok (.iadd, 1) := by decide +kernel
theorem d_M_nextToken_182 : decode cX12_nextToken 182 = .ok (.putfield 187, 3) := by decide +kernel
theorem d_M_nextToken_185 : decode cX12_nextToken 185 = .ok (.goto (-76), 3) := by decide +kernel
theorem d_M_nextToken_188 : decode cX12_nextToken 188 = .ok (.aload_n 0, 1) := by decide +kernel
theorem d_M_nextToken_189 : decode cX12_nextToken 189 = .ok (.aload_n 0, 1) := by decide +kernel
theorem d_M_nextToken_190 : decode cX12_nextToken 190 = .ok (.getfield 187, 3) := by decide +kernel
theorem d_M_nextToken_193 : decode cX12_nextToken 193 = .ok (.aload_n 0, 1) := by decide +kernel
theorem d_M_nextToken_194 : decode cX12_nextToken 194 = .ok (.getfield 190, 3) := by decide +kernel
theorem d_M_nextToken_197 : decode cX12_nextToken 197 = .ok (.isub, 1) := by decide +kernel
theorem d_M_nextToken_198 : decode cX12_nextToken 198 = .ok (.bipush 8, 2) := by decide +kernel
theorem d_M_nextToken_200 : decode cX12_nextToken 200 = .ok (.if_icmp .le 7, 3) := by decide +kernel
theorem d_M_nextToken_203 : decode cX12_nextToken 203 = .ok (.iconst 4, 1) := by decide +kernel
theorem d_M_nextToken_204 : decode cX12_nextToken 204 = .ok (.goto 4, 3) := by decide +kernel
theorem d_M_nextToken_207 : decode cX12_nextToken 207 = .ok (.iconst 1, 1) := by decide +kernel
theorem d_M_nextToken_208 : decode cX12_nextToken 208 = .ok (.putfield 200, 3) := by decide +kernel
theorem d_M_nextToken_211 : decode cX12_nextToken 211 = .ok (.return_, 1) := by decide +kernel
theorem d_M_nextToken_212 : decode cX12_nextToken 212 = .ok (.iload_n 1, 1) := by decide +kernel
theorem d_M_nextToken_213 : decode cX12_nextToken 213 = .ok (.bipush 48, 2) := by decide +kernel
theorem d_M_nextToken_215 : decode cX12_nextToken 215 = .ok (.if_icmp .lt 107, 3) := by decide +kernel
theorem d_M_nextToken_218 : decode cX12_nextToken 218 = .ok (.iload_n 1, 1) := by decide +kernel
theorem d_M_nextToken_219 : decode cX12_nextToken 219 = .ok (.bipush 57, 2) := by decide +kernel
theorem d_M_nextToken_221 : decode cX12_nextToken 221 = .ok (.if_icmp .gt 101, 3) := by decide +kernel
theorem d_M_nextToken_224 : decode cX12_nextToken 224 = .ok (.aload_n 0, 1) := by decide +kernel
theorem d_M_nextToken_225 : decode cX12_nextToken 225 = .ok (.aload_n 0, 1) := by decide +kernel
theorem d_M_nextToken_226 : decode cX12_nextToken 226 = .ok (.getfield 187, 3) := by decide +kernel
theorem d_M_nextToken_229 : decode cX12_nextToken 229 = .ok (.invokevirtual 203, 3) := by decide +kernel
theorem d_M_nextToken_232 : decode cX12_nextToken 232 = .ok (.bipush 48, 2) := by decide +kernel
theorem d_M_nextToken_234 : decode cX12_nextToken 234 = .ok (.if_icmp .lt 65, 3) := by decide +kernel
theorem d_M_nextToken_237 : decode cX12_nextToken 237 = .ok (.aload_n 0, 1) := by decide +kernel
theorem d_M_nextToken_238 : decode cX12_nextToken 238 = .ok (.aload_n 0, 1) := by decide +kernel
theorem d_M_nextToken_239 : decode cX12_nextToken 239 = .ok (.getfield 187, 3) := by decide +kernel
theorem d_M_nextToken_242 : decode cX12_nextToken 242 = .ok (.invokevirtual 203, 3) := by decide +kernel
theorem d_M_nextToken_245 : decode cX12_nextToken 245 = .ok (.bipush 57, 2) := by decide +kernel
theorem d_M_nextToken_247 : decode cX12_nextToken 247 = .ok (.if_icmp .gt 52, 3) := by decide +kernel
theorem d_M_nextToken_250 : decode cX12_nextToken 250 = .ok (.aload_n 0, 1) := by decide +kernel
theorem d_M_nextToken_251 : decode cX12_nextToken 251 = .ok (.getfield 187, 3) := by decide +kernel
theorem d_M_nextToken_254 : decode cX12_nextToken 254 = .ok (.aload_n 0, 1) := by decide +kernel
theorem d_M_nextToken_255 : decode cX12_nextToken 255 = .ok (.getfield 190, 3) := by decide +kernel
theorem d_M_nextToken_258 : decode cX12_nextToken 258 = .ok (.isub, 1) := by decide +kernel
theorem d_M_nextToken_259 : decode cX12_nextToken 259 = .ok (.iconst 4, 1) := by decide +kernel
theorem d_M_nextToken_260 : decode cX12_nextToken 260 = .ok (.if_icmp .ge 26, 3) := by decide +kernel
theorem d_M_nextToken_263 : decode cX12_nextToken 263 = .ok (.aload_n 0, 1) := by decide +kernel
theorem d_M_nextToken_264 : decode cX12_nextToken 264 = .ok (.aload_n 0, 1) := by decide +kernel
theorem d_M_nextToken_265 : decode cX12_nextToken 265 = .ok (.getfield 197, 3) := by decide +kernel
theorem d_M_nextToken_268 : decode cX12_nextToken 268 = .ok (.bipush 10, 2) := by decide +kernel
theorem d_M_nextToken_270 : decode cX12_nextToken 270 = .ok (.imul, 1) := by decide +kernel
theorem d_M_nextToken_271 : decode cX12_nextToken 271 = .ok (.aload_n 0, 1) := by decide +kernel
theorem d_M_nextToken_272 : decode cX12_nextToken 272 = .ok (.aload_n 0, 1) := by decide +kernel
theorem d_M_nextToken_273 : decode cX12_nextToken 273 = .ok (.getfield 187, 3) := by decide +kernel
theorem d_M_nextToken_276 : decode cX12_nextToken 276 = .ok (.invokevirtual 203, 3) := by decide +kernel
theorem d_M_nextToken_279 : decode cX12_nextToken 279 = .ok (.iadd, 1) := by decide +kernel
theorem d_M_nextToken_280 : decode cX12_nextToken 280 = .ok (.bipush 48, 2) := by decide +kernel
theorem d_M_nextToken_282 : decode cX12_nextToken 282 = .ok (.isub, 1) := by decide +kernel
theorem d_M_nextToken_283 : decode cX12_nextToken 283 = .ok (.putfield 197, 3) := by decide +kernel
theorem d_M_nextToken_286 : decode cX12_nextToken 286 = .ok (.aload_n 0, 1) := by decide +kernel
theorem d_M_nextToken_287 : decode cX12_nextToken 287 = .ok (.dup, 1) := by decide +kernel
theorem d_M_nextToken_288 : decode cX12_nextToken 288 = .ok (.getfield 187, 3) := by decide +kernel
theorem d_M_nextToken_291 : decode cX12_nextToken 291 = .ok (.iconst 1, 1) := by decide +kernel
theorem d_M_nextToken_292 : decode cX12_nextToken 292 = .ok (.iadd, 1) := by decide +kernel
theorem d_M_nextToken_293 : decode cX12_nextToken 293 = .ok (.putfield 187, 3) := by decide +kernel
theorem d_M_nextToken_296 : decode cX12_nextToken 296 = .ok (.goto (-72), 3) := by decide +kernel
theorem d_M_nextToken_299 : decode cX12_nextToken 299 = .ok (.aload_n 0, 1) := by decide +kernel
theorem d_M_nextToken_300 : decode cX12_nextToken 300 = .ok (.aload_n 0, 1) := by decide +kernel
theorem d_M_nextToken_301 : decode cX12_nextToken 301 = .ok (.getfield 187, 3) := by decide +kernel
theorem d_M_nextToken_304 : decode cX12_nextToken 304 = .ok (.aload_n 0, 1) := by decide +kernel
theorem d_M_nextToken_305 : decode cX12_nextToken 305 = .ok (.getfield 190, 3) := by decide +kernel
theorem d_M_nextToken_308 : decode cX12_nextToken 308 = .ok (.isub, 1) := by decide +kernel
theorem d_M_nextToken_309 : decode cX12_nextToken 309 = .ok (.iconst 4, 1) := by decide +kernel
theorem d_M_nextToken_310 : decode cX12_nextToken 310 = .ok (.if_icmp .le 7, 3) := by decide +kernel
theorem d_M_nextToken_313 : decode cX12_nextToken 313 = .ok (.iconst 4, 1) := by decide +kernel
theorem d_M_nextToken_314 : decode cX12_nextToken 314 = .ok (.goto 4, 3) := by decide +kernel
theorem d_M_nextToken_317 : decode cX12_nextToken 317 = .ok (.iconst 2, 1) := by decide +kernel
theorem d_M_nextToken_318 : decode cX12_nextToken 318 = .ok (.putfield 200, 3) := by decide +kernel
theorem d_M_nextToken_321 : decode cX12_nextToken 321 = .ok (.return_, 1) := by decide +kernel
theorem d_M_nextToken_322 : decode cX12_nextToken 322 = .ok (.aload_n 0, 1) := by decide +kernel
theorem d_M_nextToken_323 : decode cX12_nextToken 323 = .ok (.dup, 1) := by decide +kernel
theorem d_M_nextToken_324 : decode cX12_nextToken 324 = .ok (.getfield 187, 3) := by decide +kernel
theorem d_M_nextToken_327 : decode cX12_nextToken 327 = .ok (.iconst 1, 1) := by decide +kernel
theorem d_M_nextToken_328 : decode cX12_nextToken 328 = .ok (.iadd, 1) := by decide +kernel
theorem d_M_nextToken_329 : decode cX12_nextToken 329 = .ok (.putfield 187, 3) := by decide +kernel
theorem d_M_nextToken_332 : decode cX12_nextToken 332 = .ok (.aload_n 0, 1) := by decide +kernel
theorem d_M_nextToken_333 : decode cX12_nextToken 333 = .ok (.iload_n 1, 1) := by decide +kernel
theorem d_M_nextToken_334 : decode cX12_nextToken 334 = .ok (.bipush 40, 2) := by decide +kernel
theorem d_M_nextToken_336 : decode cX12_nextToken 336 = .ok (.if_icmp .lt 9, 3) := by decide +kernel
theorem d_M_nextToken_339 : decode cX12_nextToken 339 = .ok (.iload_n 1, 1) := by decide +kernel
theorem d_M_nextToken_340 : decode cX12_nextToken 340 = .ok (.bipush 43, 2) := by decide +kernel
theorem d_M_nextToken_342 : decode cX12_nextToken 342 = .ok (.if_icmp .le 21, 3) := by decide +kernel
theorem d_M_nextToken_345 : decode cX12_nextToken 345 = .ok (.iload_n 1, 1) := by decide +kernel
theorem d_M_nextToken_346 : decode cX12_nextToken 346 = .ok (.bipush 45, 2) := by decide +kernel
theorem d_M_nextToken_348 : decode cX12_nextToken 348 = .ok (.if_icmp .eq 15, 3) := by decide +kernel
theorem d_M_nextToken_351 : decode cX12_nextToken 351 = .ok (.iload_n 1, 1) := by decide +kernel
theorem d_M_nextToken_352 : decode cX12_nextToken 352 = .ok (.bipush 59, 2) := by decide +kernel
theorem d_M_nextToken_354 : decode cX12_nextToken 354 = .ok (.if_icmp .lt 13, 3) := by decide +kernel
theorem d_M_nextToken_357 : decode cX12_nextToken 357 = .ok (.iload_n 1, 1) := by decide +kernel
theorem d_M_nextToken_358 : decode cX12_nextToken 358 = .ok (.bipush 61, 2) := by decide +kernel
theorem d_M_nextToken_360 : decode cX12_nextToken 360 = .ok (.if_icmp .gt 7, 3) := by decide +kernel
theorem d_M_nextToken_363 : decode cX12_nextToken 363 = .ok (.iconst 3, 1) := by decide +kernel
theorem d_M_nextToken_364 : decode cX12_nextToken 364 = .ok (.goto 4, 3) := by decide +kernel
theorem d_M_nextToken_367 : decode cX12_nextToken 367 = .ok (.iconst 4, 1) := by decide +kernel
theorem d_M_nextToken_368 : decode cX12_nextToken 368 = .ok (.putfield 200, 3) := by decide +kernel
theorem d_M_nextToken_371 : decode cX12_nextToken 371 = .ok (.return_, 1) := by decide +kernel
noncomputable def f_M_nextToken (h : mm_H) : Option mm_H := (if (h.1 261 3) ≤ (h.1 261 4) then (some h) else ((mm_ix (h.1 261 4) 1000).bind fun k3 => mm_jp (fun (j5 : Unit) => (mm_let (mm_pI h 261 4 ((h.1 261 4) + 1)) fun h8 => (mm_while (σ := mm_H) (ρ := mm_H) (fun s10 => if (s10.1 261 3) ≤ (s10.1 261 4) then (some (Sum.inr s10)) else ((mm_ix (s10.1 261 4) 1000).bind fun k16 => mm_jp (fun (j18 : Unit) => (mm_let (mm_pI s10 261 4 ((s10.1 261 4) + 1)) fun h21 => some (Sum.inl h21))) fun k20 => if (s10.1 262 k16) = 32 then (k20 ()) else ((mm_ix (s10.1 261 4) 1000).bind fun k23 => if (s10.1 262 k23) = 10 then (k20 ()) else (some (Sum.inr s10))))) h8).bind fun v13 => some v13)) fun k7 => if (h.1 262 k3) = 32 then (k7 ()) else ((mm_ix (h.1 261 4) 1000).bind fun k35 => if (h.1 262 k35) = 10 then (k7 ()) else (some h))) : Option mm_H).bind fun j1 => mm_let (mm_pI j1 261 5 (j1.1 261 4)) fun h47 => mm_let (mm_pL h47 261 7 0) fun h49 => mm_let (mm_pI h49 261 8 0) fun h51 => if (h51.1 261 4) = (h51.1 261 3) then (mm_let (mm_pI h51 261 6 0) fun h175 => some h175) else ((mm_ix (h51.1 261 4) 1000).bind fun k53 => mm_let (h51.1 262 k53) fun y55 => mm_jp (fun (j57 : Unit) => (mm_jp (fun (j60 : Unit) => (mm_let (mm_pI h51 261 4 ((h51.1 261 4) + 1)) fun h63 => (mm_jp (fun (j67 : Unit) => (if y55 = 45 then (some 3) else (if y55 < 59 then (some 4) else (if 61 < y55 then (some 4) else (some 3))))) fun k69 => if y55 < 40 then (k69 ()) else (if y55 ≤ 43 then (some 3) else (k69 ())) : Option Int32).bind fun j65 => mm_let (mm_pI h63 261 6 j65) fun h86 => some h86)) fun k62 => if y55 < 48 then (k62 ()) else (if 57 < y55 then (k62 ()) else ((mm_while (σ := mm_H) (ρ := mm_H) (fun s89 => (f_M_signAt (s89.1 261 4) s89).bind fun v96 => if v96 < 48 then (some (Sum.inr s89)) else ((f_M_signAt (s89.1 261 4) s89).bind fun v98 => if 57 < v98 then (some (Sum.inr s89)) else ((if 4 ≤ ((s89.1 261 4) - (s89.1 261 5)) then (some s89) else ((f_M_signAt (s89.1 261 4) s89).bind fun v102 => mm_let (mm_pI s89 261 8 ((((s89.1 261 8) * 10) + v102) - 48)) fun h103 => some h103) : Option mm_H).bind fun j99 => mm_let (mm_pI j99 261 4 ((j99.1 261 4) + 1)) fun h108 => some (Sum.inl h108)))) h51).bind fun v92 => (if ((v92.1 261 4) - (v92.1 261 5)) ≤ 4 then (some 2) else (some 4) : Option Int32).bind fun j117 => mm_let (mm_pI v92 261 6 j117) fun h122 => some h122)))) fun k59 => if y55 < 97 then (k59 ()) else (if 122 < y55 then (k59 ()) else ((mm_while (σ := mm_H) (ρ := mm_H) (fun s132 => (f_M_signAt (s132.1 261 4) s132).bind fun v139 => if v139 < 97 then (some (Sum.inr s132)) else ((f_M_signAt (s132.1 261 4) s132).bind fun v141 => if 122 < v141 then (some (Sum.inr s132)) else ((if 8 ≤ ((s132.1 261 4) - (s132.1 261 5)) then (some s132) else ((f_M_signAt (s132.1 261 4) s132).bind fun v145 => mm_let (mm_pL s132 261 7 ((((s132.2.1 261 7) * 27) + (Int32.toInt64 v145)) - 96)) fun h146 => some h146) : Option mm_H).bind fun j142 => mm_let (mm_pI j142 261 4 ((j142.1 261 4) + 1)) fun h151 => some (Sum.inl h151)))) h51).bind fun v135 => (if ((v135.1 261 4) - (v135.1 261 5)) ≤ 8 then (some 1) else (some 4) : Option Int32).bind fun j160 => mm_let (mm_pI v135 261 6 j160) fun h165 => some h165)))
theorem T_M_nextToken (V : mm_V) (l : Launch) (h : mm_H) (r : mm_H) (hf : f_M_nextToken h = some r) : MT V l Y_M_nextToken 2 [.ref 261] (fun r1 h1 => r1 = none ∧ h1 = r) h := by
  unfold f_M_nextToken at hf
  refine MT.intro (pn_M rfl) [(0, .ref 261)] rfl (Nat.le_of_ble_eq_true rfl) ?_
  generalize hZ : mm_Z V _ = Z0
  refine MM.aload_n (i := 0) rfl rfl d_M_nextToken_0 rfl ?_
  refine MM.getI 9 tg_261 lays_9 gq_9_4 ww_1362 d_M_nextToken_1 rfl ?_
  refine MM.aload_n (i := 0) rfl rfl d_M_nextToken_4 rfl ?_
  refine MM.getI 9 tg_261 lays_9 gq_9_3 ww_1361 d_M_nextToken_5 rfl ?_
  obtain ⟨j1, e180, hf⟩ := mm_bind hf
  have K2 : MM V l Y_M_nextToken 2 0 0 Z0 52 [(0, .ref 261)] [] j1 := by
    refine MM.aload_n (i := 0) rfl rfl d_M_nextToken_52 rfl ?_
    refine MM.aload_n (i := 0) rfl rfl d_M_nextToken_53 rfl ?_
    refine MM.getI 9 tg_261 lays_9 gq_9_4 ww_1362 d_M_nextToken_54 rfl ?_
    obtain ⟨h47, e48, hf⟩ := mm_letE hf
    refine MM.putI e48 9 tg_261 lays_9 toks_9 pq_9_5 ww_1363 d_M_nextToken_57 rfl ?_
    refine MM.aload_n (i := 0) rfl rfl d_M_nextToken_60 rfl ?_
    refine MM.lconst (v := 0) rfl d_M_nextToken_61 rfl ?_
    obtain ⟨h49, e50, hf⟩ := mm_letE hf
    refine MM.putL e50 9 tg_261 lays_9 toks_9 pq_9_7 ww_1365 d_M_nextToken_62 rfl ?_
    refine MM.aload_n (i := 0) rfl rfl d_M_nextToken_65 rfl ?_
    refine MM.iconst ic_0 d_M_nextToken_66 rfl ?_
    obtain ⟨h51, e52, hf⟩ := mm_letE hf
    refine MM.putI e52 9 tg_261 lays_9 toks_9 pq_9_8 ww_1366 d_M_nextToken_67 rfl ?_
    refine MM.aload_n (i := 0) rfl rfl d_M_nextToken_70 rfl ?_
    refine MM.getI 9 tg_261 lays_9 gq_9_4 ww_1362 d_M_nextToken_71 rfl ?_
    refine MM.aload_n (i := 0) rfl rfl d_M_nextToken_74 rfl ?_
    refine MM.getI 9 tg_261 lays_9 gq_9_3 ww_1361 d_M_nextToken_75 rfl ?_
    obtain ⟨m178, m179⟩ := mm_ifE hf
    refine MM.icmp_ne (tgt := 87) d_M_nextToken_78 rfl rfl (fun c177 => ?_) (fun c177 => ?_)
    · replace hf := m179 c177
      refine MM.aload_n (i := 0) rfl rfl d_M_nextToken_87 rfl ?_
      refine MM.gR 9 1 tg_261 rq_9_2 rfl lays_9 ww_1360 d_M_nextToken_88 rfl ?_
      refine MM.aload_n (i := 0) rfl rfl d_M_nextToken_91 rfl ?_
      refine MM.getI 9 tg_261 lays_9 gq_9_4 ww_1362 d_M_nextToken_92 rfl ?_
      obtain ⟨k53, e54, hf⟩ := mm_bind hf
      refine MM.gI e54 al_262 d_M_nextToken_95 rfl ?_
      obtain ⟨y55, e56, hf⟩ := mm_letE hf
      refine MM.istore_n (i := 1) (lv' := [(1, .int y55), (0, .ref 261)]) e56 rfl (Nat.le_of_ble_eq_true rfl) rfl d_M_nextToken_96 rfl ?_
      refine MM.iload_n (i := 1) rfl rfl d_M_nextToken_97 rfl ?_
      refine MM.bipush bp_97 d_M_nextToken_98 rfl ?_
      obtain ⟨k59, e174, hf⟩ := mm_jpE hf
      have K58 : ∀ j57, k59 j57 = some r → MM V l Y_M_nextToken 2 0 0 Z0 212 [(0, .ref 261), (1, .int y55)] [] h51 := by
        intro j57 hf
        rw [e174] at hf
        refine MM.iload_n (i := 1) rfl rfl d_M_nextToken_212 rfl ?_
        refine MM.bipush bp_48 d_M_nextToken_213 rfl ?_
        obtain ⟨k62, e131, hf⟩ := mm_jpE hf
        have K61 : ∀ j60, k62 j60 = some r → MM V l Y_M_nextToken 2 0 0 Z0 322 [(0, .ref 261), (1, .int y55)] [] h51 := by
          intro j60 hf
          rw [e131] at hf
          refine MM.aload_n (i := 0) rfl rfl d_M_nextToken_322 rfl ?_
          refine MM.dup rfl d_M_nextToken_323 rfl ?_
          refine MM.getI 9 tg_261 lays_9 gq_9_4 ww_1362 d_M_nextToken_324 rfl ?_
          refine MM.iconst ic_1 d_M_nextToken_327 rfl ?_
          refine MM.iadd d_M_nextToken_328 rfl ?_
          obtain ⟨h63, e64, hf⟩ := mm_letE hf
          refine MM.putI e64 9 tg_261 lays_9 toks_9 pq_9_4 ww_1362 d_M_nextToken_329 rfl ?_
          refine MM.aload_n (i := 0) rfl rfl d_M_nextToken_332 rfl ?_
          refine MM.iload_n (i := 1) rfl rfl d_M_nextToken_333 rfl ?_
          refine MM.bipush bp_40 d_M_nextToken_334 rfl ?_
          obtain ⟨j65, e88, hf⟩ := mm_bind hf
          have K66 : MM V l Y_M_nextToken 2 0 0 Z0 368 [] [.int j65, .ref 261] h63 := by
            obtain ⟨h86, e87, hf⟩ := mm_letE hf
            refine MM.putI e87 9 tg_261 lays_9 toks_9 pq_9_6 ww_1364 d_M_nextToken_368 rfl ?_
            obtain rfl := Option.some.inj hf
            subst hZ
            exact MM.vret rfl d_M_nextToken_371 ⟨rfl, rfl⟩
          clear hf
          have hf := e88
          clear e88
          obtain ⟨k69, e85, hf⟩ := mm_jpE hf
          have K68 : ∀ j67, k69 j67 = some j65 → MM V l Y_M_nextToken 2 0 0 Z0 345 [(1, .int y55)] [.ref 261] h63 := by
            intro j67 hf
            rw [e85] at hf
            refine MM.iload_n (i := 1) rfl rfl d_M_nextToken_345 rfl ?_
            refine MM.bipush bp_45 d_M_nextToken_346 rfl ?_
            obtain ⟨m77, m78⟩ := mm_ifE hf
            refine MM.icmp_eq (tgt := 363) d_M_nextToken_348 rfl rfl (fun c76 => ?_) (fun c76 => ?_)
            · replace hf := m77 c76
              refine MM.iconst ic_3 d_M_nextToken_363 rfl ?_
              refine MM.goto (tgt := 368) d_M_nextToken_364 rfl ?_
              obtain rfl := Option.some.inj hf
              exact MM.sub [] (by rfl) K66
            · replace hf := m78 c76
              refine MM.iload_n (i := 1) rfl rfl d_M_nextToken_351 rfl ?_
              refine MM.bipush bp_59 d_M_nextToken_352 rfl ?_
              obtain ⟨m74, m75⟩ := mm_ifE hf
              refine MM.icmp_lt (tgt := 367) d_M_nextToken_354 rfl rfl (fun c73 => ?_) (fun c73 => ?_)
              · replace hf := m74 c73
                refine MM.iconst ic_4 d_M_nextToken_367 rfl ?_
                obtain rfl := Option.some.inj hf
                exact MM.sub [] (by rfl) K66
              · replace hf := m75 c73
                refine MM.iload_n (i := 1) rfl rfl d_M_nextToken_357 rfl ?_
                refine MM.bipush bp_61 d_M_nextToken_358 rfl ?_
                obtain ⟨m71, m72⟩ := mm_ifE hf
                refine MM.icmp_gt (tgt := 367) d_M_nextToken_360 rfl rfl (fun c70 => ?_) (fun c70 => ?_)
                · replace hf := m71 c70
                  refine MM.iconst ic_4 d_M_nextToken_367 rfl ?_
                  obtain rfl := Option.some.inj hf
                  exact MM.sub [] (by rfl) K66
                · replace hf := m72 c70
                  refine MM.iconst ic_3 d_M_nextToken_363 rfl ?_
                  refine MM.goto (tgt := 368) d_M_nextToken_364 rfl ?_
                  obtain rfl := Option.some.inj hf
                  exact MM.sub [] (by rfl) K66
          clear e85
          obtain ⟨m83, m84⟩ := mm_ifE hf
          refine MM.icmp_lt (tgt := 345) d_M_nextToken_336 rfl rfl (fun c82 => ?_) (fun c82 => ?_)
          · replace hf := m83 c82
            exact MM.sub [1] (by rfl) (K68 _ hf)
          · replace hf := m84 c82
            refine MM.iload_n (i := 1) rfl rfl d_M_nextToken_339 rfl ?_
            refine MM.bipush bp_43 d_M_nextToken_340 rfl ?_
            obtain ⟨m80, m81⟩ := mm_ifE hf
            refine MM.icmp_le (tgt := 363) d_M_nextToken_342 rfl rfl (fun c79 => ?_) (fun c79 => ?_)
            · replace hf := m80 c79
              refine MM.iconst ic_3 d_M_nextToken_363 rfl ?_
              refine MM.goto (tgt := 368) d_M_nextToken_364 rfl ?_
              obtain rfl := Option.some.inj hf
              exact MM.sub [] (by rfl) K66
            · replace hf := m81 c79
              exact MM.sub [1] (by rfl) (K68 _ hf)
        clear e131
        obtain ⟨m129, m130⟩ := mm_ifE hf
        refine MM.icmp_lt (tgt := 322) d_M_nextToken_215 rfl rfl (fun c128 => ?_) (fun c128 => ?_)
        · replace hf := m129 c128
          exact MM.sub [0, 1] (by rfl) (K61 _ hf)
        · replace hf := m130 c128
          refine MM.iload_n (i := 1) rfl rfl d_M_nextToken_218 rfl ?_
          refine MM.bipush bp_57 d_M_nextToken_219 rfl ?_
          obtain ⟨m126, m127⟩ := mm_ifE hf
          refine MM.icmp_gt (tgt := 322) d_M_nextToken_221 rfl rfl (fun c125 => ?_) (fun c125 => ?_)
          · replace hf := m126 c125
            exact MM.sub [0, 1] (by rfl) (K61 _ hf)
          · replace hf := m127 c125
            obtain ⟨v92, e94, hf⟩ := mm_bind hf
            have K93 : MM V l Y_M_nextToken 2 0 0 Z0 299 [(0, .ref 261)] [] v92 := by
              refine MM.aload_n (i := 0) rfl rfl d_M_nextToken_299 rfl ?_
              refine MM.aload_n (i := 0) rfl rfl d_M_nextToken_300 rfl ?_
              refine MM.getI 9 tg_261 lays_9 gq_9_4 ww_1362 d_M_nextToken_301 rfl ?_
              refine MM.aload_n (i := 0) rfl rfl d_M_nextToken_304 rfl ?_
              refine MM.getI 9 tg_261 lays_9 gq_9_5 ww_1363 d_M_nextToken_305 rfl ?_
              refine MM.isub d_M_nextToken_308 rfl ?_
              refine MM.iconst ic_4 d_M_nextToken_309 rfl ?_
              obtain ⟨j117, e124, hf⟩ := mm_bind hf
              have K118 : MM V l Y_M_nextToken 2 0 0 Z0 318 [] [.int j117, .ref 261] v92 := by
                obtain ⟨h122, e123, hf⟩ := mm_letE hf
                refine MM.putI e123 9 tg_261 lays_9 toks_9 pq_9_6 ww_1364 d_M_nextToken_318 rfl ?_
                obtain rfl := Option.some.inj hf
                subst hZ
                exact MM.vret rfl d_M_nextToken_321 ⟨rfl, rfl⟩
              clear hf
              have hf := e124
              clear e124
              obtain ⟨m120, m121⟩ := mm_ifE hf
              refine MM.icmp_le (tgt := 317) d_M_nextToken_310 rfl rfl (fun c119 => ?_) (fun c119 => ?_)
              · replace hf := m120 c119
                refine MM.iconst ic_2 d_M_nextToken_317 rfl ?_
                obtain rfl := Option.some.inj hf
                exact MM.sub [] (by rfl) K118
              · replace hf := m121 c119
                refine MM.iconst ic_4 d_M_nextToken_313 rfl ?_
                refine MM.goto (tgt := 318) d_M_nextToken_314 rfl ?_
                obtain rfl := Option.some.inj hf
                exact MM.sub [] (by rfl) K118
            clear hf
            refine MM.sub [0] (by rfl) (mm_while_ind (fun s89 => MM V l Y_M_nextToken 2 0 0 Z0 224 [(0, .ref 261)] [] s89) e94 (fun s89 q90 hf hx91 => ?_))
            refine MM.aload_n (i := 0) rfl rfl d_M_nextToken_224 rfl ?_
            refine MM.aload_n (i := 0) rfl rfl d_M_nextToken_225 rfl ?_
            refine MM.getI 9 tg_261 lays_9 gq_9_4 ww_1362 d_M_nextToken_226 rfl ?_
            obtain ⟨v96, e95, hf⟩ := mm_bind hf
            refine MM.callV1 (T_M_signAt V l (s89.1 261 4) s89 _ e95) (fun _ _ q => q) cal_M_signAt rfl tg_261 ct_9 ww_40 ww_1597 ww_1595 (by decide) (by simp [Value.category]) d_M_nextToken_229 rfl ⟨rfl, rfl⟩ rfl ?_
            refine MM.bipush bp_48 d_M_nextToken_232 rfl ?_
            obtain ⟨m115, m116⟩ := mm_ifE hf
            refine MM.icmp_lt (tgt := 299) d_M_nextToken_234 rfl rfl (fun c114 => ?_) (fun c114 => ?_)
            · replace hf := m115 c114
              obtain rfl := Option.some.inj hf
              obtain rfl := Option.some.inj (mm_wxR hx91)
              exact MM.sub [0] (by rfl) K93
            · replace hf := m116 c114
              refine MM.aload_n (i := 0) rfl rfl d_M_nextToken_237 rfl ?_
              refine MM.aload_n (i := 0) rfl rfl d_M_nextToken_238 rfl ?_
              refine MM.getI 9 tg_261 lays_9 gq_9_4 ww_1362 d_M_nextToken_239 rfl ?_
              obtain ⟨v98, e97, hf⟩ := mm_bind hf
              refine MM.callV1 (T_M_signAt V l (s89.1 261 4) s89 _ e97) (fun _ _ q => q) cal_M_signAt rfl tg_261 ct_9 ww_40 ww_1597 ww_1595 (by decide) (by simp [Value.category]) d_M_nextToken_242 rfl ⟨rfl, rfl⟩ rfl ?_
              refine MM.bipush bp_57 d_M_nextToken_245 rfl ?_
              obtain ⟨m112, m113⟩ := mm_ifE hf
              refine MM.icmp_gt (tgt := 299) d_M_nextToken_247 rfl rfl (fun c111 => ?_) (fun c111 => ?_)
              · replace hf := m112 c111
                obtain rfl := Option.some.inj hf
                obtain rfl := Option.some.inj (mm_wxR hx91)
                exact MM.sub [0] (by rfl) K93
              · replace hf := m113 c111
                refine MM.aload_n (i := 0) rfl rfl d_M_nextToken_250 rfl ?_
                refine MM.getI 9 tg_261 lays_9 gq_9_4 ww_1362 d_M_nextToken_251 rfl ?_
                refine MM.aload_n (i := 0) rfl rfl d_M_nextToken_254 rfl ?_
                refine MM.getI 9 tg_261 lays_9 gq_9_5 ww_1363 d_M_nextToken_255 rfl ?_
                refine MM.isub d_M_nextToken_258 rfl ?_
                refine MM.iconst ic_4 d_M_nextToken_259 rfl ?_
                obtain ⟨j99, e110, hf⟩ := mm_bind hf
                have K100 : MM V l Y_M_nextToken 2 0 0 Z0 286 [(0, .ref 261)] [] j99 := by
                  refine MM.aload_n (i := 0) rfl rfl d_M_nextToken_286 rfl ?_
                  refine MM.dup rfl d_M_nextToken_287 rfl ?_
                  refine MM.getI 9 tg_261 lays_9 gq_9_4 ww_1362 d_M_nextToken_288 rfl ?_
                  refine MM.iconst ic_1 d_M_nextToken_291 rfl ?_
                  refine MM.iadd d_M_nextToken_292 rfl ?_
                  obtain ⟨h108, e109, hf⟩ := mm_letE hf
                  refine MM.putI e109 9 tg_261 lays_9 toks_9 pq_9_4 ww_1362 d_M_nextToken_293 rfl ?_
                  refine MM.goto (tgt := 224) d_M_nextToken_296 rfl ?_
                  obtain rfl := Option.some.inj hf
                  have h9 := mm_wxL hx91
                  exact MM.sub [0] (by rfl) h9
                clear hf
                have hf := e110
                clear e110
                obtain ⟨m106, m107⟩ := mm_ifE hf
                refine MM.icmp_ge (tgt := 286) d_M_nextToken_260 rfl rfl (fun c105 => ?_) (fun c105 => ?_)
                · replace hf := m106 c105
                  obtain rfl := Option.some.inj hf
                  exact MM.sub [0] (by rfl) K100
                · replace hf := m107 c105
                  refine MM.aload_n (i := 0) rfl rfl d_M_nextToken_263 rfl ?_
                  refine MM.aload_n (i := 0) rfl rfl d_M_nextToken_264 rfl ?_
                  refine MM.getI 9 tg_261 lays_9 gq_9_8 ww_1366 d_M_nextToken_265 rfl ?_
                  refine MM.bipush bp_10 d_M_nextToken_268 rfl ?_
                  refine MM.imul d_M_nextToken_270 rfl ?_
                  refine MM.aload_n (i := 0) rfl rfl d_M_nextToken_271 rfl ?_
                  refine MM.aload_n (i := 0) rfl rfl d_M_nextToken_272 rfl ?_
                  refine MM.getI 9 tg_261 lays_9 gq_9_4 ww_1362 d_M_nextToken_273 rfl ?_
                  obtain ⟨v102, e101, hf⟩ := mm_bind hf
                  refine MM.callV1 (T_M_signAt V l (s89.1 261 4) s89 _ e101) (fun _ _ q => q) cal_M_signAt rfl tg_261 ct_9 ww_40 ww_1597 ww_1595 (by decide) (by simp [Value.category]) d_M_nextToken_276 rfl ⟨rfl, rfl⟩ rfl ?_
                  refine MM.iadd d_M_nextToken_279 rfl ?_
                  refine MM.bipush bp_48 d_M_nextToken_280 rfl ?_
                  refine MM.isub d_M_nextToken_282 rfl ?_
                  obtain ⟨h103, e104, hf⟩ := mm_letE hf
                  refine MM.putI e104 9 tg_261 lays_9 toks_9 pq_9_8 ww_1366 d_M_nextToken_283 rfl ?_
                  obtain rfl := Option.some.inj hf
                  exact MM.sub [0] (by rfl) K100
      clear e174
      obtain ⟨m172, m173⟩ := mm_ifE hf
      refine MM.icmp_lt (tgt := 212) d_M_nextToken_100 rfl rfl (fun c171 => ?_) (fun c171 => ?_)
      · replace hf := m172 c171
        exact MM.sub [1, 0] (by rfl) (K58 _ hf)
      · replace hf := m173 c171
        refine MM.iload_n (i := 1) rfl rfl d_M_nextToken_103 rfl ?_
        refine MM.bipush bp_122 d_M_nextToken_104 rfl ?_
        obtain ⟨m169, m170⟩ := mm_ifE hf
        refine MM.icmp_gt (tgt := 212) d_M_nextToken_106 rfl rfl (fun c168 => ?_) (fun c168 => ?_)
        · replace hf := m169 c168
          exact MM.sub [1, 0] (by rfl) (K58 _ hf)
        · replace hf := m170 c168
          obtain ⟨v135, e137, hf⟩ := mm_bind hf
          have K136 : MM V l Y_M_nextToken 2 0 0 Z0 188 [(0, .ref 261)] [] v135 := by
            refine MM.aload_n (i := 0) rfl rfl d_M_nextToken_188 rfl ?_
            refine MM.aload_n (i := 0) rfl rfl d_M_nextToken_189 rfl ?_
            refine MM.getI 9 tg_261 lays_9 gq_9_4 ww_1362 d_M_nextToken_190 rfl ?_
            refine MM.aload_n (i := 0) rfl rfl d_M_nextToken_193 rfl ?_
            refine MM.getI 9 tg_261 lays_9 gq_9_5 ww_1363 d_M_nextToken_194 rfl ?_
            refine MM.isub d_M_nextToken_197 rfl ?_
            refine MM.bipush bp_8 d_M_nextToken_198 rfl ?_
            obtain ⟨j160, e167, hf⟩ := mm_bind hf
            have K161 : MM V l Y_M_nextToken 2 0 0 Z0 208 [] [.int j160, .ref 261] v135 := by
              obtain ⟨h165, e166, hf⟩ := mm_letE hf
              refine MM.putI e166 9 tg_261 lays_9 toks_9 pq_9_6 ww_1364 d_M_nextToken_208 rfl ?_
              obtain rfl := Option.some.inj hf
              subst hZ
              exact MM.vret rfl d_M_nextToken_211 ⟨rfl, rfl⟩
            clear hf
            have hf := e167
            clear e167
            obtain ⟨m163, m164⟩ := mm_ifE hf
            refine MM.icmp_le (tgt := 207) d_M_nextToken_200 rfl rfl (fun c162 => ?_) (fun c162 => ?_)
            · replace hf := m163 c162
              refine MM.iconst ic_1 d_M_nextToken_207 rfl ?_
              obtain rfl := Option.some.inj hf
              exact MM.sub [] (by rfl) K161
            · replace hf := m164 c162
              refine MM.iconst ic_4 d_M_nextToken_203 rfl ?_
              refine MM.goto (tgt := 208) d_M_nextToken_204 rfl ?_
              obtain rfl := Option.some.inj hf
              exact MM.sub [] (by rfl) K161
          clear hf
          refine MM.sub [1] (by rfl) (mm_while_ind (fun s132 => MM V l Y_M_nextToken 2 0 0 Z0 109 [(0, .ref 261)] [] s132) e137 (fun s132 q133 hf hx134 => ?_))
          refine MM.aload_n (i := 0) rfl rfl d_M_nextToken_109 rfl ?_
          refine MM.aload_n (i := 0) rfl rfl d_M_nextToken_110 rfl ?_
          refine MM.getI 9 tg_261 lays_9 gq_9_4 ww_1362 d_M_nextToken_111 rfl ?_
          obtain ⟨v139, e138, hf⟩ := mm_bind hf
          refine MM.callV1 (T_M_signAt V l (s132.1 261 4) s132 _ e138) (fun _ _ q => q) cal_M_signAt rfl tg_261 ct_9 ww_40 ww_1597 ww_1595 (by decide) (by simp [Value.category]) d_M_nextToken_114 rfl ⟨rfl, rfl⟩ rfl ?_
          refine MM.bipush bp_97 d_M_nextToken_117 rfl ?_
          obtain ⟨m158, m159⟩ := mm_ifE hf
          refine MM.icmp_lt (tgt := 188) d_M_nextToken_119 rfl rfl (fun c157 => ?_) (fun c157 => ?_)
          · replace hf := m158 c157
            obtain rfl := Option.some.inj hf
            obtain rfl := Option.some.inj (mm_wxR hx134)
            exact MM.sub [0] (by rfl) K136
          · replace hf := m159 c157
            refine MM.aload_n (i := 0) rfl rfl d_M_nextToken_122 rfl ?_
            refine MM.aload_n (i := 0) rfl rfl d_M_nextToken_123 rfl ?_
            refine MM.getI 9 tg_261 lays_9 gq_9_4 ww_1362 d_M_nextToken_124 rfl ?_
            obtain ⟨v141, e140, hf⟩ := mm_bind hf
            refine MM.callV1 (T_M_signAt V l (s132.1 261 4) s132 _ e140) (fun _ _ q => q) cal_M_signAt rfl tg_261 ct_9 ww_40 ww_1597 ww_1595 (by decide) (by simp [Value.category]) d_M_nextToken_127 rfl ⟨rfl, rfl⟩ rfl ?_
            refine MM.bipush bp_122 d_M_nextToken_130 rfl ?_
            obtain ⟨m155, m156⟩ := mm_ifE hf
            refine MM.icmp_gt (tgt := 188) d_M_nextToken_132 rfl rfl (fun c154 => ?_) (fun c154 => ?_)
            · replace hf := m155 c154
              obtain rfl := Option.some.inj hf
              obtain rfl := Option.some.inj (mm_wxR hx134)
              exact MM.sub [0] (by rfl) K136
            · replace hf := m156 c154
              refine MM.aload_n (i := 0) rfl rfl d_M_nextToken_135 rfl ?_
              refine MM.getI 9 tg_261 lays_9 gq_9_4 ww_1362 d_M_nextToken_136 rfl ?_
              refine MM.aload_n (i := 0) rfl rfl d_M_nextToken_139 rfl ?_
              refine MM.getI 9 tg_261 lays_9 gq_9_5 ww_1363 d_M_nextToken_140 rfl ?_
              refine MM.isub d_M_nextToken_143 rfl ?_
              refine MM.bipush bp_8 d_M_nextToken_144 rfl ?_
              obtain ⟨j142, e153, hf⟩ := mm_bind hf
              have K143 : MM V l Y_M_nextToken 2 0 0 Z0 175 [(0, .ref 261)] [] j142 := by
                refine MM.aload_n (i := 0) rfl rfl d_M_nextToken_175 rfl ?_
                refine MM.dup rfl d_M_nextToken_176 rfl ?_
                refine MM.getI 9 tg_261 lays_9 gq_9_4 ww_1362 d_M_nextToken_177 rfl ?_
                refine MM.iconst ic_1 d_M_nextToken_180 rfl ?_
                refine MM.iadd d_M_nextToken_181 rfl ?_
                obtain ⟨h151, e152, hf⟩ := mm_letE hf
                refine MM.putI e152 9 tg_261 lays_9 toks_9 pq_9_4 ww_1362 d_M_nextToken_182 rfl ?_
                refine MM.goto (tgt := 109) d_M_nextToken_185 rfl ?_
                obtain rfl := Option.some.inj hf
                have h9 := mm_wxL hx134
                exact MM.sub [0] (by rfl) h9
              clear hf
              have hf := e153
              clear e153
              obtain ⟨m149, m150⟩ := mm_ifE hf
              refine MM.icmp_ge (tgt := 175) d_M_nextToken_146 rfl rfl (fun c148 => ?_) (fun c148 => ?_)
              · replace hf := m149 c148
                obtain rfl := Option.some.inj hf
                exact MM.sub [0] (by rfl) K143
              · replace hf := m150 c148
                refine MM.aload_n (i := 0) rfl rfl d_M_nextToken_149 rfl ?_
                refine MM.aload_n (i := 0) rfl rfl d_M_nextToken_150 rfl ?_
                refine MM.getL 9 tg_261 lays_9 gq_9_7 ww_1365 d_M_nextToken_151 rfl ?_
                refine MM.ldc2 ww_1599 d_M_nextToken_154 rfl ?_
                refine MM.lmul d_M_nextToken_157 rfl ?_
                refine MM.aload_n (i := 0) rfl rfl d_M_nextToken_158 rfl ?_
                refine MM.aload_n (i := 0) rfl rfl d_M_nextToken_159 rfl ?_
                refine MM.getI 9 tg_261 lays_9 gq_9_4 ww_1362 d_M_nextToken_160 rfl ?_
                obtain ⟨v145, e144, hf⟩ := mm_bind hf
                refine MM.callV1 (T_M_signAt V l (s132.1 261 4) s132 _ e144) (fun _ _ q => q) cal_M_signAt rfl tg_261 ct_9 ww_40 ww_1597 ww_1595 (by decide) (by simp [Value.category]) d_M_nextToken_163 rfl ⟨rfl, rfl⟩ rfl ?_
                refine MM.i2l d_M_nextToken_166 rfl ?_
                refine MM.ladd d_M_nextToken_167 rfl ?_
                refine MM.ldc2 ww_1600 d_M_nextToken_168 rfl ?_
                refine MM.lsub d_M_nextToken_171 rfl ?_
                obtain ⟨h146, e147, hf⟩ := mm_letE hf
                refine MM.putL e147 9 tg_261 lays_9 toks_9 pq_9_7 ww_1365 d_M_nextToken_172 rfl ?_
                obtain rfl := Option.some.inj hf
                exact MM.sub [0] (by rfl) K143
    · replace hf := m178 c177
      refine MM.aload_n (i := 0) rfl rfl d_M_nextToken_81 rfl ?_
      refine MM.iconst ic_0 d_M_nextToken_82 rfl ?_
      obtain ⟨h175, e176, hf⟩ := mm_letE hf
      refine MM.putI e176 9 tg_261 lays_9 toks_9 pq_9_6 ww_1364 d_M_nextToken_83 rfl ?_
      obtain rfl := Option.some.inj hf
      subst hZ
      exact MM.vret rfl d_M_nextToken_86 ⟨rfl, rfl⟩
  clear hf
  have hf := e180
  clear e180
  obtain ⟨m45, m46⟩ := mm_ifE hf
  refine MM.icmp_ge (tgt := 52) d_M_nextToken_8 rfl rfl (fun c44 => ?_) (fun c44 => ?_)
  · replace hf := m45 c44
    obtain rfl := Option.some.inj hf
    exact MM.sub [0] (by rfl) K2
  · replace hf := m46 c44
    refine MM.aload_n (i := 0) rfl rfl d_M_nextToken_11 rfl ?_
    refine MM.gR 9 1 tg_261 rq_9_2 rfl lays_9 ww_1360 d_M_nextToken_12 rfl ?_
    refine MM.aload_n (i := 0) rfl rfl d_M_nextToken_15 rfl ?_
    refine MM.getI 9 tg_261 lays_9 gq_9_4 ww_1362 d_M_nextToken_16 rfl ?_
    obtain ⟨k3, e4, hf⟩ := mm_bind hf
    refine MM.gI e4 al_262 d_M_nextToken_19 rfl ?_
    refine MM.bipush bp_32 d_M_nextToken_20 rfl ?_
    obtain ⟨k7, e43, hf⟩ := mm_jpE hf
    have K6 : ∀ j5, k7 j5 = some j1 → MM V l Y_M_nextToken 2 0 0 Z0 39 [(0, .ref 261)] [] h := by
      intro j5 hf
      rw [e43] at hf
      refine MM.aload_n (i := 0) rfl rfl d_M_nextToken_39 rfl ?_
      refine MM.dup rfl d_M_nextToken_40 rfl ?_
      refine MM.getI 9 tg_261 lays_9 gq_9_4 ww_1362 d_M_nextToken_41 rfl ?_
      refine MM.iconst ic_1 d_M_nextToken_44 rfl ?_
      refine MM.iadd d_M_nextToken_45 rfl ?_
      obtain ⟨h8, e9, hf⟩ := mm_letE hf
      refine MM.putI e9 9 tg_261 lays_9 toks_9 pq_9_4 ww_1362 d_M_nextToken_46 rfl ?_
      refine MM.goto (tgt := 0) d_M_nextToken_49 rfl ?_
      obtain ⟨v13, e15, hf⟩ := mm_bind hf
      have K14 : MM V l Y_M_nextToken 2 0 0 Z0 52 [(0, .ref 261)] [] v13 := by
        obtain rfl := Option.some.inj hf
        exact MM.sub [0] (by rfl) K2
      clear hf
      refine MM.sub [0] (by rfl) (mm_while_ind (fun s10 => MM V l Y_M_nextToken 2 0 0 Z0 0 [(0, .ref 261)] [] s10) e15 (fun s10 q11 hf hx12 => ?_))
      refine MM.aload_n (i := 0) rfl rfl d_M_nextToken_0 rfl ?_
      refine MM.getI 9 tg_261 lays_9 gq_9_4 ww_1362 d_M_nextToken_1 rfl ?_
      refine MM.aload_n (i := 0) rfl rfl d_M_nextToken_4 rfl ?_
      refine MM.getI 9 tg_261 lays_9 gq_9_3 ww_1361 d_M_nextToken_5 rfl ?_
      obtain ⟨m33, m34⟩ := mm_ifE hf
      refine MM.icmp_ge (tgt := 52) d_M_nextToken_8 rfl rfl (fun c32 => ?_) (fun c32 => ?_)
      · replace hf := m33 c32
        obtain rfl := Option.some.inj hf
        obtain rfl := Option.some.inj (mm_wxR hx12)
        exact MM.sub [0] (by rfl) K14
      · replace hf := m34 c32
        refine MM.aload_n (i := 0) rfl rfl d_M_nextToken_11 rfl ?_
        refine MM.gR 9 1 tg_261 rq_9_2 rfl lays_9 ww_1360 d_M_nextToken_12 rfl ?_
        refine MM.aload_n (i := 0) rfl rfl d_M_nextToken_15 rfl ?_
        refine MM.getI 9 tg_261 lays_9 gq_9_4 ww_1362 d_M_nextToken_16 rfl ?_
        obtain ⟨k16, e17, hf⟩ := mm_bind hf
        refine MM.gI e17 al_262 d_M_nextToken_19 rfl ?_
        refine MM.bipush bp_32 d_M_nextToken_20 rfl ?_
        obtain ⟨k20, e31, hf⟩ := mm_jpE hf
        have K19 : ∀ j18, k20 j18 = some q11 → MM V l Y_M_nextToken 2 0 0 Z0 39 [(0, .ref 261)] [] s10 := by
          intro j18 hf
          rw [e31] at hf
          refine MM.aload_n (i := 0) rfl rfl d_M_nextToken_39 rfl ?_
          refine MM.dup rfl d_M_nextToken_40 rfl ?_
          refine MM.getI 9 tg_261 lays_9 gq_9_4 ww_1362 d_M_nextToken_41 rfl ?_
          refine MM.iconst ic_1 d_M_nextToken_44 rfl ?_
          refine MM.iadd d_M_nextToken_45 rfl ?_
          obtain ⟨h21, e22, hf⟩ := mm_letE hf
          refine MM.putI e22 9 tg_261 lays_9 toks_9 pq_9_4 ww_1362 d_M_nextToken_46 rfl ?_
          refine MM.goto (tgt := 0) d_M_nextToken_49 rfl ?_
          obtain rfl := Option.some.inj hf
          have h9 := mm_wxL hx12
          exact MM.sub [0] (by rfl) h9
        clear e31
        obtain ⟨m29, m30⟩ := mm_ifE hf
        refine MM.icmp_eq (tgt := 39) d_M_nextToken_22 rfl rfl (fun c28 => ?_) (fun c28 => ?_)
        · replace hf := m29 c28
          exact MM.sub [0] (by rfl) (K19 _ hf)
        · replace hf := m30 c28
          refine MM.aload_n (i := 0) rfl rfl d_M_nextToken_25 rfl ?_
          refine MM.gR 9 1 tg_261 rq_9_2 rfl lays_9 ww_1360 d_M_nextToken_26 rfl ?_
          refine MM.aload_n (i := 0) rfl rfl d_M_nextToken_29 rfl ?_
          refine MM.getI 9 tg_261 lays_9 gq_9_4 ww_1362 d_M_nextToken_30 rfl ?_
          obtain ⟨k23, e24, hf⟩ := mm_bind hf
          refine MM.gI e24 al_262 d_M_nextToken_33 rfl ?_
          refine MM.bipush bp_10 d_M_nextToken_34 rfl ?_
          obtain ⟨m26, m27⟩ := mm_ifE hf
          refine MM.icmp_ne (tgt := 52) d_M_nextToken_36 rfl rfl (fun c25 => ?_) (fun c25 => ?_)
          · replace hf := m27 c25
            obtain rfl := Option.some.inj hf
            obtain rfl := Option.some.inj (mm_wxR hx12)
            exact MM.sub [0] (by rfl) K14
          · replace hf := m26 c25
            exact MM.sub [0] (by rfl) (K19 _ hf)
    clear e43
    obtain ⟨m41, m42⟩ := mm_ifE hf
    refine MM.icmp_eq (tgt := 39) d_M_nextToken_22 rfl rfl (fun c40 => ?_) (fun c40 => ?_)
    · replace hf := m41 c40
      exact MM.sub [0] (by rfl) (K6 _ hf)
    · replace hf := m42 c40
      refine MM.aload_n (i := 0) rfl rfl d_M_nextToken_25 rfl ?_
      refine MM.gR 9 1 tg_261 rq_9_2 rfl lays_9 ww_1360 d_M_nextToken_26 rfl ?_
      refine MM.aload_n (i := 0) rfl rfl d_M_nextToken_29 rfl ?_
      refine MM.getI 9 tg_261 lays_9 gq_9_4 ww_1362 d_M_nextToken_30 rfl ?_
      obtain ⟨k35, e36, hf⟩ := mm_bind hf
      refine MM.gI e36 al_262 d_M_nextToken_33 rfl ?_
      refine MM.bipush bp_10 d_M_nextToken_34 rfl ?_
      obtain ⟨m38, m39⟩ := mm_ifE hf
      refine MM.icmp_ne (tgt := 52) d_M_nextToken_36 rfl rfl (fun c37 => ?_) (fun c37 => ?_)
      · replace hf := m39 c37
        obtain rfl := Option.some.inj hf
        exact MM.sub [0] (by rfl) K2
      · replace hf := m38 c37
        exact MM.sub [0] (by rfl) (K6 _ hf)
theorem d_M_isWord_0 : decode cX12_isWord 0 = .ok (.aload_n 0, 1) := by decide +kernel
theorem d_M_isWord_1 : decode cX12_isWord 1 = .ok (.getfield 200, 3) := by decide +kernel
theorem d_M_isWord_4 : decode cX12_isWord 4 = .ok (.iconst 1, 1) := by decide +kernel
theorem d_M_isWord_5 : decode cX12_isWord 5 = .ok (.if_icmp .ne 16, 3) := by decide +kernel
theorem d_M_isWord_8 : decode cX12_isWord 8 = .ok (.aload_n 0, 1) := by decide +kernel
theorem d_M_isWord_9 : decode cX12_isWord 9 = .ok (.getfield 193, 3) := by decide +kernel
theorem d_M_isWord_12 : decode cX12_isWord 12 = .ok (.lload_n 1, 1) := by decide +kernel
theorem d_M_isWord_13 : decode cX12_isWord 13 = .ok (.lcmp, 1) := by decide +kernel
theorem d_M_isWord_14 : decode cX12_isWord 14 = .ok (.ifCond .ne 7, 3) := by decide +kernel
theorem d_M_isWord_17 : decode cX12_isWord 17 = .ok (.iconst 1, 1) := by decide +kernel
theorem d_M_isWord_18 : decode cX12_isWord 18 = .ok (.goto 4, 3) := by decide +kernel
theorem d_M_isWord_21 : decode cX12_isWord 21 = .ok (.iconst 0, 1) := by decide +kernel
theorem d_M_isWord_22 : decode cX12_isWord 22 = .ok (.ireturn, 1) := by decide +kernel
noncomputable def f_M_isWord (x1 : Int64) (h : mm_H) : Option Int32 := if (h.1 261 6) = 1 then (if (lg_cmp (h.2.1 261 7) x1) = 0 then (some 1) else (some 0)) else (some 0)
theorem T_M_isWord (V : mm_V) (l : Launch) (x1 : Int64) (h : mm_H) (r : Int32) (hf : f_M_isWord x1 h = some r) : MT V l Y_M_isWord 1 [.ref 261, .long x1] (fun r1 h1 => r1 = some (.int r) ∧ h1 = h) h := by
  unfold f_M_isWord at hf
  refine MT.intro (pn_M rfl) [(0, .ref 261), (1, .long x1)] rfl (Nat.le_of_ble_eq_true rfl) ?_
  generalize hZ : mm_Z V _ = Z0
  refine MM.aload_n (i := 0) rfl rfl d_M_isWord_0 rfl ?_
  refine MM.getI 9 tg_261 lays_9 gq_9_6 ww_1364 d_M_isWord_1 rfl ?_
  refine MM.iconst ic_1 d_M_isWord_4 rfl ?_
  obtain ⟨m5, m6⟩ := mm_ifE hf
  refine MM.icmp_ne (tgt := 21) d_M_isWord_5 rfl rfl (fun c4 => ?_) (fun c4 => ?_)
  · replace hf := m6 c4
    refine MM.iconst ic_0 d_M_isWord_21 rfl ?_
    obtain rfl := Option.some.inj hf
    subst hZ
    exact MM.zret (Or.inl rfl) rfl d_M_isWord_22 ⟨rfl, rfl⟩
  · replace hf := m5 c4
    refine MM.aload_n (i := 0) rfl rfl d_M_isWord_8 rfl ?_
    refine MM.getL 9 tg_261 lays_9 gq_9_7 ww_1365 d_M_isWord_9 rfl ?_
    refine MM.lload_n (i := 1) rfl rfl d_M_isWord_12 rfl ?_
    refine MM.lcmp d_M_isWord_13 rfl ?_
    obtain ⟨m2, m3⟩ := mm_ifE hf
    refine MM.if_ne (tgt := 21) d_M_isWord_14 rfl rfl (fun c1 => ?_) (fun c1 => ?_)
    · replace hf := m3 c1
      refine MM.iconst ic_0 d_M_isWord_21 rfl ?_
      obtain rfl := Option.some.inj hf
      subst hZ
      exact MM.zret (Or.inl rfl) rfl d_M_isWord_22 ⟨rfl, rfl⟩
    · replace hf := m2 c1
      refine MM.iconst ic_1 d_M_isWord_17 rfl ?_
      refine MM.goto (tgt := 22) d_M_isWord_18 rfl ?_
      obtain rfl := Option.some.inj hf
      subst hZ
      exact MM.zret (Or.inr rfl) rfl d_M_isWord_22 ⟨rfl, rfl⟩
theorem d_M_isSign_0 : decode cX12_isSign 0 = .ok (.aload_n 0, 1) := by decide +kernel
theorem d_M_isSign_1 : decode cX12_isSign 1 = .ok (.getfield 200, 3) := by decide +kernel
theorem d_M_isSign_4 : decode cX12_isSign 4 = .ok (.iconst 3, 1) := by decide +kernel
theorem d_M_isSign_5 : decode cX12_isSign 5 = .ok (.if_icmp .ne 20, 3) := by decide +kernel
theorem d_M_isSign_8 : decode cX12_isSign 8 = .ok (.aload_n 0, 1) := by decide +kernel
theorem d_M_isSign_9 : decode cX12_isSign 9 = .ok (.getfield 7, 3) := by decide +kernel
theorem d_M_isSign_12 : decode cX12_isSign 12 = .ok (.aload_n 0, 1) := by decide +kernel
theorem d_M_isSign_13 : decode cX12_isSign 13 = .ok (.getfield 190, 3) := by decide +kernel
theorem d_M_isSign_16 : decode cX12_isSign 16 = .ok (.iaload, 1) := by decide +kernel
theorem d_M_isSign_17 : decode cX12_isSign 17 = .ok (.iload_n 1, 1) := by decide +kernel
theorem d_M_isSign_18 : decode cX12_isSign 18 = .ok (.if_icmp .ne 7, 3) := by decide +kernel
theorem d_M_isSign_21 : decode cX12_isSign 21 = .ok (.iconst 1, 1) := by decide +kernel
theorem d_M_isSign_22 : decode cX12_isSign 22 = .ok (.goto 4, 3) := by decide +kernel
theorem d_M_isSign_25 : decode cX12_isSign 25 = .ok (.iconst 0, 1) := by decide +kernel
theorem d_M_isSign_26 : decode cX12_isSign 26 = .ok (.ireturn, 1) := by decide +kernel
noncomputable def f_M_isSign (x1 : Int32) (h : mm_H) : Option Int32 := if (h.1 261 6) = 3 then ((mm_ix (h.1 261 5) 1000).bind fun k1 => if (h.1 262 k1) = x1 then (some 1) else (some 0)) else (some 0)
theorem T_M_isSign (V : mm_V) (l : Launch) (x1 : Int32) (h : mm_H) (r : Int32) (hf : f_M_isSign x1 h = some r) : MT V l Y_M_isSign 1 [.ref 261, .int x1] (fun r1 h1 => r1 = some (.int r) ∧ h1 = h) h := by
  unfold f_M_isSign at hf
  refine MT.intro (pn_M rfl) [(0, .ref 261), (1, .int x1)] rfl (Nat.le_of_ble_eq_true rfl) ?_
  generalize hZ : mm_Z V _ = Z0
  refine MM.aload_n (i := 0) rfl rfl d_M_isSign_0 rfl ?_
  refine MM.getI 9 tg_261 lays_9 gq_9_6 ww_1364 d_M_isSign_1 rfl ?_
  refine MM.iconst ic_3 d_M_isSign_4 rfl ?_
  obtain ⟨m7, m8⟩ := mm_ifE hf
  refine MM.icmp_ne (tgt := 25) d_M_isSign_5 rfl rfl (fun c6 => ?_) (fun c6 => ?_)
  · replace hf := m8 c6
    refine MM.iconst ic_0 d_M_isSign_25 rfl ?_
    obtain rfl := Option.some.inj hf
    subst hZ
    exact MM.zret (Or.inl rfl) rfl d_M_isSign_26 ⟨rfl, rfl⟩
  · replace hf := m7 c6
    refine MM.aload_n (i := 0) rfl rfl d_M_isSign_8 rfl ?_
    refine MM.gR 9 1 tg_261 rq_9_2 rfl lays_9 ww_1360 d_M_isSign_9 rfl ?_
    refine MM.aload_n (i := 0) rfl rfl d_M_isSign_12 rfl ?_
    refine MM.getI 9 tg_261 lays_9 gq_9_5 ww_1363 d_M_isSign_13 rfl ?_
    obtain ⟨k1, e2, hf⟩ := mm_bind hf
    refine MM.gI e2 al_262 d_M_isSign_16 rfl ?_
    refine MM.iload_n (i := 1) rfl rfl d_M_isSign_17 rfl ?_
    obtain ⟨m4, m5⟩ := mm_ifE hf
    refine MM.icmp_ne (tgt := 25) d_M_isSign_18 rfl rfl (fun c3 => ?_) (fun c3 => ?_)
    · replace hf := m5 c3
      refine MM.iconst ic_0 d_M_isSign_25 rfl ?_
      obtain rfl := Option.some.inj hf
      subst hZ
      exact MM.zret (Or.inl rfl) rfl d_M_isSign_26 ⟨rfl, rfl⟩
    · replace hf := m4 c3
      refine MM.iconst ic_1 d_M_isSign_21 rfl ?_
      refine MM.goto (tgt := 26) d_M_isSign_22 rfl ?_
      obtain rfl := Option.some.inj hf
      subst hZ
      exact MM.zret (Or.inr rfl) rfl d_M_isSign_26 ⟨rfl, rfl⟩
theorem d_M_fails_0 : decode cX12_fails 0 = .ok (.aload_n 0, 1) := by decide +kernel
theorem d_M_fails_1 : decode cX12_fails 1 = .ok (.iload_n 1, 1) := by decide +kernel
theorem d_M_fails_2 : decode cX12_fails 2 = .ok (.bipush 16, 2) := by decide +kernel
theorem d_M_fails_4 : decode cX12_fails 4 = .ok (.aload_n 0, 1) := by decide +kernel
theorem d_M_fails_5 : decode cX12_fails 5 = .ok (.getfield 190, 3) := by decide +kernel
theorem d_M_fails_8 : decode cX12_fails 8 = .ok (.imul, 1) := by decide +kernel
theorem d_M_fails_9 : decode cX12_fails 9 = .ok (.iadd, 1) := by decide +kernel
theorem d_M_fails_10 : decode cX12_fails 10 = .ok (.putfield 211, 3) := by decide +kernel
theorem d_M_fails_13 : decode cX12_fails 13 = .ok (.iconst 0, 1) := by decide +kernel
theorem d_M_fails_14 : decode cX12_fails 14 = .ok (.ireturn, 1) := by decide +kernel
noncomputable def f_M_fails (x1 : Int32) (h : mm_H) : Option (Int32 × mm_H) := mm_let (mm_pI h 261 9 (x1 + (16 * (h.1 261 5)))) fun h1 => some (0, h1)
theorem T_M_fails (V : mm_V) (l : Launch) (x1 : Int32) (h : mm_H) (r : (Int32 × mm_H)) (hf : f_M_fails x1 h = some r) : MT V l Y_M_fails 1 [.ref 261, .int x1] (fun r1 h1 => r1 = some (.int r.1) ∧ h1 = r.2) h := by
  unfold f_M_fails at hf
  refine MT.intro (pn_M rfl) [(0, .ref 261), (1, .int x1)] rfl (Nat.le_of_ble_eq_true rfl) ?_
  generalize hZ : mm_Z V _ = Z0
  refine MM.aload_n (i := 0) rfl rfl d_M_fails_0 rfl ?_
  refine MM.iload_n (i := 1) rfl rfl d_M_fails_1 rfl ?_
  refine MM.bipush bp_16 d_M_fails_2 rfl ?_
  refine MM.aload_n (i := 0) rfl rfl d_M_fails_4 rfl ?_
  refine MM.getI 9 tg_261 lays_9 gq_9_5 ww_1363 d_M_fails_5 rfl ?_
  refine MM.imul d_M_fails_8 rfl ?_
  refine MM.iadd d_M_fails_9 rfl ?_
  obtain ⟨h1, e2, hf⟩ := mm_letE hf
  refine MM.putI e2 9 tg_261 lays_9 toks_9 pq_9_9 ww_1367 d_M_fails_10 rfl ?_
  refine MM.iconst ic_0 d_M_fails_13 rfl ?_
  obtain rfl := Option.some.inj hf
  subst hZ
  exact MM.zret (Or.inl rfl) rfl d_M_fails_14 ⟨rfl, rfl⟩
theorem d_M_puts_0 : decode cX12_puts 0 = .ok (.aload_n 0, 1) := by decide +kernel
theorem d_M_puts_1 : decode cX12_puts 1 = .ok (.getfield 65, 3) := by decide +kernel
theorem d_M_puts_4 : decode cX12_puts 4 = .ok (.aload_n 0, 1) := by decide +kernel
theorem d_M_puts_5 : decode cX12_puts 5 = .ok (.getfield 214, 3) := by decide +kernel
theorem d_M_puts_8 : decode cX12_puts 8 = .ok (.iload_n 1, 1) := by decide +kernel
theorem d_M_puts_9 : decode cX12_puts 9 = .ok (.iastore, 1) := by decide +kernel
theorem d_M_puts_10 : decode cX12_puts 10 = .ok (.aload_n 0, 1) := by decide +kernel
theorem d_M_puts_11 : decode cX12_puts 11 = .ok (.dup, 1) := by decide +kernel
theorem d_M_puts_12 : decode cX12_puts 12 = .ok (.getfield 214, 3) := by decide +kernel
theorem d_M_puts_15 : decode cX12_puts 15 = .ok (.iconst 1, 1) := by decide +kernel
theorem d_M_puts_16 : decode cX12_puts 16 = .ok (.iadd, 1) := by decide +kernel
theorem d_M_puts_17 : decode cX12_puts 17 = .ok (.putfield 214, 3) := by decide +kernel
theorem d_M_puts_20 : decode cX12_puts 20 = .ok (.return_, 1) := by decide +kernel
noncomputable def f_M_puts (x1 : Int32) (h : mm_H) : Option mm_H := (mm_ix (h.1 261 28) 2000).bind fun k1 => mm_let (mm_pI h 280 k1 x1) fun h3 => mm_let (mm_pI h3 261 28 ((h3.1 261 28) + 1)) fun h5 => some h5
theorem T_M_puts (V : mm_V) (l : Launch) (x1 : Int32) (h : mm_H) (r : mm_H) (hf : f_M_puts x1 h = some r) : MT V l Y_M_puts 1 [.ref 261, .int x1] (fun r1 h1 => r1 = none ∧ h1 = r) h := by
  unfold f_M_puts at hf
  refine MT.intro (pn_M rfl) [(0, .ref 261), (1, .int x1)] rfl (Nat.le_of_ble_eq_true rfl) ?_
  generalize hZ : mm_Z V _ = Z0
  refine MM.aload_n (i := 0) rfl rfl d_M_puts_0 rfl ?_
  refine MM.gR 9 19 tg_261 rq_9_27 rfl lays_9 ww_1385 d_M_puts_1 rfl ?_
  refine MM.aload_n (i := 0) rfl rfl d_M_puts_4 rfl ?_
  refine MM.getI 9 tg_261 lays_9 gq_9_28 ww_1386 d_M_puts_5 rfl ?_
  refine MM.iload_n (i := 1) rfl rfl d_M_puts_8 rfl ?_
  obtain ⟨k1, e2, hf⟩ := mm_bind hf
  obtain ⟨h3, e4, hf⟩ := mm_letE hf
  refine MM.sI e2 e4 al_280 d_M_puts_9 rfl ?_
  refine MM.aload_n (i := 0) rfl rfl d_M_puts_10 rfl ?_
  refine MM.dup rfl d_M_puts_11 rfl ?_
  refine MM.getI 9 tg_261 lays_9 gq_9_28 ww_1386 d_M_puts_12 rfl ?_
  refine MM.iconst ic_1 d_M_puts_15 rfl ?_
  refine MM.iadd d_M_puts_16 rfl ?_
  obtain ⟨h5, e6, hf⟩ := mm_letE hf
  refine MM.putI e6 9 tg_261 lays_9 toks_9 pq_9_28 ww_1386 d_M_puts_17 rfl ?_
  obtain rfl := Option.some.inj hf
  subst hZ
  exact MM.vret rfl d_M_puts_20 ⟨rfl, rfl⟩
theorem d_M_fact_0 : decode cX12_fact 0 = .ok (.aload_n 0, 1) := by decide +kernel
theorem d_M_fact_1 : decode cX12_fact 1 = .ok (.getfield 200, 3) := by decide +kernel
theorem d_M_fact_4 : decode cX12_fact 4 = .ok (.iconst 1, 1) := by decide +kernel
theorem d_M_fact_5 : decode cX12_fact 5 = .ok (.if_icmp .eq 5, 3) := by decide +kernel
theorem d_M_fact_8 : decode cX12_fact 8 = .ok (.iconst 0, 1) := by decide +kernel
theorem d_M_fact_9 : decode cX12_fact 9 = .ok (.ireturn, 1) := by decide +kernel
theorem d_M_fact_10 : decode cX12_fact 10 = .ok (.aload_n 0, 1) := by decide +kernel
theorem d_M_fact_11 : decode cX12_fact 11 = .ok (.getfield 193, 3) := by decide +kernel
theorem d_M_fact_14 : decode cX12_fact 14 = .ok (.ldc2_w 217, 3) := by decide +kernel
theorem d_M_fact_17 : decode cX12_fact 17 = .ok (.lcmp, 1) := by decide +kernel
theorem d_M_fact_18 : decode cX12_fact 18 = .ok (.ifCond .ne 7, 3) := by decide +kernel
theorem d_M_fact_21 : decode cX12_fact 21 = .ok (.iconst 1, 1) := by decide +kernel
theorem d_M_fact_22 : decode cX12_fact 22 = .ok (.goto 49, 3) := by decide +kernel
theorem d_M_fact_25 : decode cX12_fact 25 = .ok (.aload_n 0, 1) := by decide +kernel
theorem d_M_fact_26 : decode cX12_fact 26 = .ok (.getfield 193, 3) := by decide +kernel
theorem d_M_fact_29 : decode cX12_fact 29 = .ok (.ldc2_w 219, 3) := by decide +kernel
theorem d_M_fact_32 : decode cX12_fact 32 = .ok (.lcmp, 1) := by decide +kernel
theorem d_M_fact_33 : decode cX12_fact 33 = .ok (.ifCond .ne 7, 3) := by decide +kernel
theorem d_M_fact_36 : decode cX12_fact 36 = .ok (.iconst 2, 1) := by decide +kernel
theorem d_M_fact_37 : decode cX12_fact 37 = .ok (.goto 34, 3) := by decide +kernel
theorem d_M_fact_40 : decode cX12_fact 40 = .ok (.aload_n 0, 1) := by decide +kernel
theorem d_M_fact_41 : decode cX12_fact 41 = .ok (.getfield 193, 3) := by decide +kernel
theorem d_M_fact_44 : decode cX12_fact 44 = .ok (.ldc2_w 221, 3) := by decide +kernel
theorem d_M_fact_47 : decode cX12_fact 47 = .ok (.lcmp, 1) := by decide +kernel
theorem d_M_fact_48 : decode cX12_fact 48 = .ok (.ifCond .ne 7, 3) := by decide +kernel
theorem d_M_fact_51 : decode cX12_fact 51 = .ok (.iconst 3, 1) := by decide +kernel
theorem d_M_fact_52 : decode cX12_fact 52 = .ok (.goto 19, 3) := by decide +kernel
theorem d_M_fact_55 : decode cX12_fact 55 = .ok (.aload_n 0, 1) := by decide +kernel
theorem d_M_fact_56 : decode cX12_fact 56 = .ok (.getfield 193, 3) := by decide +kernel
theorem d_M_fact_59 : decode cX12_fact 59 = .ok (.ldc2_w 223, 3) := by decide +kernel
theorem d_M_fact_62 : decode cX12_fact 62 = .ok (.lcmp, 1) := by decide +kernel
theorem d_M_fact_63 : decode cX12_fact 63 = .ok (.ifCond .ne 7, 3) := by decide +kernel
theorem d_M_fact_66 : decode cX12_fact 66 = .ok (.iconst 4, 1) := by decide +kernel
theorem d_M_fact_67 : decode cX12_fact 67 = .ok (.goto 4, 3) := by decide +kernel
theorem d_M_fact_70 : decode cX12_fact 70 = .ok (.iconst 0, 1) := by decide +kernel
theorem d_M_fact_71 : decode cX12_fact 71 = .ok (.ireturn, 1) := by decide +kernel
noncomputable def f_M_fact (h : mm_H) : Option Int32 := if (h.1 261 6) = 1 then (if (lg_cmp (h.2.1 261 7) 70517) = 0 then (some 1) else (if (lg_cmp (h.2.1 261 7) 4470938551) = 0 then (some 2) else (if (lg_cmp (h.2.1 261 7) 923) = 0 then (some 3) else (if (lg_cmp (h.2.1 261 7) 164222) = 0 then (some 4) else (some 0))))) else (some 0)
theorem T_M_fact (V : mm_V) (l : Launch) (h : mm_H) (r : Int32) (hf : f_M_fact h = some r) : MT V l Y_M_fact 1 [.ref 261] (fun r1 h1 => r1 = some (.int r) ∧ h1 = h) h := by
  unfold f_M_fact at hf
  refine MT.intro (pn_M rfl) [(0, .ref 261)] rfl (Nat.le_of_ble_eq_true rfl) ?_
  generalize hZ : mm_Z V _ = Z0
  refine MM.aload_n (i := 0) rfl rfl d_M_fact_0 rfl ?_
  refine MM.getI 9 tg_261 lays_9 gq_9_6 ww_1364 d_M_fact_1 rfl ?_
  refine MM.iconst ic_1 d_M_fact_4 rfl ?_
  obtain ⟨m14, m15⟩ := mm_ifE hf
  refine MM.icmp_eq (tgt := 10) d_M_fact_5 rfl rfl (fun c13 => ?_) (fun c13 => ?_)
  · replace hf := m14 c13
    refine MM.aload_n (i := 0) rfl rfl d_M_fact_10 rfl ?_
    refine MM.getL 9 tg_261 lays_9 gq_9_7 ww_1365 d_M_fact_11 rfl ?_
    refine MM.ldc2 ww_1715 d_M_fact_14 rfl ?_
    refine MM.lcmp d_M_fact_17 rfl ?_
    obtain ⟨m11, m12⟩ := mm_ifE hf
    refine MM.if_ne (tgt := 25) d_M_fact_18 rfl rfl (fun c10 => ?_) (fun c10 => ?_)
    · replace hf := m12 c10
      refine MM.aload_n (i := 0) rfl rfl d_M_fact_25 rfl ?_
      refine MM.getL 9 tg_261 lays_9 gq_9_7 ww_1365 d_M_fact_26 rfl ?_
      refine MM.ldc2 ww_1716 d_M_fact_29 rfl ?_
      refine MM.lcmp d_M_fact_32 rfl ?_
      obtain ⟨m8, m9⟩ := mm_ifE hf
      refine MM.if_ne (tgt := 40) d_M_fact_33 rfl rfl (fun c7 => ?_) (fun c7 => ?_)
      · replace hf := m9 c7
        refine MM.aload_n (i := 0) rfl rfl d_M_fact_40 rfl ?_
        refine MM.getL 9 tg_261 lays_9 gq_9_7 ww_1365 d_M_fact_41 rfl ?_
        refine MM.ldc2 ww_1717 d_M_fact_44 rfl ?_
        refine MM.lcmp d_M_fact_47 rfl ?_
        obtain ⟨m5, m6⟩ := mm_ifE hf
        refine MM.if_ne (tgt := 55) d_M_fact_48 rfl rfl (fun c4 => ?_) (fun c4 => ?_)
        · replace hf := m6 c4
          refine MM.aload_n (i := 0) rfl rfl d_M_fact_55 rfl ?_
          refine MM.getL 9 tg_261 lays_9 gq_9_7 ww_1365 d_M_fact_56 rfl ?_
          refine MM.ldc2 ww_1718 d_M_fact_59 rfl ?_
          refine MM.lcmp d_M_fact_62 rfl ?_
          obtain ⟨m2, m3⟩ := mm_ifE hf
          refine MM.if_ne (tgt := 70) d_M_fact_63 rfl rfl (fun c1 => ?_) (fun c1 => ?_)
          · replace hf := m3 c1
            refine MM.iconst ic_0 d_M_fact_70 rfl ?_
            obtain rfl := Option.some.inj hf
            subst hZ
            exact MM.iret rfl d_M_fact_71 ⟨rfl, rfl⟩
          · replace hf := m2 c1
            refine MM.iconst ic_4 d_M_fact_66 rfl ?_
            refine MM.goto (tgt := 71) d_M_fact_67 rfl ?_
            obtain rfl := Option.some.inj hf
            subst hZ
            exact MM.iret rfl d_M_fact_71 ⟨rfl, rfl⟩
        · replace hf := m5 c4
          refine MM.iconst ic_3 d_M_fact_51 rfl ?_
          refine MM.goto (tgt := 71) d_M_fact_52 rfl ?_
          obtain rfl := Option.some.inj hf
          subst hZ
          exact MM.iret rfl d_M_fact_71 ⟨rfl, rfl⟩
      · replace hf := m8 c7
        refine MM.iconst ic_2 d_M_fact_36 rfl ?_
        refine MM.goto (tgt := 71) d_M_fact_37 rfl ?_
        obtain rfl := Option.some.inj hf
        subst hZ
        exact MM.iret rfl d_M_fact_71 ⟨rfl, rfl⟩
    · replace hf := m11 c10
      refine MM.iconst ic_1 d_M_fact_21 rfl ?_
      refine MM.goto (tgt := 71) d_M_fact_22 rfl ?_
      obtain rfl := Option.some.inj hf
      subst hZ
      exact MM.iret rfl d_M_fact_71 ⟨rfl, rfl⟩
  · replace hf := m15 c13
    refine MM.iconst ic_0 d_M_fact_8 rfl ?_
    obtain rfl := Option.some.inj hf
    subst hZ
    exact MM.iret rfl d_M_fact_9 ⟨rfl, rfl⟩
theorem d_M_reads_0 : decode cX12_reads 0 = .ok (.iconst 0, 1) := by decide +kernel
theorem d_M_reads_1 : decode cX12_reads 1 = .ok (.istore_n 1, 1) := by decide +kernel
theorem d_M_reads_2 : decode cX12_reads 2 = .ok (.iconst 1, 1) := by decide +kernel
theorem d_M_reads_3 : decode cX12_reads 3 = .ok (.istore_n 2, 1) := by decide +kernel
theorem d_M_reads_4 : decode cX12_reads 4 = .ok (.aload_n 0, 1) := by decide +kernel
theorem d_M_reads_5 : decode cX12_reads 5 = .ok (.getfield 71, 3) := by decide +kernel
theorem d_M_reads_8 : decode cX12_reads 8 = .ok (.iconst 0, 1) := by decide +kernel
theorem d_M_reads_9 : decode cX12_reads 9 = .ok (.iconst 0, 1) := by decide +kernel
theorem d_M_reads_10 : decode cX12_reads 10 = .ok (.bastore, 1) := by decide +kernel
theorem d_M_reads_11 : decode cX12_reads 11 = .ok (.iload_n 2, 1) := by decide +kernel
theorem d_M_reads_12 : decode cX12_reads 12 = .ok (.ifCond .eq 167, 3) := by decide +kernel
theorem d_M_reads_15 : decode cX12_reads 15 = .ok (.aload_n 0, 1) := by decide +kernel
theorem d_M_reads_16 : decode cX12_reads 16 = .ok (.invokevirtual 225, 3) := by decide +kernel
theorem d_M_reads_19 : decode cX12_reads 19 = .ok (.istore_n 3, 1) := by decide +kernel
theorem d_M_reads_20 : decode cX12_reads 20 = .ok (.aload_n 0, 1) := by decide +kernel
theorem d_M_reads_21 : decode cX12_reads 21 = .ok (.ldc2_w 229, 3) := by decide +kernel
theorem d_M_reads_24 : decode cX12_reads 24 = .ok (.invokevirtual 231, 3) := by decide +kernel
theorem d_M_reads_27 : decode cX12_reads 27 = .ok (.istore 4, 2) := by decide +kernel
theorem d_M_reads_29 : decode cX12_reads 29 = .ok (.aload_n 0, 1) := by decide +kernel
theorem d_M_reads_30 : decode cX12_reads 30 = .ok (.bipush 40, 2) := by decide +kernel
theorem d_M_reads_32 : decode cX12_reads 32 = .ok (.invokevirtual 235, 3) := by decide +kernel
theorem d_M_reads_35 : decode cX12_reads 35 = .ok (.istore 5, 2) := by decide +kernel
theorem d_M_reads_37 : decode cX12_reads 37 = .ok (.iload_n 3, 1) := by decide +kernel
theorem d_M_reads_38 : decode cX12_reads 38 = .ok (.ifCond .ne 27, 3) := by decide +kernel
theorem d_M_reads_41 : decode cX12_reads 41 = .ok (.iload 4, 2) := by decide +kernel
theorem d_M_reads_43 : decode cX12_reads 43 = .ok (.ifCond .ne 22, 3) := by decide +kernel
theorem d_M_reads_46 : decode cX12_reads 46 = .ok (.iload 5, 2) := by decide +kernel
theorem d_M_reads_48 : decode cX12_reads 48 = .ok (.ifCond .ne 17, 3) := by decide +kernel
theorem d_M_reads_51 : decode cX12_reads 51 = .ok (.aload_n 0, 1) := by decide +kernel
theorem d_M_reads_52 : decode cX12_reads 52 = .ok (.getfield 200, 3) := by decide +kernel
theorem d_M_reads_55 : decode cX12_reads 55 = .ok (.iconst 2, 1) := by decide +kernel
theorem d_M_reads_56 : decode cX12_reads 56 = .ok (.if_icmp .eq 9, 3) := by decide +kernel
theorem d_M_reads_59 : decode cX12_reads 59 = .ok (.aload_n 0, 1) := by decide +kernel
theorem d_M_reads_60 : decode cX12_reads 60 = .ok (.iconst 1, 1) := by decide +kernel
theorem d_M_reads_61 : decode cX12_reads 61 = .ok (.invokevirtual 239, 3) := by decide +kernel
theorem d_M_reads_64 : decode cX12_reads 64 = .ok (.ireturn, 1) := by decide +kernel
theorem d_M_reads_65 : decode cX12_reads 65 = .ok (.iload_n 1, 1) := by decide +kernel
theorem d_M_reads_66 : decode cX12_reads 66 = .ok (.iconst 5, 1) := by decide +kernel
theorem d_M_reads_67 : decode cX12_reads 67 = .ok (.if_icmp .ne 9, 3) := by decide +kernel
theorem d_M_reads_70 : decode cX12_reads 70 = .ok (.aload_n 0, 1) := by decide +kernel
theorem d_M_reads_71 : decode cX12_reads 71 = .ok (.iconst 5, 1) := by decide +kernel
theorem d_M_reads_72 : decode cX12_reads 72 = .ok (.invokevirtual 239, 3) := by decide +kernel
theorem d_M_reads_75 : decode cX12_reads 75 = .ok (.ireturn, 1) := by decide +kernel
theorem d_M_reads_76 : decode cX12_reads 76 = .ok (.iload 4, 2) := by decide +kernel
theorem d_M_reads_78 : decode cX12_reads 78 = .ok (.ifCond .ne 8, 3) := by decide +kernel
theorem d_M_reads_81 : decode cX12_reads 81 = .ok (.iload 5, 2) := by decide +kernel
theorem d_M_reads_83 : decode cX12_reads 83 = .ok (.ifCond .eq 48, 3) := by decide +kernel
theorem d_M_reads_86 : decode cX12_reads 86 = .ok (.aload_n 0, 1) := by decide +kernel
theorem d_M_reads_87 : decode cX12_reads 87 = .ok (.iload 4, 2) := by decide +kernel
theorem d_M_reads_89 : decode cX12_reads 89 = .ok (.ifCond .eq 8, 3) := by decide +kernel
theorem d_M_reads_92 : decode cX12_reads 92 = .ok (.bipush 30, 2) := by decide +kernel
theorem d_M_reads_94 : decode cX12_reads 94 = .ok (.goto 5, 3) := by decide +kernel
theorem d_M_reads_97 : decode cX12_reads 97 = .ok (.bipush 28, 2) := by decide +kernel
theorem d_M_reads_99 : decode cX12_reads 99 = .ok (.invokevirtual 242, 3) := by decide +kernel
theorem d_M_reads_102 : decode cX12_reads 102 = .ok (.iinc 1 1, 3) := by decide +kernel
theorem d_M_reads_105 : decode cX12_reads 105 = .ok (.aload_n 0, 1) := by decide +kernel
theorem d_M_reads_106 : decode cX12_reads 106 = .ok (.getfield 68, 3) := by decide +kernel
theorem d_M_reads_109 : decode cX12_reads 109 = .ok (.iload_n 1, 1) := by decide +kernel
theorem d_M_reads_110 : decode cX12_reads 110 = .ok (.iload 4, 2) := by decide +kernel
theorem d_M_reads_112 : decode cX12_reads 112 = .ok (.ifCond .eq 7, 3) := by decide +kernel
theorem d_M_reads_115 : decode cX12_reads 115 = .ok (.iconst 1, 1) := by decide +kernel
theorem d_M_reads_116 : decode cX12_reads 116 = .ok (.goto 4, 3) := by decide +kernel
theorem d_M_reads_119 : decode cX12_reads 119 = .ok (.iconst 2, 1) := by decide +kernel
theorem d_M_reads_120 : decode cX12_reads 120 = .ok (.iastore, 1) := by decide +kernel
theorem d_M_reads_121 : decode cX12_reads 121 = .ok (.aload_n 0, 1) := by decide +kernel
theorem d_M_reads_122 : decode cX12_reads 122 = .ok (.getfield 71, 3) := by decide +kernel
theorem d_M_reads_125 : decode cX12_reads 125 = .ok (.iload_n 1, 1) := by decide +kernel
theorem d_M_reads_126 : decode cX12_reads 126 = .ok (.iconst 0, 1) := by decide +kernel
theorem d_M_reads_127 : decode cX12_reads 127 = .ok (.bastore, 1) := by decide +kernel
theorem d_M_reads_128 : decode cX12_reads 128 = .ok (.goto 44, 3) := by decide +kernel
theorem d_M_reads_131 : decode cX12_reads 131 = .ok (.aload_n 0, 1) := by decide +kernel
theorem d_M_reads_132 : decode cX12_reads 132 = .ok (.iload_n 3, 1) := by decide +kernel
theorem d_M_reads_133 : decode cX12_reads 133 = .ok (.ifCond .le 7, 3) := by decide +kernel
theorem d_M_reads_136 : decode cX12_reads 136 = .ok (.iload_n 3, 1) := by decide +kernel
theorem d_M_reads_137 : decode cX12_reads 137 = .ok (.goto 10, 3) := by decide +kernel
theorem d_M_reads_140 : decode cX12_reads 140 = .ok (.bipush 100, 2) := by decide +kernel
theorem d_M_reads_142 : decode cX12_reads 142 = .ok (.aload_n 0, 1) := by decide +kernel
theorem d_M_reads_143 : decode cX12_reads 143 = .ok (.getfield 197, 3) := by decide +kernel
theorem d_M_reads_146 : decode cX12_reads 146 = .ok (.iadd, 1) := by decide +kernel
theorem d_M_reads_147 : decode cX12_reads 147 = .ok (.invokevirtual 242, 3) := by decide +kernel
theorem d_M_reads_150 : decode cX12_reads 150 = .ok (.iconst 0, 1) := by decide +kernel
theorem d_M_reads_151 : decode cX12_reads 151 = .ok (.istore_n 2, 1) := by decide +kernel
theorem d_M_reads_152 : decode cX12_reads 152 = .ok (.iload_n 1, 1) := by decide +kernel
theorem d_M_reads_153 : decode cX12_reads 153 = .ok (.ifCond .le 19, 3) := by decide +kernel
theorem d_M_reads_156 : decode cX12_reads 156 = .ok (.aload_n 0, 1) := by decide +kernel
theorem d_M_reads_157 : decode cX12_reads 157 = .ok (.getfield 68, 3) := by decide +kernel
theorem d_M_reads_160 : decode cX12_reads 160 = .ok (.iload_n 1, 1) := by decide +kernel
theorem d_M_reads_161 : decode cX12_reads 161 = .ok (.iaload, 1) := by decide +kernel
theorem d_M_reads_162 : decode cX12_reads 162 = .ok (.iconst 1, 1) := by decide +kernel
theorem d_M_reads_163 : decode cX12_reads 163 = .ok (.if_icmp .ne 9, 3) := by decide +kernel
theorem d_M_reads_166 : decode cX12_reads 166 = .ok (.iinc 1 (-1), 3) := by decide +kernel
theorem d_M_reads_169 : decode cX12_reads 169 = .ok (.goto (-17), 3) := by decide +kernel
theorem d_M_reads_172 : decode cX12_reads 172 = .ok (.aload_n 0, 1) := by decide +kernel
theorem d_M_reads_173 : decode cX12_reads 173 = .ok (.invokevirtual 246, 3) := by decide +kernel
theorem d_M_reads_176 : decode cX12_reads 176 = .ok (.goto (-165), 3) := by decide +kernel
theorem d_M_reads_179 : decode cX12_reads 179 = .ok (.aload_n 0, 1) := by decide +kernel
theorem d_M_reads_180 : decode cX12_reads 180 = .ok (.bipush 43, 2) := by decide +kernel
theorem d_M_reads_182 : decode cX12_reads 182 = .ok (.invokevirtual 235, 3) := by decide +kernel
theorem d_M_reads_185 : decode cX12_reads 185 = .ok (.ifCond .ne 21, 3) := by decide +kernel
theorem d_M_reads_188 : decode cX12_reads 188 = .ok (.aload_n 0, 1) := by decide +kernel
theorem d_M_reads_189 : decode cX12_reads 189 = .ok (.bipush 45, 2) := by decide +kernel
theorem d_M_reads_191 : decode cX12_reads 191 = .ok (.invokevirtual 235, 3) := by decide +kernel
theorem d_M_reads_194 : decode cX12_reads 194 = .ok (.ifCond .ne 12, 3) := by decide +kernel
theorem d_M_reads_197 : decode cX12_reads 197 = .ok (.aload_n 0, 1) := by decide +kernel
theorem d_M_reads_198 : decode cX12_reads 198 = .ok (.bipush 42, 2) := by decide +kernel
theorem d_M_reads_200 : decode cX12_reads 200 = .ok (.invokevirtual 235, 3) := by decide +kernel
theorem d_M_reads_203 : decode cX12_reads 203 = .ok (.ifCond .eq 42, 3) := by decide +kernel
theorem d_M_reads_206 : decode cX12_reads 206 = .ok (.aload_n 0, 1) := by decide +kernel
theorem d_M_reads_207 : decode cX12_reads 207 = .ok (.aload_n 0, 1) := by decide +kernel
theorem d_M_reads_208 : decode cX12_reads 208 = .ok (.bipush 43, 2) := by decide +kernel
theorem d_M_reads_210 : decode cX12_reads 210 = .ok (.invokevirtual 235, 3) := by decide +kernel
theorem d_M_reads_213 : decode cX12_reads 213 = .ok (.ifCond .eq 8, 3) := by decide +kernel
theorem d_M_reads_216 : decode cX12_reads 216 = .ok (.bipush 20, 2) := by decide +kernel
theorem d_M_reads_218 : decode cX12_reads 218 = .ok (.goto 19, 3) := by decide +kernel
theorem d_M_reads_221 : decode cX12_reads 221 = .ok (.aload_n 0, 1) := by decide +kernel
theorem d_M_reads_222 : decode cX12_reads 222 = .ok (.bipush 45, 2) := by decide +kernel
theorem d_M_reads_224 : decode cX12_reads 224 = .ok (.invokevirtual 235, 3) := by decide +kernel
theorem d_M_reads_227 : decode cX12_reads 227 = .ok (.ifCond .eq 8, 3) := by decide +kernel
theorem d_M_reads_230 : decode cX12_reads 230 = .ok (.bipush 21, 2) := by decide +kernel
theorem d_M_reads_232 : decode cX12_reads 232 = .ok (.goto 5, 3) := by decide +kernel
theorem d_M_reads_235 : decode cX12_reads 235 = .ok (.bipush 22, 2) := by decide +kernel
theorem d_M_reads_237 : decode cX12_reads 237 = .ok (.invokevirtual 242, 3) := by decide +kernel
theorem d_M_reads_240 : decode cX12_reads 240 = .ok (.iconst 1, 1) := by decide +kernel
theorem d_M_reads_241 : decode cX12_reads 241 = .ok (.istore_n 2, 1) := by decide +kernel
theorem d_M_reads_242 : decode cX12_reads 242 = .ok (.goto 182, 3) := by decide +kernel
theorem d_M_reads_245 : decode cX12_reads 245 = .ok (.aload_n 0, 1) := by decide +kernel
theorem d_M_reads_246 : decode cX12_reads 246 = .ok (.bipush 60, 2) := by decide +kernel
theorem d_M_reads_248 : decode cX12_reads 248 = .ok (.invokevirtual 235, 3) := by decide +kernel
theorem d_M_reads_251 : decode cX12_reads 251 = .ok (.ifCond .ne 12, 3) := by decide +kernel
theorem d_M_reads_254 : decode cX12_reads 254 = .ok (.aload_n 0, 1) := by decide +kernel
theorem d_M_reads_255 : decode cX12_reads 255 = .ok (.bipush 61, 2) := by decide +kernel
theorem d_M_reads_257 : decode cX12_reads 257 = .ok (.invokevirtual 235, 3) := by decide +kernel
theorem d_M_reads_260 : decode cX12_reads 260 = .ok (.ifCond .eq 44, 3) := by decide +kernel
theorem d_M_reads_263 : decode cX12_reads 263 = .ok (.aload_n 0, 1) := by decide +kernel
theorem d_M_reads_264 : decode cX12_reads 264 = .ok (.getfield 71, 3) := by decide +kernel
theorem d_M_reads_267 : decode cX12_reads 267 = .ok (.iload_n 1, 1) := by decide +kernel
theorem d_M_reads_268 : decode cX12_reads 268 = .ok (.baload, 1) := by decide +kernel
theorem d_M_reads_269 : decode cX12_reads 269 = .ok (.ifCond .ne 35, 3) := by decide +kernel
theorem d_M_reads_272 : decode cX12_reads 272 = .ok (.aload_n 0, 1) := by decide +kernel
theorem d_M_reads_273 : decode cX12_reads 273 = .ok (.aload_n 0, 1) := by decide +kernel
theorem d_M_reads_274 : decode cX12_reads 274 = .ok (.bipush 60, 2) := by decide +kernel
theorem d_M_reads_276 : decode cX12_reads 276 = .ok (.invokevirtual 235, 3) := by decide +kernel
theorem d_M_reads_279 : decode cX12_reads 279 = .ok (.ifCond .eq 8, 3) := by decide +kernel
theorem d_M_reads_282 : decode cX12_reads 282 = .ok (.bipush 24, 2) := by decide +kernel
theorem d_M_reads_284 : decode cX12_reads 284 = .ok (.goto 5, 3) := by decide +kernel
theorem d_M_reads_287 : decode cX12_reads 287 = .ok (.bipush 25, 2) := by decide +kernel
theorem d_M_reads_289 : decode cX12_reads 289 = .ok (.invokevirtual 242, 3) := by decide +kernel
theorem d_M_reads_292 : decode cX12_reads 292 = .ok (.aload_n 0, 1) := by decide +kernel
theorem d_M_reads_293 : decode cX12_reads 293 = .ok (.getfield 71, 3) := by decide +kernel
theorem d_M_reads_296 : decode cX12_reads 296 = .ok (.iload_n 1, 1) := by decide +kernel
theorem d_M_reads_297 : decode cX12_reads 297 = .ok (.iconst 1, 1) := by decide +kernel
theorem d_M_reads_298 : decode cX12_reads 298 = .ok (.bastore, 1) := by decide +kernel
theorem d_M_reads_299 : decode cX12_reads 299 = .ok (.iconst 1, 1) := by decide +kernel
theorem d_M_reads_300 : decode cX12_reads 300 = .ok (.istore_n 2, 1) := by decide +kernel
theorem d_M_reads_301 : decode cX12_reads 301 = .ok (.goto 123, 3) := by decide +kernel
theorem d_M_reads_304 : decode cX12_reads 304 = .ok (.aload_n 0, 1) := by decide +kernel
theorem d_M_reads_305 : decode cX12_reads 305 = .ok (.ldc2_w 249, 3) := by decide +kernel
theorem d_M_reads_308 : decode cX12_reads 308 = .ok (.invokevirtual 231, 3) := by decide +kernel
theorem d_M_reads_311 : decode cX12_reads 311 = .ok (.ifCond .ne 13, 3) := by decide +kernel
theorem d_M_reads_314 : decode cX12_reads 314 = .ok (.aload_n 0, 1) := by decide +kernel
theorem d_M_reads_315 : decode cX12_reads 315 = .ok (.ldc2_w 251, 3) := by decide +kernel
theorem d_M_reads_318 : decode cX12_reads 318 = .ok (.invokevirtual 231, 3) := by decide +kernel
theorem d_M_reads_321 : decode cX12_reads 321 = .ok (.ifCond .eq 36, 3) := by decide +kernel
theorem d_M_reads_324 : decode cX12_reads 324 = .ok (.aload_n 0, 1) := by decide +kernel
theorem d_M_reads_325 : decode cX12_reads 325 = .ok (.aload_n 0, 1) := by decide +kernel
theorem d_M_reads_326 : decode cX12_reads 326 = .ok (.ldc2_w 249, 3) := by decide +kernel
theorem d_M_reads_329 : decode cX12_reads 329 = .ok (.invokevirtual 231, 3) := by decide +kernel
theorem d_M_reads_332 : decode cX12_reads 332 = .ok (.ifCond .eq 8, 3) := by decide +kernel
theorem d_M_reads_335 : decode cX12_reads 335 = .ok (.bipush 26, 2) := by decide +kernel
theorem d_M_reads_337 : decode cX12_reads 337 = .ok (.goto 5, 3) := by decide +kernel
theorem d_M_reads_340 : decode cX12_reads 340 = .ok (.bipush 27, 2) := by decide +kernel
theorem d_M_reads_342 : decode cX12_reads 342 = .ok (.invokevirtual 242, 3) := by decide +kernel
theorem d_M_reads_345 : decode cX12_reads 345 = .ok (.aload_n 0, 1) := by decide +kernel
theorem d_M_reads_346 : decode cX12_reads 346 = .ok (.getfield 71, 3) := by decide +kernel
theorem d_M_reads_349 : decode cX12_reads 349 = .ok (.iload_n 1, 1) := by decide +kernel
theorem d_M_reads_350 : decode cX12_reads 350 = .ok (.iconst 0, 1) := by decide +kernel
theorem d_M_reads_351 : decode cX12_reads 351 = .ok (.bastore, 1) := by decide +kernel
theorem d_M_reads_352 : decode cX12_reads 352 = .ok (.iconst 1, 1) := by decide +kernel
theorem d_M_reads_353 : decode cX12_reads 353 = .ok (.istore_n 2, 1) := by decide +kernel
theorem d_M_reads_354 : decode cX12_reads 354 = .ok (.goto 70, 3) := by decide +kernel
theorem d_M_reads_357 : decode cX12_reads 357 = .ok (.aload_n 0, 1) := by decide +kernel
theorem d_M_reads_358 : decode cX12_reads 358 = .ok (.bipush 41, 2) := by decide +kernel
theorem d_M_reads_360 : decode cX12_reads 360 = .ok (.invokevirtual 235, 3) := by decide +kernel
theorem d_M_reads_363 : decode cX12_reads 363 = .ok (.ifCond .eq 36, 3) := by decide +kernel
theorem d_M_reads_366 : decode cX12_reads 366 = .ok (.iload_n 1, 1) := by decide +kernel
theorem d_M_reads_367 : decode cX12_reads 367 = .ok (.ifCond .le 32, 3) := by decide +kernel
theorem d_M_reads_370 : decode cX12_reads 370 = .ok (.aload_n 0, 1) := by decide +kernel
theorem d_M_reads_371 : decode cX12_reads 371 = .ok (.bipush 29, 2) := by decide +kernel
theorem d_M_reads_373 : decode cX12_reads 373 = .ok (.invokevirtual 242, 3) := by decide +kernel
theorem d_M_reads_376 : decode cX12_reads 376 = .ok (.iinc 1 (-1), 3) := by decide +kernel
theorem d_M_reads_379 : decode cX12_reads 379 = .ok (.iload_n 1, 1) := by decide +kernel
theorem d_M_reads_380 : decode cX12_reads 380 = .ok (.ifCond .le 44, 3) := by decide +kernel
theorem d_M_reads_383 : decode cX12_reads 383 = .ok (.aload_n 0, 1) := by decide +kernel
theorem d_M_reads_384 : decode cX12_reads 384 = .ok (.getfield 68, 3) := by decide +kernel
theorem d_M_reads_387 : decode cX12_reads 387 = .ok (.iload_n 1, 1) := by decide +kernel
theorem d_M_reads_388 : decode cX12_reads 388 = .ok (.iaload, 1) := by decide +kernel
theorem d_M_reads_389 : decode cX12_reads 389 = .ok (.iconst 1, 1) := by decide +kernel
theorem d_M_reads_390 : decode cX12_reads 390 = .ok (.if_icmp .ne 34, 3) := by decide +kernel
theorem d_M_reads_393 : decode cX12_reads 393 = .ok (.iinc 1 (-1), 3) := by decide +kernel
theorem d_M_reads_396 : decode cX12_reads 396 = .ok (.goto (-17), 3) := by decide +kernel
theorem d_M_reads_399 : decode cX12_reads 399 = .ok (.iload_n 1, 1) := by decide +kernel
theorem d_M_reads_400 : decode cX12_reads 400 = .ok (.ifCond .ne 18, 3) := by decide +kernel
theorem d_M_reads_403 : decode cX12_reads 403 = .ok (.aload_n 0, 1) := by decide +kernel
theorem d_M_reads_404 : decode cX12_reads 404 = .ok (.bipush 59, 2) := by decide +kernel
theorem d_M_reads_406 : decode cX12_reads 406 = .ok (.invokevirtual 235, 3) := by decide +kernel
theorem d_M_reads_409 : decode cX12_reads 409 = .ok (.ifCond .eq 9, 3) := by decide +kernel
theorem d_M_reads_412 : decode cX12_reads 412 = .ok (.aload_n 0, 1) := by decide +kernel
theorem d_M_reads_413 : decode cX12_reads 413 = .ok (.invokevirtual 246, 3) := by decide +kernel
theorem d_M_reads_416 : decode cX12_reads 416 = .ok (.iconst 1, 1) := by decide +kernel
theorem d_M_reads_417 : decode cX12_reads 417 = .ok (.ireturn, 1) := by decide +kernel
theorem d_M_reads_418 : decode cX12_reads 418 = .ok (.aload_n 0, 1) := by decide +kernel
theorem d_M_reads_419 : decode cX12_reads 419 = .ok (.iconst 1, 1) := by decide +kernel
theorem d_M_reads_420 : decode cX12_reads 420 = .ok (.invokevirtual 239, 3) := by decide +kernel
theorem d_M_reads_423 : decode cX12_reads 423 = .ok (.ireturn, 1) := by decide +kernel
theorem d_M_reads_424 : decode cX12_reads 424 = .ok (.aload_n 0, 1) := by decide +kernel
theorem d_M_reads_425 : decode cX12_reads 425 = .ok (.invokevirtual 246, 3) := by decide +kernel
theorem d_M_reads_428 : decode cX12_reads 428 = .ok (.goto (-417), 3) := by decide +kernel
noncomputable def f_M_reads (h : mm_H) : Option (Int32 × mm_H) := mm_let (mm_pI h 282 0 ((0 : Int32) &&& 1)) fun h1 => mm_while (σ := (Int32 × Int32 × mm_H)) (ρ := (Int32 × mm_H)) (fun s3 => if s3.2.1 = 0 then ((f_M_isSign 43 s3.2.2).bind fun v7 => mm_jp (fun (j8 : (Int32 × Int32 × mm_H)) => ((f_M_nextToken j8.2.2).bind fun v12 => some (Sum.inl (j8.1, j8.2.1, v12)))) fun k10 => mm_jp (fun (j13 : Unit) => ((f_M_isSign 43 s3.2.2).bind fun v17 => (if v17 = 0 then ((f_M_isSign 45 s3.2.2).bind fun v21 => if v21 = 0 then (some 22) else (some 21)) else (some 20) : Option Int32).bind fun j18 => (f_M_puts j18 s3.2.2).bind fun v29 => k10 (s3.1, 1, v29))) fun k15 => if v7 = 0 then ((f_M_isSign 45 s3.2.2).bind fun v32 => if v32 = 0 then ((f_M_isSign 42 s3.2.2).bind fun v34 => if v34 = 0 then ((f_M_isSign 60 s3.2.2).bind fun v36 => mm_jp (fun (j37 : Unit) => ((f_M_isWord (1111 : Int64) s3.2.2).bind fun v41 => mm_jp (fun (j42 : Unit) => ((f_M_isWord (1111 : Int64) s3.2.2).bind fun v46 => (if v46 = 0 then (some 27) else (some 26) : Option Int32).bind fun j47 => (f_M_puts j47 s3.2.2).bind fun v53 => (mm_ix s3.1 7).bind fun k54 => mm_let (mm_pI v53 282 k54 ((0 : Int32) &&& 1)) fun h56 => k10 (s3.1, 1, h56))) fun k44 => if v41 = 0 then ((f_M_isWord (423 : Int64) s3.2.2).bind fun v60 => if v60 = 0 then ((f_M_isSign 41 s3.2.2).bind fun v62 => mm_jp (fun (j63 : Unit) => (mm_jp (fun (j66 : Unit) => ((f_M_fails 1 s3.2.2).bind fun v70 => (mm_bo v70.1).bind fun b71 => some (Sum.inr (b71, v70.2)))) fun k68 => if s3.1 = 0 then ((f_M_isSign 59 s3.2.2).bind fun v74 => if v74 = 0 then (k68 ()) else ((f_M_nextToken s3.2.2).bind fun v76 => some (Sum.inr (1, v76)))) else (k68 ()))) fun k65 => if v62 = 0 then (k65 ()) else (if s3.1 ≤ 0 then (k65 ()) else ((f_M_puts 29 s3.2.2).bind fun v85 => mm_let (s3.1 + (-1)) fun y86 => (mm_while (σ := Int32) (ρ := Int32) (fun s88 => if s88 ≤ 0 then (some (Sum.inr s88)) else ((mm_ix s88 7).bind fun k94 => if (v85.1 281 k94) = 1 then (mm_let (s88 + (-1)) fun y96 => some (Sum.inl y96)) else (some (Sum.inr s88)))) y86).bind fun v91 => k10 (v91, s3.2.1, v85)))) else (k44 ())) else (k44 ()))) fun k39 => mm_jp (fun (j118 : Unit) => ((mm_ix s3.1 7).bind fun k121 => if (s3.2.2.1 282 k121) = 0 then ((f_M_isSign 60 s3.2.2).bind fun v124 => (if v124 = 0 then (some 25) else (some 24) : Option Int32).bind fun j125 => (f_M_puts j125 s3.2.2).bind fun v131 => (mm_ix s3.1 7).bind fun k132 => mm_let (mm_pI v131 282 k132 ((1 : Int32) &&& 1)) fun h134 => k10 (s3.1, 1, h134)) else (k39 ()))) fun k120 => if v36 = 0 then ((f_M_isSign 61 s3.2.2).bind fun v141 => if v141 = 0 then (k39 ()) else (k120 ())) else (k120 ())) else (k15 ())) else (k15 ())) else (k15 ())) else ((f_M_fact s3.2.2).bind fun v162 => (f_M_isWord (10631 : Int64) s3.2.2).bind fun v164 => (f_M_isSign 40 s3.2.2).bind fun v166 => mm_jp (fun (j167 : Unit) => (if s3.1 = 5 then ((f_M_fails 5 s3.2.2).bind fun v234 => (mm_bo v234.1).bind fun b235 => some (Sum.inr (b235, v234.2))) else ((mm_jp (fun (j172 : Unit) => ((if v164 = 0 then (some 28) else (some 30) : Option Int32).bind fun j175 => (f_M_puts j175 s3.2.2).bind fun v181 => mm_let (s3.1 + 1) fun y182 => (if v164 = 0 then (some 2) else (some 1) : Option Int32).bind fun j184 => (mm_ix y182 7).bind fun k189 => mm_let (mm_pI v181 281 k189 j184) fun h191 => (mm_ix y182 7).bind fun k193 => mm_let (mm_pI h191 282 k193 ((0 : Int32) &&& 1)) fun h195 => some (y182, s3.2.1, h195))) fun k174 => if v164 = 0 then (if v166 = 0 then ((if v162 ≤ 0 then (some (100 + (s3.2.2.1 261 8))) else (some v162) : Option Int32).bind fun j199 => (f_M_puts j199 s3.2.2).bind fun v205 => (mm_while (σ := Int32) (ρ := Int32) (fun s206 => if s206 ≤ 0 then (some (Sum.inr s206)) else ((mm_ix s206 7).bind fun k212 => if (v205.1 281 k212) = 1 then (mm_let (s206 + (-1)) fun y214 => some (Sum.inl y214)) else (some (Sum.inr s206)))) s3.1).bind fun v209 => some (v209, 0, v205)) else (k174 ())) else (k174 ()) : Option (Int32 × Int32 × mm_H)).bind fun j170 => (f_M_nextToken j170.2.2).bind fun v231 => some (Sum.inl (j170.1, j170.2.1, v231))))) fun k169 => if v162 = 0 then (if v164 = 0 then (if v166 = 0 then (if (s3.2.2.1 261 6) = 2 then (k169 ()) else ((f_M_fails 1 s3.2.2).bind fun v241 => (mm_bo v241.1).bind fun b242 => some (Sum.inr (b242, v241.2)))) else (k169 ())) else (k169 ())) else (k169 ()))) (0, 1, h1)
theorem T_M_reads (V : mm_V) (l : Launch) (h : mm_H) (r : (Int32 × mm_H)) (hf : f_M_reads h = some r) : MT V l Y_M_reads 3 [.ref 261] (fun r1 h1 => r1 = some (.int r.1) ∧ h1 = r.2) h := by
  unfold f_M_reads at hf
  refine MT.intro (pn_M rfl) [(0, .ref 261)] rfl (Nat.le_of_ble_eq_true rfl) ?_
  generalize hZ : mm_Z V _ = Z0
  refine MM.iconst ic_0 d_M_reads_0 rfl ?_
  refine MM.istore_n (i := 1) (lv' := [(1, .int 0), (0, .ref 261)]) rfl rfl (Nat.le_of_ble_eq_true rfl) rfl d_M_reads_1 rfl ?_
  refine MM.iconst ic_1 d_M_reads_2 rfl ?_
  refine MM.istore_n (i := 2) (lv' := [(2, .int 1), (1, .int 0), (0, .ref 261)]) rfl rfl (Nat.le_of_ble_eq_true rfl) rfl d_M_reads_3 rfl ?_
  refine MM.aload_n (i := 0) rfl rfl d_M_reads_4 rfl ?_
  refine MM.gR 9 21 tg_261 rq_9_30 rfl lays_9 ww_1388 d_M_reads_5 rfl ?_
  refine MM.iconst ic_0 d_M_reads_8 rfl ?_
  refine MM.iconst ic_0 d_M_reads_9 rfl ?_
  obtain ⟨h1, e2, hf⟩ := mm_letE hf
  refine MM.sZ ix_0_7 e2 al_282 d_M_reads_10 rfl ?_
  refine MM.sub [2, 1, 0] (by rfl) (mm_while_ind (fun s3 => MM V l Y_M_reads 3 0 0 Z0 11 [(0, .ref 261), (1, .int s3.1), (2, .int s3.2.1)] [] s3.2.2) hf (fun s3 q4 hf hx5 => ?_))
  refine MM.iload_n (i := 2) rfl rfl d_M_reads_11 rfl ?_
  obtain ⟨m258, m259⟩ := mm_ifE hf
  refine MM.if_eq (tgt := 179) d_M_reads_12 rfl rfl (fun c257 => ?_) (fun c257 => ?_)
  · replace hf := m258 c257
    refine MM.aload_n (i := 0) rfl rfl d_M_reads_179 rfl ?_
    refine MM.bipush bp_43 d_M_reads_180 rfl ?_
    obtain ⟨v7, e6, hf⟩ := mm_bind hf
    refine MM.callV1 (T_M_isSign V l 43 s3.2.2 _ e6) (fun _ _ q => q) cal_M_isSign rfl tg_261 ct_9 ww_52 ww_1677 ww_1675 (by decide) (by simp [Value.category]) d_M_reads_182 rfl ⟨rfl, rfl⟩ rfl ?_
    obtain ⟨k10, e160, hf⟩ := mm_jpE hf
    have K9 : ∀ j8, k10 j8 = some q4 → MM V l Y_M_reads 3 0 0 Z0 424 [(0, .ref 261), (1, .int j8.1), (2, .int j8.2.1)] [] j8.2.2 := by
      intro j8 hf
      rw [e160] at hf
      refine MM.aload_n (i := 0) rfl rfl d_M_reads_424 rfl ?_
      obtain ⟨v12, e11, hf⟩ := mm_bind hf
      refine MM.callV0 (T_M_nextToken V l  j8.2.2 _ e11) (fun _ _ q => q) cal_M_nextToken rfl tg_261 ct_9 ww_39 ww_1593 ww_1591 (by decide) (by simp [Value.category]) d_M_reads_425 rfl ⟨rfl, rfl⟩ rfl ?_
      refine MM.goto (tgt := 11) d_M_reads_428 rfl ?_
      obtain rfl := Option.some.inj hf
      have h9 := mm_wxL hx5
      exact MM.sub [0, 1, 2] (by rfl) h9
    clear e160
    obtain ⟨k15, e159, hf⟩ := mm_jpE hf
    have K14 : ∀ j13, k15 j13 = some q4 → MM V l Y_M_reads 3 0 0 Z0 206 [(0, .ref 261), (1, .int s3.1)] [] s3.2.2 := by
      intro j13 hf
      rw [e159] at hf
      refine MM.aload_n (i := 0) rfl rfl d_M_reads_206 rfl ?_
      refine MM.aload_n (i := 0) rfl rfl d_M_reads_207 rfl ?_
      refine MM.bipush bp_43 d_M_reads_208 rfl ?_
      obtain ⟨v17, e16, hf⟩ := mm_bind hf
      refine MM.callV1 (T_M_isSign V l 43 s3.2.2 _ e16) (fun _ _ q => q) cal_M_isSign rfl tg_261 ct_9 ww_52 ww_1677 ww_1675 (by decide) (by simp [Value.category]) d_M_reads_210 rfl ⟨rfl, rfl⟩ rfl ?_
      obtain ⟨j18, e30, hf⟩ := mm_bind hf
      have K19 : MM V l Y_M_reads 3 0 0 Z0 237 [(0, .ref 261), (1, .int s3.1)] [.int j18, .ref 261] s3.2.2 := by
        obtain ⟨v29, e28, hf⟩ := mm_bind hf
        refine MM.callV0 (T_M_puts V l j18 s3.2.2 _ e28) (fun _ _ q => q) cal_M_puts rfl tg_261 ct_9 ww_62 ww_1721 ww_1719 (by decide) (by simp [Value.category]) d_M_reads_237 rfl ⟨rfl, rfl⟩ rfl ?_
        refine MM.iconst ic_1 d_M_reads_240 rfl ?_
        refine MM.istore_n (i := 2) (lv' := [(2, .int 1), (0, .ref 261), (1, .int s3.1)]) rfl rfl (Nat.le_of_ble_eq_true rfl) rfl d_M_reads_241 rfl ?_
        refine MM.goto (tgt := 424) d_M_reads_242 rfl ?_
        exact MM.sub [1, 2, 0] (by rfl) (K9 _ hf)
      clear hf
      have hf := e30
      clear e30
      obtain ⟨m26, m27⟩ := mm_ifE hf
      refine MM.if_eq (tgt := 221) d_M_reads_213 rfl rfl (fun c25 => ?_) (fun c25 => ?_)
      · replace hf := m26 c25
        refine MM.aload_n (i := 0) rfl rfl d_M_reads_221 rfl ?_
        refine MM.bipush bp_45 d_M_reads_222 rfl ?_
        obtain ⟨v21, e20, hf⟩ := mm_bind hf
        refine MM.callV1 (T_M_isSign V l 45 s3.2.2 _ e20) (fun _ _ q => q) cal_M_isSign rfl tg_261 ct_9 ww_52 ww_1677 ww_1675 (by decide) (by simp [Value.category]) d_M_reads_224 rfl ⟨rfl, rfl⟩ rfl ?_
        obtain ⟨m23, m24⟩ := mm_ifE hf
        refine MM.if_eq (tgt := 235) d_M_reads_227 rfl rfl (fun c22 => ?_) (fun c22 => ?_)
        · replace hf := m23 c22
          refine MM.bipush bp_22 d_M_reads_235 rfl ?_
          obtain rfl := Option.some.inj hf
          exact MM.sub [0, 1] (by rfl) K19
        · replace hf := m24 c22
          refine MM.bipush bp_21 d_M_reads_230 rfl ?_
          refine MM.goto (tgt := 237) d_M_reads_232 rfl ?_
          obtain rfl := Option.some.inj hf
          exact MM.sub [0, 1] (by rfl) K19
      · replace hf := m27 c25
        refine MM.bipush bp_20 d_M_reads_216 rfl ?_
        refine MM.goto (tgt := 237) d_M_reads_218 rfl ?_
        obtain rfl := Option.some.inj hf
        exact MM.sub [0, 1] (by rfl) K19
    clear e159
    obtain ⟨m157, m158⟩ := mm_ifE hf
    refine MM.if_ne (tgt := 206) d_M_reads_185 rfl rfl (fun c156 => ?_) (fun c156 => ?_)
    · replace hf := m158 c156
      exact MM.sub [0, 1] (by rfl) (K14 _ hf)
    · replace hf := m157 c156
      refine MM.aload_n (i := 0) rfl rfl d_M_reads_188 rfl ?_
      refine MM.bipush bp_45 d_M_reads_189 rfl ?_
      obtain ⟨v32, e31, hf⟩ := mm_bind hf
      refine MM.callV1 (T_M_isSign V l 45 s3.2.2 _ e31) (fun _ _ q => q) cal_M_isSign rfl tg_261 ct_9 ww_52 ww_1677 ww_1675 (by decide) (by simp [Value.category]) d_M_reads_191 rfl ⟨rfl, rfl⟩ rfl ?_
      obtain ⟨m154, m155⟩ := mm_ifE hf
      refine MM.if_ne (tgt := 206) d_M_reads_194 rfl rfl (fun c153 => ?_) (fun c153 => ?_)
      · replace hf := m155 c153
        exact MM.sub [0, 1] (by rfl) (K14 _ hf)
      · replace hf := m154 c153
        refine MM.aload_n (i := 0) rfl rfl d_M_reads_197 rfl ?_
        refine MM.bipush bp_42 d_M_reads_198 rfl ?_
        obtain ⟨v34, e33, hf⟩ := mm_bind hf
        refine MM.callV1 (T_M_isSign V l 42 s3.2.2 _ e33) (fun _ _ q => q) cal_M_isSign rfl tg_261 ct_9 ww_52 ww_1677 ww_1675 (by decide) (by simp [Value.category]) d_M_reads_200 rfl ⟨rfl, rfl⟩ rfl ?_
        obtain ⟨m151, m152⟩ := mm_ifE hf
        refine MM.if_eq (tgt := 245) d_M_reads_203 rfl rfl (fun c150 => ?_) (fun c150 => ?_)
        · replace hf := m151 c150
          refine MM.aload_n (i := 0) rfl rfl d_M_reads_245 rfl ?_
          refine MM.bipush bp_60 d_M_reads_246 rfl ?_
          obtain ⟨v36, e35, hf⟩ := mm_bind hf
          refine MM.callV1 (T_M_isSign V l 60 s3.2.2 _ e35) (fun _ _ q => q) cal_M_isSign rfl tg_261 ct_9 ww_52 ww_1677 ww_1675 (by decide) (by simp [Value.category]) d_M_reads_248 rfl ⟨rfl, rfl⟩ rfl ?_
          obtain ⟨k39, e149, hf⟩ := mm_jpE hf
          have K38 : ∀ j37, k39 j37 = some q4 → MM V l Y_M_reads 3 0 0 Z0 304 [(0, .ref 261), (1, .int s3.1), (2, .int s3.2.1)] [] s3.2.2 := by
            intro j37 hf
            rw [e149] at hf
            refine MM.aload_n (i := 0) rfl rfl d_M_reads_304 rfl ?_
            refine MM.ldc2 ww_1643 d_M_reads_305 rfl ?_
            obtain ⟨v41, e40, hf⟩ := mm_bind hf
            refine MM.callV1 (T_M_isWord V l (1111 : Int64) s3.2.2 _ e40) (fun _ _ q => q) cal_M_isWord rfl tg_261 ct_9 ww_41 ww_1604 ww_1602 (by decide) (by simp [Value.category]) d_M_reads_308 rfl ⟨rfl, rfl⟩ rfl ?_
            obtain ⟨k44, e117, hf⟩ := mm_jpE hf
            have K43 : ∀ j42, k44 j42 = some q4 → MM V l Y_M_reads 3 0 0 Z0 324 [(0, .ref 261), (1, .int s3.1)] [] s3.2.2 := by
              intro j42 hf
              rw [e117] at hf
              refine MM.aload_n (i := 0) rfl rfl d_M_reads_324 rfl ?_
              refine MM.aload_n (i := 0) rfl rfl d_M_reads_325 rfl ?_
              refine MM.ldc2 ww_1643 d_M_reads_326 rfl ?_
              obtain ⟨v46, e45, hf⟩ := mm_bind hf
              refine MM.callV1 (T_M_isWord V l (1111 : Int64) s3.2.2 _ e45) (fun _ _ q => q) cal_M_isWord rfl tg_261 ct_9 ww_41 ww_1604 ww_1602 (by decide) (by simp [Value.category]) d_M_reads_329 rfl ⟨rfl, rfl⟩ rfl ?_
              obtain ⟨j47, e58, hf⟩ := mm_bind hf
              have K48 : MM V l Y_M_reads 3 0 0 Z0 342 [(0, .ref 261), (1, .int s3.1)] [.int j47, .ref 261] s3.2.2 := by
                obtain ⟨v53, e52, hf⟩ := mm_bind hf
                refine MM.callV0 (T_M_puts V l j47 s3.2.2 _ e52) (fun _ _ q => q) cal_M_puts rfl tg_261 ct_9 ww_62 ww_1721 ww_1719 (by decide) (by simp [Value.category]) d_M_reads_342 rfl ⟨rfl, rfl⟩ rfl ?_
                refine MM.aload_n (i := 0) rfl rfl d_M_reads_345 rfl ?_
                refine MM.gR 9 21 tg_261 rq_9_30 rfl lays_9 ww_1388 d_M_reads_346 rfl ?_
                refine MM.iload_n (i := 1) rfl rfl d_M_reads_349 rfl ?_
                refine MM.iconst ic_0 d_M_reads_350 rfl ?_
                obtain ⟨k54, e55, hf⟩ := mm_bind hf
                obtain ⟨h56, e57, hf⟩ := mm_letE hf
                refine MM.sZ e55 e57 al_282 d_M_reads_351 rfl ?_
                refine MM.iconst ic_1 d_M_reads_352 rfl ?_
                refine MM.istore_n (i := 2) (lv' := [(2, .int 1), (0, .ref 261), (1, .int s3.1)]) rfl rfl (Nat.le_of_ble_eq_true rfl) rfl d_M_reads_353 rfl ?_
                refine MM.goto (tgt := 424) d_M_reads_354 rfl ?_
                exact MM.sub [1, 2, 0] (by rfl) (K9 _ hf)
              clear hf
              have hf := e58
              clear e58
              obtain ⟨m50, m51⟩ := mm_ifE hf
              refine MM.if_eq (tgt := 340) d_M_reads_332 rfl rfl (fun c49 => ?_) (fun c49 => ?_)
              · replace hf := m50 c49
                refine MM.bipush bp_27 d_M_reads_340 rfl ?_
                obtain rfl := Option.some.inj hf
                exact MM.sub [0, 1] (by rfl) K48
              · replace hf := m51 c49
                refine MM.bipush bp_26 d_M_reads_335 rfl ?_
                refine MM.goto (tgt := 342) d_M_reads_337 rfl ?_
                obtain rfl := Option.some.inj hf
                exact MM.sub [0, 1] (by rfl) K48
            clear e117
            obtain ⟨m115, m116⟩ := mm_ifE hf
            refine MM.if_ne (tgt := 324) d_M_reads_311 rfl rfl (fun c114 => ?_) (fun c114 => ?_)
            · replace hf := m116 c114
              exact MM.sub [0, 1] (by rfl) (K43 _ hf)
            · replace hf := m115 c114
              refine MM.aload_n (i := 0) rfl rfl d_M_reads_314 rfl ?_
              refine MM.ldc2 ww_1644 d_M_reads_315 rfl ?_
              obtain ⟨v60, e59, hf⟩ := mm_bind hf
              refine MM.callV1 (T_M_isWord V l (423 : Int64) s3.2.2 _ e59) (fun _ _ q => q) cal_M_isWord rfl tg_261 ct_9 ww_41 ww_1604 ww_1602 (by decide) (by simp [Value.category]) d_M_reads_318 rfl ⟨rfl, rfl⟩ rfl ?_
              obtain ⟨m112, m113⟩ := mm_ifE hf
              refine MM.if_eq (tgt := 357) d_M_reads_321 rfl rfl (fun c111 => ?_) (fun c111 => ?_)
              · replace hf := m112 c111
                refine MM.aload_n (i := 0) rfl rfl d_M_reads_357 rfl ?_
                refine MM.bipush bp_41 d_M_reads_358 rfl ?_
                obtain ⟨v62, e61, hf⟩ := mm_bind hf
                refine MM.callV1 (T_M_isSign V l 41 s3.2.2 _ e61) (fun _ _ q => q) cal_M_isSign rfl tg_261 ct_9 ww_52 ww_1677 ww_1675 (by decide) (by simp [Value.category]) d_M_reads_360 rfl ⟨rfl, rfl⟩ rfl ?_
                obtain ⟨k65, e110, hf⟩ := mm_jpE hf
                have K64 : ∀ j63, k65 j63 = some q4 → MM V l Y_M_reads 3 0 0 Z0 399 [(0, .ref 261), (1, .int s3.1)] [] s3.2.2 := by
                  intro j63 hf
                  rw [e110] at hf
                  refine MM.iload_n (i := 1) rfl rfl d_M_reads_399 rfl ?_
                  obtain ⟨k68, e83, hf⟩ := mm_jpE hf
                  have K67 : ∀ j66, k68 j66 = some q4 → MM V l Y_M_reads 3 0 0 Z0 418 [(0, .ref 261)] [] s3.2.2 := by
                    intro j66 hf
                    rw [e83] at hf
                    refine MM.aload_n (i := 0) rfl rfl d_M_reads_418 rfl ?_
                    refine MM.iconst ic_1 d_M_reads_419 rfl ?_
                    obtain ⟨v70, e69, hf⟩ := mm_bind hf
                    refine MM.callV1 (T_M_fails V l 1 s3.2.2 _ e69) (fun _ _ q => q) cal_M_fails rfl tg_261 ct_9 ww_43 ww_1612 ww_1610 (by decide) (by simp [Value.category]) d_M_reads_420 rfl ⟨rfl, rfl⟩ rfl ?_
                    obtain ⟨b71, e72, hf⟩ := mm_bind hf
                    obtain ⟨ob71, e72⟩ := mm_boE e72
                    subst e72
                    obtain rfl := Option.some.inj hf
                    replace hf := mm_wxR hx5
                    obtain rfl := Option.some.inj hf
                    subst hZ
                    exact MM.zret ob71 rfl d_M_reads_423 ⟨rfl, rfl⟩
                  clear e83
                  obtain ⟨m81, m82⟩ := mm_ifE hf
                  refine MM.if_ne (tgt := 418) d_M_reads_400 rfl rfl (fun c80 => ?_) (fun c80 => ?_)
                  · replace hf := m82 c80
                    exact MM.sub [0] (by rfl) (K67 _ hf)
                  · replace hf := m81 c80
                    refine MM.aload_n (i := 0) rfl rfl d_M_reads_403 rfl ?_
                    refine MM.bipush bp_59 d_M_reads_404 rfl ?_
                    obtain ⟨v74, e73, hf⟩ := mm_bind hf
                    refine MM.callV1 (T_M_isSign V l 59 s3.2.2 _ e73) (fun _ _ q => q) cal_M_isSign rfl tg_261 ct_9 ww_52 ww_1677 ww_1675 (by decide) (by simp [Value.category]) d_M_reads_406 rfl ⟨rfl, rfl⟩ rfl ?_
                    obtain ⟨m78, m79⟩ := mm_ifE hf
                    refine MM.if_eq (tgt := 418) d_M_reads_409 rfl rfl (fun c77 => ?_) (fun c77 => ?_)
                    · replace hf := m78 c77
                      exact MM.sub [0] (by rfl) (K67 _ hf)
                    · replace hf := m79 c77
                      refine MM.aload_n (i := 0) rfl rfl d_M_reads_412 rfl ?_
                      obtain ⟨v76, e75, hf⟩ := mm_bind hf
                      refine MM.callV0 (T_M_nextToken V l  s3.2.2 _ e75) (fun _ _ q => q) cal_M_nextToken rfl tg_261 ct_9 ww_39 ww_1593 ww_1591 (by decide) (by simp [Value.category]) d_M_reads_413 rfl ⟨rfl, rfl⟩ rfl ?_
                      refine MM.iconst ic_1 d_M_reads_416 rfl ?_
                      obtain rfl := Option.some.inj hf
                      replace hf := mm_wxR hx5
                      obtain rfl := Option.some.inj hf
                      subst hZ
                      exact MM.zret (Or.inr rfl) rfl d_M_reads_417 ⟨rfl, rfl⟩
                clear e110
                obtain ⟨m108, m109⟩ := mm_ifE hf
                refine MM.if_eq (tgt := 399) d_M_reads_363 rfl rfl (fun c107 => ?_) (fun c107 => ?_)
                · replace hf := m108 c107
                  exact MM.sub [0, 1] (by rfl) (K64 _ hf)
                · replace hf := m109 c107
                  refine MM.iload_n (i := 1) rfl rfl d_M_reads_366 rfl ?_
                  obtain ⟨m105, m106⟩ := mm_ifE hf
                  refine MM.if_le (tgt := 399) d_M_reads_367 rfl rfl (fun c104 => ?_) (fun c104 => ?_)
                  · replace hf := m105 c104
                    exact MM.sub [0, 1] (by rfl) (K64 _ hf)
                  · replace hf := m106 c104
                    refine MM.aload_n (i := 0) rfl rfl d_M_reads_370 rfl ?_
                    refine MM.bipush bp_29 d_M_reads_371 rfl ?_
                    obtain ⟨v85, e84, hf⟩ := mm_bind hf
                    refine MM.callV0 (T_M_puts V l 29 s3.2.2 _ e84) (fun _ _ q => q) cal_M_puts rfl tg_261 ct_9 ww_62 ww_1721 ww_1719 (by decide) (by simp [Value.category]) d_M_reads_373 rfl ⟨rfl, rfl⟩ rfl ?_
                    obtain ⟨y86, e87, hf⟩ := mm_letE hf
                    refine MM.iinc (k0 := 1) (lv' := [(1, .int y86), (0, .ref 261), (2, .int s3.2.1)]) (by rw [ic_m1]; exact e87) rfl (Nat.le_of_ble_eq_true rfl) rfl d_M_reads_376 rfl ?_
                    obtain ⟨v91, e93, hf⟩ := mm_bind hf
                    have K92 : MM V l Y_M_reads 3 0 0 Z0 424 [(0, .ref 261), (1, .int v91), (2, .int s3.2.1)] [] v85 := by
                      exact MM.sub [0, 1, 2] (by rfl) (K9 _ hf)
                    clear hf
                    refine MM.sub [1, 0, 2] (by rfl) (mm_while_ind (fun s88 => MM V l Y_M_reads 3 0 0 Z0 379 [(0, .ref 261), (1, .int s88), (2, .int s3.2.1)] [] v85) e93 (fun s88 q89 hf hx90 => ?_))
                    refine MM.iload_n (i := 1) rfl rfl d_M_reads_379 rfl ?_
                    obtain ⟨m102, m103⟩ := mm_ifE hf
                    refine MM.if_le (tgt := 424) d_M_reads_380 rfl rfl (fun c101 => ?_) (fun c101 => ?_)
                    · replace hf := m102 c101
                      obtain rfl := Option.some.inj hf
                      obtain rfl := Option.some.inj (mm_wxR hx90)
                      exact MM.sub [0, 1, 2] (by rfl) K92
                    · replace hf := m103 c101
                      refine MM.aload_n (i := 0) rfl rfl d_M_reads_383 rfl ?_
                      refine MM.gR 9 20 tg_261 rq_9_29 rfl lays_9 ww_1387 d_M_reads_384 rfl ?_
                      refine MM.iload_n (i := 1) rfl rfl d_M_reads_387 rfl ?_
                      obtain ⟨k94, e95, hf⟩ := mm_bind hf
                      refine MM.gI e95 al_281 d_M_reads_388 rfl ?_
                      refine MM.iconst ic_1 d_M_reads_389 rfl ?_
                      obtain ⟨m99, m100⟩ := mm_ifE hf
                      refine MM.icmp_ne (tgt := 424) d_M_reads_390 rfl rfl (fun c98 => ?_) (fun c98 => ?_)
                      · replace hf := m100 c98
                        obtain rfl := Option.some.inj hf
                        obtain rfl := Option.some.inj (mm_wxR hx90)
                        exact MM.sub [0, 1, 2] (by rfl) K92
                      · replace hf := m99 c98
                        obtain ⟨y96, e97, hf⟩ := mm_letE hf
                        refine MM.iinc (k0 := 1) (lv' := [(1, .int y96), (0, .ref 261), (2, .int s3.2.1)]) (by rw [ic_m1]; exact e97) rfl (Nat.le_of_ble_eq_true rfl) rfl d_M_reads_393 rfl ?_
                        refine MM.goto (tgt := 379) d_M_reads_396 rfl ?_
                        obtain rfl := Option.some.inj hf
                        have h9 := mm_wxL hx90
                        exact MM.sub [1, 0, 2] (by rfl) h9
              · replace hf := m113 c111
                exact MM.sub [0, 1] (by rfl) (K43 _ hf)
          clear e149
          obtain ⟨k120, e148, hf⟩ := mm_jpE hf
          have K119 : ∀ j118, k120 j118 = some q4 → MM V l Y_M_reads 3 0 0 Z0 263 [(0, .ref 261), (1, .int s3.1), (2, .int s3.2.1)] [] s3.2.2 := by
            intro j118 hf
            rw [e148] at hf
            refine MM.aload_n (i := 0) rfl rfl d_M_reads_263 rfl ?_
            refine MM.gR 9 21 tg_261 rq_9_30 rfl lays_9 ww_1388 d_M_reads_264 rfl ?_
            refine MM.iload_n (i := 1) rfl rfl d_M_reads_267 rfl ?_
            obtain ⟨k121, e122, hf⟩ := mm_bind hf
            refine MM.gZ e122 al_282 d_M_reads_268 rfl ?_
            obtain ⟨m138, m139⟩ := mm_ifE hf
            refine MM.if_ne (tgt := 304) d_M_reads_269 rfl rfl (fun c137 => ?_) (fun c137 => ?_)
            · replace hf := m139 c137
              exact MM.sub [0, 1, 2] (by rfl) (K38 _ hf)
            · replace hf := m138 c137
              refine MM.aload_n (i := 0) rfl rfl d_M_reads_272 rfl ?_
              refine MM.aload_n (i := 0) rfl rfl d_M_reads_273 rfl ?_
              refine MM.bipush bp_60 d_M_reads_274 rfl ?_
              obtain ⟨v124, e123, hf⟩ := mm_bind hf
              refine MM.callV1 (T_M_isSign V l 60 s3.2.2 _ e123) (fun _ _ q => q) cal_M_isSign rfl tg_261 ct_9 ww_52 ww_1677 ww_1675 (by decide) (by simp [Value.category]) d_M_reads_276 rfl ⟨rfl, rfl⟩ rfl ?_
              obtain ⟨j125, e136, hf⟩ := mm_bind hf
              have K126 : MM V l Y_M_reads 3 0 0 Z0 289 [(0, .ref 261), (1, .int s3.1)] [.int j125, .ref 261] s3.2.2 := by
                obtain ⟨v131, e130, hf⟩ := mm_bind hf
                refine MM.callV0 (T_M_puts V l j125 s3.2.2 _ e130) (fun _ _ q => q) cal_M_puts rfl tg_261 ct_9 ww_62 ww_1721 ww_1719 (by decide) (by simp [Value.category]) d_M_reads_289 rfl ⟨rfl, rfl⟩ rfl ?_
                refine MM.aload_n (i := 0) rfl rfl d_M_reads_292 rfl ?_
                refine MM.gR 9 21 tg_261 rq_9_30 rfl lays_9 ww_1388 d_M_reads_293 rfl ?_
                refine MM.iload_n (i := 1) rfl rfl d_M_reads_296 rfl ?_
                refine MM.iconst ic_1 d_M_reads_297 rfl ?_
                obtain ⟨k132, e133, hf⟩ := mm_bind hf
                obtain ⟨h134, e135, hf⟩ := mm_letE hf
                refine MM.sZ e133 e135 al_282 d_M_reads_298 rfl ?_
                refine MM.iconst ic_1 d_M_reads_299 rfl ?_
                refine MM.istore_n (i := 2) (lv' := [(2, .int 1), (0, .ref 261), (1, .int s3.1)]) rfl rfl (Nat.le_of_ble_eq_true rfl) rfl d_M_reads_300 rfl ?_
                refine MM.goto (tgt := 424) d_M_reads_301 rfl ?_
                exact MM.sub [1, 2, 0] (by rfl) (K9 _ hf)
              clear hf
              have hf := e136
              clear e136
              obtain ⟨m128, m129⟩ := mm_ifE hf
              refine MM.if_eq (tgt := 287) d_M_reads_279 rfl rfl (fun c127 => ?_) (fun c127 => ?_)
              · replace hf := m128 c127
                refine MM.bipush bp_25 d_M_reads_287 rfl ?_
                obtain rfl := Option.some.inj hf
                exact MM.sub [0, 1] (by rfl) K126
              · replace hf := m129 c127
                refine MM.bipush bp_24 d_M_reads_282 rfl ?_
                refine MM.goto (tgt := 289) d_M_reads_284 rfl ?_
                obtain rfl := Option.some.inj hf
                exact MM.sub [0, 1] (by rfl) K126
          clear e148
          obtain ⟨m146, m147⟩ := mm_ifE hf
          refine MM.if_ne (tgt := 263) d_M_reads_251 rfl rfl (fun c145 => ?_) (fun c145 => ?_)
          · replace hf := m147 c145
            exact MM.sub [0, 1, 2] (by rfl) (K119 _ hf)
          · replace hf := m146 c145
            refine MM.aload_n (i := 0) rfl rfl d_M_reads_254 rfl ?_
            refine MM.bipush bp_61 d_M_reads_255 rfl ?_
            obtain ⟨v141, e140, hf⟩ := mm_bind hf
            refine MM.callV1 (T_M_isSign V l 61 s3.2.2 _ e140) (fun _ _ q => q) cal_M_isSign rfl tg_261 ct_9 ww_52 ww_1677 ww_1675 (by decide) (by simp [Value.category]) d_M_reads_257 rfl ⟨rfl, rfl⟩ rfl ?_
            obtain ⟨m143, m144⟩ := mm_ifE hf
            refine MM.if_eq (tgt := 304) d_M_reads_260 rfl rfl (fun c142 => ?_) (fun c142 => ?_)
            · replace hf := m143 c142
              exact MM.sub [0, 1, 2] (by rfl) (K38 _ hf)
            · replace hf := m144 c142
              exact MM.sub [0, 1, 2] (by rfl) (K119 _ hf)
        · replace hf := m152 c150
          exact MM.sub [0, 1] (by rfl) (K14 _ hf)
  · replace hf := m259 c257
    refine MM.aload_n (i := 0) rfl rfl d_M_reads_15 rfl ?_
    obtain ⟨v162, e161, hf⟩ := mm_bind hf
    refine MM.callV1 (T_M_fact V l  s3.2.2 _ e161) (fun _ _ q => q) cal_M_fact rfl tg_261 ct_9 ww_61 ww_1713 ww_1711 (by decide) (by simp [Value.category]) d_M_reads_16 rfl ⟨rfl, rfl⟩ rfl ?_
    refine MM.istore_n (i := 3) (lv' := [(3, .int v162), (0, .ref 261), (1, .int s3.1), (2, .int s3.2.1)]) rfl rfl (Nat.le_of_ble_eq_true rfl) rfl d_M_reads_19 rfl ?_
    refine MM.aload_n (i := 0) rfl rfl d_M_reads_20 rfl ?_
    refine MM.ldc2 ww_1642 d_M_reads_21 rfl ?_
    obtain ⟨v164, e163, hf⟩ := mm_bind hf
    refine MM.callV1 (T_M_isWord V l (10631 : Int64) s3.2.2 _ e163) (fun _ _ q => q) cal_M_isWord rfl tg_261 ct_9 ww_41 ww_1604 ww_1602 (by decide) (by simp [Value.category]) d_M_reads_24 rfl ⟨rfl, rfl⟩ rfl ?_
    refine MM.istore (lv' := [(4, .int v164), (3, .int v162), (0, .ref 261), (1, .int s3.1), (2, .int s3.2.1)]) rfl (Nat.le_of_ble_eq_true rfl) rfl d_M_reads_27 rfl ?_
    refine MM.aload_n (i := 0) rfl rfl d_M_reads_29 rfl ?_
    refine MM.bipush bp_40 d_M_reads_30 rfl ?_
    obtain ⟨v166, e165, hf⟩ := mm_bind hf
    refine MM.callV1 (T_M_isSign V l 40 s3.2.2 _ e165) (fun _ _ q => q) cal_M_isSign rfl tg_261 ct_9 ww_52 ww_1677 ww_1675 (by decide) (by simp [Value.category]) d_M_reads_32 rfl ⟨rfl, rfl⟩ rfl ?_
    refine MM.istore (lv' := [(5, .int v166), (4, .int v164), (3, .int v162), (0, .ref 261), (1, .int s3.1), (2, .int s3.2.1)]) rfl (Nat.le_of_ble_eq_true rfl) rfl d_M_reads_35 rfl ?_
    refine MM.iload_n (i := 3) rfl rfl d_M_reads_37 rfl ?_
    obtain ⟨k169, e256, hf⟩ := mm_jpE hf
    have K168 : ∀ j167, k169 j167 = some q4 → MM V l Y_M_reads 3 0 0 Z0 65 [(0, .ref 261), (1, .int s3.1), (2, .int s3.2.1), (3, .int v162), (4, .int v164), (5, .int v166)] [] s3.2.2 := by
      intro j167 hf
      rw [e256] at hf
      refine MM.iload_n (i := 1) rfl rfl d_M_reads_65 rfl ?_
      refine MM.iconst ic_5 d_M_reads_66 rfl ?_
      obtain ⟨m238, m239⟩ := mm_ifE hf
      refine MM.icmp_ne (tgt := 76) d_M_reads_67 rfl rfl (fun c237 => ?_) (fun c237 => ?_)
      · replace hf := m239 c237
        refine MM.iload rfl d_M_reads_76 rfl ?_
        obtain ⟨j170, e232, hf⟩ := mm_bind hf
        have K171 : MM V l Y_M_reads 3 0 0 Z0 172 [(0, .ref 261), (1, .int j170.1), (2, .int j170.2.1)] [] j170.2.2 := by
          refine MM.aload_n (i := 0) rfl rfl d_M_reads_172 rfl ?_
          obtain ⟨v231, e230, hf⟩ := mm_bind hf
          refine MM.callV0 (T_M_nextToken V l  j170.2.2 _ e230) (fun _ _ q => q) cal_M_nextToken rfl tg_261 ct_9 ww_39 ww_1593 ww_1591 (by decide) (by simp [Value.category]) d_M_reads_173 rfl ⟨rfl, rfl⟩ rfl ?_
          refine MM.goto (tgt := 11) d_M_reads_176 rfl ?_
          obtain rfl := Option.some.inj hf
          have h9 := mm_wxL hx5
          exact MM.sub [0, 1, 2] (by rfl) h9
        clear hf
        have hf := e232
        clear e232
        obtain ⟨k174, e229, hf⟩ := mm_jpE hf
        have K173 : ∀ j172, k174 j172 = some j170 → MM V l Y_M_reads 3 0 0 Z0 86 [(0, .ref 261), (1, .int s3.1), (2, .int s3.2.1), (4, .int v164)] [] s3.2.2 := by
          intro j172 hf
          rw [e229] at hf
          refine MM.aload_n (i := 0) rfl rfl d_M_reads_86 rfl ?_
          refine MM.iload rfl d_M_reads_87 rfl ?_
          obtain ⟨j175, e198, hf⟩ := mm_bind hf
          have K176 : MM V l Y_M_reads 3 0 0 Z0 99 [(0, .ref 261), (1, .int s3.1), (2, .int s3.2.1), (4, .int v164)] [.int j175, .ref 261] s3.2.2 := by
            obtain ⟨v181, e180, hf⟩ := mm_bind hf
            refine MM.callV0 (T_M_puts V l j175 s3.2.2 _ e180) (fun _ _ q => q) cal_M_puts rfl tg_261 ct_9 ww_62 ww_1721 ww_1719 (by decide) (by simp [Value.category]) d_M_reads_99 rfl ⟨rfl, rfl⟩ rfl ?_
            obtain ⟨y182, e183, hf⟩ := mm_letE hf
            refine MM.iinc (k0 := 1) (lv' := [(1, .int y182), (0, .ref 261), (2, .int s3.2.1), (4, .int v164)]) (by rw [ic_1]; exact e183) rfl (Nat.le_of_ble_eq_true rfl) rfl d_M_reads_102 rfl ?_
            refine MM.aload_n (i := 0) rfl rfl d_M_reads_105 rfl ?_
            refine MM.gR 9 20 tg_261 rq_9_29 rfl lays_9 ww_1387 d_M_reads_106 rfl ?_
            refine MM.iload_n (i := 1) rfl rfl d_M_reads_109 rfl ?_
            refine MM.iload rfl d_M_reads_110 rfl ?_
            obtain ⟨j184, e197, hf⟩ := mm_bind hf
            have K185 : MM V l Y_M_reads 3 0 0 Z0 120 [(0, .ref 261), (1, .int y182), (2, .int s3.2.1)] [.int j184, .int y182, .ref 281] v181 := by
              obtain ⟨k189, e190, hf⟩ := mm_bind hf
              obtain ⟨h191, e192, hf⟩ := mm_letE hf
              refine MM.sI e190 e192 al_281 d_M_reads_120 rfl ?_
              refine MM.aload_n (i := 0) rfl rfl d_M_reads_121 rfl ?_
              refine MM.gR 9 21 tg_261 rq_9_30 rfl lays_9 ww_1388 d_M_reads_122 rfl ?_
              refine MM.iload_n (i := 1) rfl rfl d_M_reads_125 rfl ?_
              refine MM.iconst ic_0 d_M_reads_126 rfl ?_
              obtain ⟨k193, e194, hf⟩ := mm_bind hf
              obtain ⟨h195, e196, hf⟩ := mm_letE hf
              refine MM.sZ e194 e196 al_282 d_M_reads_127 rfl ?_
              refine MM.goto (tgt := 172) d_M_reads_128 rfl ?_
              obtain rfl := Option.some.inj hf
              exact MM.sub [0, 1, 2] (by rfl) K171
            clear hf
            have hf := e197
            clear e197
            obtain ⟨m187, m188⟩ := mm_ifE hf
            refine MM.if_eq (tgt := 119) d_M_reads_112 rfl rfl (fun c186 => ?_) (fun c186 => ?_)
            · replace hf := m187 c186
              refine MM.iconst ic_2 d_M_reads_119 rfl ?_
              obtain rfl := Option.some.inj hf
              exact MM.sub [1, 0, 2] (by rfl) K185
            · replace hf := m188 c186
              refine MM.iconst ic_1 d_M_reads_115 rfl ?_
              refine MM.goto (tgt := 120) d_M_reads_116 rfl ?_
              obtain rfl := Option.some.inj hf
              exact MM.sub [1, 0, 2] (by rfl) K185
          clear hf
          have hf := e198
          clear e198
          obtain ⟨m178, m179⟩ := mm_ifE hf
          refine MM.if_eq (tgt := 97) d_M_reads_89 rfl rfl (fun c177 => ?_) (fun c177 => ?_)
          · replace hf := m178 c177
            refine MM.bipush bp_28 d_M_reads_97 rfl ?_
            obtain rfl := Option.some.inj hf
            exact MM.sub [0, 1, 2, 3] (by rfl) K176
          · replace hf := m179 c177
            refine MM.bipush bp_30 d_M_reads_92 rfl ?_
            refine MM.goto (tgt := 99) d_M_reads_94 rfl ?_
            obtain rfl := Option.some.inj hf
            exact MM.sub [0, 1, 2, 3] (by rfl) K176
        clear e229
        obtain ⟨m227, m228⟩ := mm_ifE hf
        refine MM.if_ne (tgt := 86) d_M_reads_78 rfl rfl (fun c226 => ?_) (fun c226 => ?_)
        · replace hf := m228 c226
          exact MM.sub [0, 1, 2, 4] (by rfl) (K173 _ hf)
        · replace hf := m227 c226
          refine MM.iload rfl d_M_reads_81 rfl ?_
          obtain ⟨m224, m225⟩ := mm_ifE hf
          refine MM.if_eq (tgt := 131) d_M_reads_83 rfl rfl (fun c223 => ?_) (fun c223 => ?_)
          · replace hf := m224 c223
            refine MM.aload_n (i := 0) rfl rfl d_M_reads_131 rfl ?_
            refine MM.iload_n (i := 3) rfl rfl d_M_reads_132 rfl ?_
            obtain ⟨j199, e222, hf⟩ := mm_bind hf
            have K200 : MM V l Y_M_reads 3 0 0 Z0 147 [(0, .ref 261), (1, .int s3.1)] [.int j199, .ref 261] s3.2.2 := by
              obtain ⟨v205, e204, hf⟩ := mm_bind hf
              refine MM.callV0 (T_M_puts V l j199 s3.2.2 _ e204) (fun _ _ q => q) cal_M_puts rfl tg_261 ct_9 ww_62 ww_1721 ww_1719 (by decide) (by simp [Value.category]) d_M_reads_147 rfl ⟨rfl, rfl⟩ rfl ?_
              refine MM.iconst ic_0 d_M_reads_150 rfl ?_
              refine MM.istore_n (i := 2) (lv' := [(2, .int 0), (0, .ref 261), (1, .int s3.1)]) rfl rfl (Nat.le_of_ble_eq_true rfl) rfl d_M_reads_151 rfl ?_
              obtain ⟨v209, e211, hf⟩ := mm_bind hf
              have K210 : MM V l Y_M_reads 3 0 0 Z0 172 [(0, .ref 261), (1, .int v209), (2, .int 0)] [] v205 := by
                obtain rfl := Option.some.inj hf
                exact MM.sub [0, 1, 2] (by rfl) K171
              clear hf
              refine MM.sub [1, 2, 0] (by rfl) (mm_while_ind (fun s206 => MM V l Y_M_reads 3 0 0 Z0 152 [(0, .ref 261), (1, .int s206), (2, .int 0)] [] v205) e211 (fun s206 q207 hf hx208 => ?_))
              refine MM.iload_n (i := 1) rfl rfl d_M_reads_152 rfl ?_
              obtain ⟨m220, m221⟩ := mm_ifE hf
              refine MM.if_le (tgt := 172) d_M_reads_153 rfl rfl (fun c219 => ?_) (fun c219 => ?_)
              · replace hf := m220 c219
                obtain rfl := Option.some.inj hf
                obtain rfl := Option.some.inj (mm_wxR hx208)
                exact MM.sub [0, 1, 2] (by rfl) K210
              · replace hf := m221 c219
                refine MM.aload_n (i := 0) rfl rfl d_M_reads_156 rfl ?_
                refine MM.gR 9 20 tg_261 rq_9_29 rfl lays_9 ww_1387 d_M_reads_157 rfl ?_
                refine MM.iload_n (i := 1) rfl rfl d_M_reads_160 rfl ?_
                obtain ⟨k212, e213, hf⟩ := mm_bind hf
                refine MM.gI e213 al_281 d_M_reads_161 rfl ?_
                refine MM.iconst ic_1 d_M_reads_162 rfl ?_
                obtain ⟨m217, m218⟩ := mm_ifE hf
                refine MM.icmp_ne (tgt := 172) d_M_reads_163 rfl rfl (fun c216 => ?_) (fun c216 => ?_)
                · replace hf := m218 c216
                  obtain rfl := Option.some.inj hf
                  obtain rfl := Option.some.inj (mm_wxR hx208)
                  exact MM.sub [0, 1, 2] (by rfl) K210
                · replace hf := m217 c216
                  obtain ⟨y214, e215, hf⟩ := mm_letE hf
                  refine MM.iinc (k0 := 1) (lv' := [(1, .int y214), (0, .ref 261), (2, .int 0)]) (by rw [ic_m1]; exact e215) rfl (Nat.le_of_ble_eq_true rfl) rfl d_M_reads_166 rfl ?_
                  refine MM.goto (tgt := 152) d_M_reads_169 rfl ?_
                  obtain rfl := Option.some.inj hf
                  have h9 := mm_wxL hx208
                  exact MM.sub [1, 0, 2] (by rfl) h9
            clear hf
            have hf := e222
            clear e222
            obtain ⟨m202, m203⟩ := mm_ifE hf
            refine MM.if_le (tgt := 140) d_M_reads_133 rfl rfl (fun c201 => ?_) (fun c201 => ?_)
            · replace hf := m202 c201
              refine MM.bipush bp_100 d_M_reads_140 rfl ?_
              refine MM.aload_n (i := 0) rfl rfl d_M_reads_142 rfl ?_
              refine MM.getI 9 tg_261 lays_9 gq_9_8 ww_1366 d_M_reads_143 rfl ?_
              refine MM.iadd d_M_reads_146 rfl ?_
              obtain rfl := Option.some.inj hf
              exact MM.sub [0, 1] (by rfl) K200
            · replace hf := m203 c201
              refine MM.iload_n (i := 3) rfl rfl d_M_reads_136 rfl ?_
              refine MM.goto (tgt := 147) d_M_reads_137 rfl ?_
              obtain rfl := Option.some.inj hf
              exact MM.sub [0, 1] (by rfl) K200
          · replace hf := m225 c223
            exact MM.sub [0, 1, 2, 4] (by rfl) (K173 _ hf)
      · replace hf := m238 c237
        refine MM.aload_n (i := 0) rfl rfl d_M_reads_70 rfl ?_
        refine MM.iconst ic_5 d_M_reads_71 rfl ?_
        obtain ⟨v234, e233, hf⟩ := mm_bind hf
        refine MM.callV1 (T_M_fails V l 5 s3.2.2 _ e233) (fun _ _ q => q) cal_M_fails rfl tg_261 ct_9 ww_43 ww_1612 ww_1610 (by decide) (by simp [Value.category]) d_M_reads_72 rfl ⟨rfl, rfl⟩ rfl ?_
        obtain ⟨b235, e236, hf⟩ := mm_bind hf
        obtain ⟨ob235, e236⟩ := mm_boE e236
        subst e236
        obtain rfl := Option.some.inj hf
        replace hf := mm_wxR hx5
        obtain rfl := Option.some.inj hf
        subst hZ
        exact MM.zret ob235 rfl d_M_reads_75 ⟨rfl, rfl⟩
    clear e256
    obtain ⟨m254, m255⟩ := mm_ifE hf
    refine MM.if_ne (tgt := 65) d_M_reads_38 rfl rfl (fun c253 => ?_) (fun c253 => ?_)
    · replace hf := m255 c253
      exact MM.sub [3, 4, 5, 2, 1, 0] (by rfl) (K168 _ hf)
    · replace hf := m254 c253
      refine MM.iload rfl d_M_reads_41 rfl ?_
      obtain ⟨m251, m252⟩ := mm_ifE hf
      refine MM.if_ne (tgt := 65) d_M_reads_43 rfl rfl (fun c250 => ?_) (fun c250 => ?_)
      · replace hf := m252 c250
        exact MM.sub [3, 4, 5, 2, 1, 0] (by rfl) (K168 _ hf)
      · replace hf := m251 c250
        refine MM.iload rfl d_M_reads_46 rfl ?_
        obtain ⟨m248, m249⟩ := mm_ifE hf
        refine MM.if_ne (tgt := 65) d_M_reads_48 rfl rfl (fun c247 => ?_) (fun c247 => ?_)
        · replace hf := m249 c247
          exact MM.sub [3, 4, 5, 2, 1, 0] (by rfl) (K168 _ hf)
        · replace hf := m248 c247
          refine MM.aload_n (i := 0) rfl rfl d_M_reads_51 rfl ?_
          refine MM.getI 9 tg_261 lays_9 gq_9_6 ww_1364 d_M_reads_52 rfl ?_
          refine MM.iconst ic_2 d_M_reads_55 rfl ?_
          obtain ⟨m245, m246⟩ := mm_ifE hf
          refine MM.icmp_eq (tgt := 65) d_M_reads_56 rfl rfl (fun c244 => ?_) (fun c244 => ?_)
          · replace hf := m245 c244
            exact MM.sub [3, 4, 5, 2, 1, 0] (by rfl) (K168 _ hf)
          · replace hf := m246 c244
            refine MM.aload_n (i := 0) rfl rfl d_M_reads_59 rfl ?_
            refine MM.iconst ic_1 d_M_reads_60 rfl ?_
            obtain ⟨v241, e240, hf⟩ := mm_bind hf
            refine MM.callV1 (T_M_fails V l 1 s3.2.2 _ e240) (fun _ _ q => q) cal_M_fails rfl tg_261 ct_9 ww_43 ww_1612 ww_1610 (by decide) (by simp [Value.category]) d_M_reads_61 rfl ⟨rfl, rfl⟩ rfl ?_
            obtain ⟨b242, e243, hf⟩ := mm_bind hf
            obtain ⟨ob242, e243⟩ := mm_boE e243
            subst e243
            obtain rfl := Option.some.inj hf
            replace hf := mm_wxR hx5
            obtain rfl := Option.some.inj hf
            subst hZ
            exact MM.zret ob242 rfl d_M_reads_64 ⟨rfl, rfl⟩
theorem d_M_opens_0 : decode cX12_opens 0 = .ok (.aload_n 0, 1) := by decide +kernel
theorem d_M_opens_1 : decode cX12_opens 1 = .ok (.getfield 78, 3) := by decide +kernel
theorem d_M_opens_4 : decode cX12_opens 4 = .ok (.iload_n 1, 1) := by decide +kernel
theorem d_M_opens_5 : decode cX12_opens 5 = .ok (.iconst 0, 1) := by decide +kernel
theorem d_M_opens_6 : decode cX12_opens 6 = .ok (.iastore, 1) := by decide +kernel
theorem d_M_opens_7 : decode cX12_opens 7 = .ok (.aload_n 0, 1) := by decide +kernel
theorem d_M_opens_8 : decode cX12_opens 8 = .ok (.getfield 84, 3) := by decide +kernel
theorem d_M_opens_11 : decode cX12_opens 11 = .ok (.iload_n 1, 1) := by decide +kernel
theorem d_M_opens_12 : decode cX12_opens 12 = .ok (.iconst 0, 1) := by decide +kernel
theorem d_M_opens_13 : decode cX12_opens 13 = .ok (.iastore, 1) := by decide +kernel
theorem d_M_opens_14 : decode cX12_opens 14 = .ok (.aload_n 0, 1) := by decide +kernel
theorem d_M_opens_15 : decode cX12_opens 15 = .ok (.getfield 87, 3) := by decide +kernel
theorem d_M_opens_18 : decode cX12_opens 18 = .ok (.iload_n 1, 1) := by decide +kernel
theorem d_M_opens_19 : decode cX12_opens 19 = .ok (.iconst 0, 1) := by decide +kernel
theorem d_M_opens_20 : decode cX12_opens 20 = .ok (.iastore, 1) := by decide +kernel
theorem d_M_opens_21 : decode cX12_opens 21 = .ok (.aload_n 0, 1) := by decide +kernel
theorem d_M_opens_22 : decode cX12_opens 22 = .ok (.getfield 90, 3) := by decide +kernel
theorem d_M_opens_25 : decode cX12_opens 25 = .ok (.iload_n 1, 1) := by decide +kernel
theorem d_M_opens_26 : decode cX12_opens 26 = .ok (.bipush 20, 2) := by decide +kernel
theorem d_M_opens_28 : decode cX12_opens 28 = .ok (.iastore, 1) := by decide +kernel
theorem d_M_opens_29 : decode cX12_opens 29 = .ok (.aload_n 0, 1) := by decide +kernel
theorem d_M_opens_30 : decode cX12_opens 30 = .ok (.getfield 96, 3) := by decide +kernel
theorem d_M_opens_33 : decode cX12_opens 33 = .ok (.iload_n 1, 1) := by decide +kernel
theorem d_M_opens_34 : decode cX12_opens 34 = .ok (.iconst 0, 1) := by decide +kernel
theorem d_M_opens_35 : decode cX12_opens 35 = .ok (.iastore, 1) := by decide +kernel
theorem d_M_opens_36 : decode cX12_opens 36 = .ok (.return_, 1) := by decide +kernel
noncomputable def f_M_opens (x1 : Int32) (h : mm_H) : Option mm_H := (mm_ix x1 7).bind fun k1 => mm_let (mm_pI h 284 k1 0) fun h3 => (mm_ix x1 7).bind fun k5 => mm_let (mm_pI h3 286 k5 0) fun h7 => (mm_ix x1 7).bind fun k9 => mm_let (mm_pI h7 287 k9 0) fun h11 => (mm_ix x1 7).bind fun k13 => mm_let (mm_pI h11 288 k13 20) fun h15 => (mm_ix x1 7).bind fun k17 => mm_let (mm_pI h15 290 k17 0) fun h19 => some h19
theorem T_M_opens (V : mm_V) (l : Launch) (x1 : Int32) (h : mm_H) (r : mm_H) (hf : f_M_opens x1 h = some r) : MT V l Y_M_opens 1 [.ref 261, .int x1] (fun r1 h1 => r1 = none ∧ h1 = r) h := by
  unfold f_M_opens at hf
  refine MT.intro (pn_M rfl) [(0, .ref 261), (1, .int x1)] rfl (Nat.le_of_ble_eq_true rfl) ?_
  generalize hZ : mm_Z V _ = Z0
  refine MM.aload_n (i := 0) rfl rfl d_M_opens_0 rfl ?_
  refine MM.gR 9 23 tg_261 rq_9_32 rfl lays_9 ww_1390 d_M_opens_1 rfl ?_
  refine MM.iload_n (i := 1) rfl rfl d_M_opens_4 rfl ?_
  refine MM.iconst ic_0 d_M_opens_5 rfl ?_
  obtain ⟨k1, e2, hf⟩ := mm_bind hf
  obtain ⟨h3, e4, hf⟩ := mm_letE hf
  refine MM.sI e2 e4 al_284 d_M_opens_6 rfl ?_
  refine MM.aload_n (i := 0) rfl rfl d_M_opens_7 rfl ?_
  refine MM.gR 9 25 tg_261 rq_9_34 rfl lays_9 ww_1392 d_M_opens_8 rfl ?_
  refine MM.iload_n (i := 1) rfl rfl d_M_opens_11 rfl ?_
  refine MM.iconst ic_0 d_M_opens_12 rfl ?_
  obtain ⟨k5, e6, hf⟩ := mm_bind hf
  obtain ⟨h7, e8, hf⟩ := mm_letE hf
  refine MM.sI e6 e8 al_286 d_M_opens_13 rfl ?_
  refine MM.aload_n (i := 0) rfl rfl d_M_opens_14 rfl ?_
  refine MM.gR 9 26 tg_261 rq_9_35 rfl lays_9 ww_1393 d_M_opens_15 rfl ?_
  refine MM.iload_n (i := 1) rfl rfl d_M_opens_18 rfl ?_
  refine MM.iconst ic_0 d_M_opens_19 rfl ?_
  obtain ⟨k9, e10, hf⟩ := mm_bind hf
  obtain ⟨h11, e12, hf⟩ := mm_letE hf
  refine MM.sI e10 e12 al_287 d_M_opens_20 rfl ?_
  refine MM.aload_n (i := 0) rfl rfl d_M_opens_21 rfl ?_
  refine MM.gR 9 27 tg_261 rq_9_36 rfl lays_9 ww_1394 d_M_opens_22 rfl ?_
  refine MM.iload_n (i := 1) rfl rfl d_M_opens_25 rfl ?_
  refine MM.bipush bp_20 d_M_opens_26 rfl ?_
  obtain ⟨k13, e14, hf⟩ := mm_bind hf
  obtain ⟨h15, e16, hf⟩ := mm_letE hf
  refine MM.sI e14 e16 al_288 d_M_opens_28 rfl ?_
  refine MM.aload_n (i := 0) rfl rfl d_M_opens_29 rfl ?_
  refine MM.gR 9 29 tg_261 rq_9_38 rfl lays_9 ww_1396 d_M_opens_30 rfl ?_
  refine MM.iload_n (i := 1) rfl rfl d_M_opens_33 rfl ?_
  refine MM.iconst ic_0 d_M_opens_34 rfl ?_
  obtain ⟨k17, e18, hf⟩ := mm_bind hf
  obtain ⟨h19, e20, hf⟩ := mm_letE hf
  refine MM.sI e18 e20 al_290 d_M_opens_35 rfl ?_
  obtain rfl := Option.some.inj hf
  subst hZ
  exact MM.vret rfl d_M_opens_36 ⟨rfl, rfl⟩
