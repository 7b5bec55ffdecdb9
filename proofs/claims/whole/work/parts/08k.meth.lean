/-! methods: M_sums, M_tests, M_worked, M_isKept, M_named, M_personNamed, M_secretNamed, M_needsNumber, M_needsWord, M_needsBoth, M_closes, M_isNew -/
theorem d_M_sums_0 : decode cX12_sums 0 = .ok (.aload_n 0, 1) := by decide +kernel
theorem d_M_sums_1 : decode cX12_sums 1 = .ok (.getfield 87, 3) := by decide +kernel
theorem d_M_sums_4 : decode cX12_sums 4 = .ok (.iload_n 1, 1) := by decide +kernel
theorem d_M_sums_5 : decode cX12_sums 5 = .ok (.aload_n 0, 1) := by decide +kernel
theorem d_M_sums_6 : decode cX12_sums 6 = .ok (.getfield 90, 3) := by decide +kernel
theorem d_M_sums_9 : decode cX12_sums 9 = .ok (.iload_n 1, 1) := by decide +kernel
theorem d_M_sums_10 : decode cX12_sums 10 = .ok (.iaload, 1) := by decide +kernel
theorem d_M_sums_11 : decode cX12_sums 11 = .ok (.bipush 21, 2) := by decide +kernel
theorem d_M_sums_13 : decode cX12_sums 13 = .ok (.if_icmp .ne 19, 3) := by decide +kernel
theorem d_M_sums_16 : decode cX12_sums 16 = .ok (.aload_n 0, 1) := by decide +kernel
theorem d_M_sums_17 : decode cX12_sums 17 = .ok (.getfield 87, 3) := by decide +kernel
theorem d_M_sums_20 : decode cX12_sums 20 = .ok (.iload_n 1, 1) := by decide +kernel
theorem d_M_sums_21 : decode cX12_sums 21 = .ok (.iaload, 1) := by decide +kernel
theorem d_M_sums_22 : decode cX12_sums 22 = .ok (.aload_n 0, 1) := by decide +kernel
theorem d_M_sums_23 : decode cX12_sums 23 = .ok (.getfield 93, 3) := by decide +kernel
theorem d_M_sums_26 : decode cX12_sums 26 = .ok (.iload_n 1, 1) := by decide +kernel
theorem d_M_sums_27 : decode cX12_sums 27 = .ok (.iaload, 1) := by decide +kernel
theorem d_M_sums_28 : decode cX12_sums 28 = .ok (.isub, 1) := by decide +kernel
theorem d_M_sums_29 : decode cX12_sums 29 = .ok (.goto 16, 3) := by decide +kernel
theorem d_M_sums_32 : decode cX12_sums 32 = .ok (.aload_n 0, 1) := by decide +kernel
theorem d_M_sums_33 : decode cX12_sums 33 = .ok (.getfield 87, 3) := by decide +kernel
theorem d_M_sums_36 : decode cX12_sums 36 = .ok (.iload_n 1, 1) := by decide +kernel
theorem d_M_sums_37 : decode cX12_sums 37 = .ok (.iaload, 1) := by decide +kernel
theorem d_M_sums_38 : decode cX12_sums 38 = .ok (.aload_n 0, 1) := by decide +kernel
theorem d_M_sums_39 : decode cX12_sums 39 = .ok (.getfield 93, 3) := by decide +kernel
theorem d_M_sums_42 : decode cX12_sums 42 = .ok (.iload_n 1, 1) := by decide +kernel
theorem d_M_sums_43 : decode cX12_sums 43 = .ok (.iaload, 1) := by decide +kernel
theorem d_M_sums_44 : decode cX12_sums 44 = .ok (.iadd, 1) := by decide +kernel
theorem d_M_sums_45 : decode cX12_sums 45 = .ok (.iastore, 1) := by decide +kernel
theorem d_M_sums_46 : decode cX12_sums 46 = .ok (.aload_n 0, 1) := by decide +kernel
theorem d_M_sums_47 : decode cX12_sums 47 = .ok (.getfield 96, 3) := by decide +kernel
theorem d_M_sums_50 : decode cX12_sums 50 = .ok (.iload_n 1, 1) := by decide +kernel
theorem d_M_sums_51 : decode cX12_sums 51 = .ok (.iconst 0, 1) := by decide +kernel
theorem d_M_sums_52 : decode cX12_sums 52 = .ok (.iastore, 1) := by decide +kernel
theorem d_M_sums_53 : decode cX12_sums 53 = .ok (.return_, 1) := by decide +kernel
noncomputable def f_M_sums (x1 : Int32) (h : mm_H) : Option mm_H := (mm_ix x1 7).bind fun k1 => (if (h.1 288 k1) = 21 then ((mm_ix x1 7).bind fun k9 => (mm_ix x1 7).bind fun k11 => some ((h.1 287 k9) - (h.1 289 k11))) else ((mm_ix x1 7).bind fun k5 => (mm_ix x1 7).bind fun k7 => some ((h.1 287 k5) + (h.1 289 k7))) : Option Int32).bind fun j3 => (mm_ix x1 7).bind fun k16 => mm_let (mm_pI h 287 k16 j3) fun h18 => (mm_ix x1 7).bind fun k20 => mm_let (mm_pI h18 290 k20 0) fun h22 => some h22
theorem T_M_sums (V : mm_V) (l : Launch) (x1 : Int32) (h : mm_H) (r : mm_H) (hf : f_M_sums x1 h = some r) : MT V l Y_M_sums 1 [.ref 261, .int x1] (fun r1 h1 => r1 = none ∧ h1 = r) h := by
  unfold f_M_sums at hf
  refine MT.intro (pn_M rfl) [(0, .ref 261), (1, .int x1)] rfl (Nat.le_of_ble_eq_true rfl) ?_
  generalize hZ : mm_Z V _ = Z0
  refine MM.aload_n (i := 0) rfl rfl d_M_sums_0 rfl ?_
  refine MM.gR 9 26 tg_261 rq_9_35 rfl lays_9 ww_1393 d_M_sums_1 rfl ?_
  refine MM.iload_n (i := 1) rfl rfl d_M_sums_4 rfl ?_
  refine MM.aload_n (i := 0) rfl rfl d_M_sums_5 rfl ?_
  refine MM.gR 9 27 tg_261 rq_9_36 rfl lays_9 ww_1394 d_M_sums_6 rfl ?_
  refine MM.iload_n (i := 1) rfl rfl d_M_sums_9 rfl ?_
  obtain ⟨k1, e2, hf⟩ := mm_bind hf
  refine MM.gI e2 al_288 d_M_sums_10 rfl ?_
  refine MM.bipush bp_21 d_M_sums_11 rfl ?_
  obtain ⟨j3, e24, hf⟩ := mm_bind hf
  have K4 : MM V l Y_M_sums 1 0 0 Z0 45 [(0, .ref 261), (1, .int x1)] [.int j3, .int x1, .ref 287] h := by
    obtain ⟨k16, e17, hf⟩ := mm_bind hf
    obtain ⟨h18, e19, hf⟩ := mm_letE hf
    refine MM.sI e17 e19 al_287 d_M_sums_45 rfl ?_
    refine MM.aload_n (i := 0) rfl rfl d_M_sums_46 rfl ?_
    refine MM.gR 9 29 tg_261 rq_9_38 rfl lays_9 ww_1396 d_M_sums_47 rfl ?_
    refine MM.iload_n (i := 1) rfl rfl d_M_sums_50 rfl ?_
    refine MM.iconst ic_0 d_M_sums_51 rfl ?_
    obtain ⟨k20, e21, hf⟩ := mm_bind hf
    obtain ⟨h22, e23, hf⟩ := mm_letE hf
    refine MM.sI e21 e23 al_290 d_M_sums_52 rfl ?_
    obtain rfl := Option.some.inj hf
    subst hZ
    exact MM.vret rfl d_M_sums_53 ⟨rfl, rfl⟩
  clear hf
  have hf := e24
  clear e24
  obtain ⟨m14, m15⟩ := mm_ifE hf
  refine MM.icmp_ne (tgt := 32) d_M_sums_13 rfl rfl (fun c13 => ?_) (fun c13 => ?_)
  · replace hf := m15 c13
    refine MM.aload_n (i := 0) rfl rfl d_M_sums_32 rfl ?_
    refine MM.gR 9 26 tg_261 rq_9_35 rfl lays_9 ww_1393 d_M_sums_33 rfl ?_
    refine MM.iload_n (i := 1) rfl rfl d_M_sums_36 rfl ?_
    obtain ⟨k5, e6, hf⟩ := mm_bind hf
    refine MM.gI e6 al_287 d_M_sums_37 rfl ?_
    refine MM.aload_n (i := 0) rfl rfl d_M_sums_38 rfl ?_
    refine MM.gR 9 28 tg_261 rq_9_37 rfl lays_9 ww_1395 d_M_sums_39 rfl ?_
    refine MM.iload_n (i := 1) rfl rfl d_M_sums_42 rfl ?_
    obtain ⟨k7, e8, hf⟩ := mm_bind hf
    refine MM.gI e8 al_289 d_M_sums_43 rfl ?_
    refine MM.iadd d_M_sums_44 rfl ?_
    obtain rfl := Option.some.inj hf
    exact MM.sub [0, 1] (by rfl) K4
  · replace hf := m14 c13
    refine MM.aload_n (i := 0) rfl rfl d_M_sums_16 rfl ?_
    refine MM.gR 9 26 tg_261 rq_9_35 rfl lays_9 ww_1393 d_M_sums_17 rfl ?_
    refine MM.iload_n (i := 1) rfl rfl d_M_sums_20 rfl ?_
    obtain ⟨k9, e10, hf⟩ := mm_bind hf
    refine MM.gI e10 al_287 d_M_sums_21 rfl ?_
    refine MM.aload_n (i := 0) rfl rfl d_M_sums_22 rfl ?_
    refine MM.gR 9 28 tg_261 rq_9_37 rfl lays_9 ww_1395 d_M_sums_23 rfl ?_
    refine MM.iload_n (i := 1) rfl rfl d_M_sums_26 rfl ?_
    obtain ⟨k11, e12, hf⟩ := mm_bind hf
    refine MM.gI e12 al_289 d_M_sums_27 rfl ?_
    refine MM.isub d_M_sums_28 rfl ?_
    refine MM.goto (tgt := 45) d_M_sums_29 rfl ?_
    obtain rfl := Option.some.inj hf
    exact MM.sub [0, 1] (by rfl) K4
theorem d_M_tests_0 : decode cX12_tests 0 = .ok (.aload_n 0, 1) := by decide +kernel
theorem d_M_tests_1 : decode cX12_tests 1 = .ok (.iload_n 1, 1) := by decide +kernel
theorem d_M_tests_2 : decode cX12_tests 2 = .ok (.invokevirtual 253, 3) := by decide +kernel
theorem d_M_tests_5 : decode cX12_tests 5 = .ok (.aload_n 0, 1) := by decide +kernel
theorem d_M_tests_6 : decode cX12_tests 6 = .ok (.getfield 87, 3) := by decide +kernel
theorem d_M_tests_9 : decode cX12_tests 9 = .ok (.iload_n 1, 1) := by decide +kernel
theorem d_M_tests_10 : decode cX12_tests 10 = .ok (.iaload, 1) := by decide +kernel
theorem d_M_tests_11 : decode cX12_tests 11 = .ok (.istore_n 2, 1) := by decide +kernel
theorem d_M_tests_12 : decode cX12_tests 12 = .ok (.aload_n 0, 1) := by decide +kernel
theorem d_M_tests_13 : decode cX12_tests 13 = .ok (.getfield 84, 3) := by decide +kernel
theorem d_M_tests_16 : decode cX12_tests 16 = .ok (.iload_n 1, 1) := by decide +kernel
theorem d_M_tests_17 : decode cX12_tests 17 = .ok (.iaload, 1) := by decide +kernel
theorem d_M_tests_18 : decode cX12_tests 18 = .ok (.bipush 24, 2) := by decide +kernel
theorem d_M_tests_20 : decode cX12_tests 20 = .ok (.if_icmp .ne 24, 3) := by decide +kernel
theorem d_M_tests_23 : decode cX12_tests 23 = .ok (.aload_n 0, 1) := by decide +kernel
theorem d_M_tests_24 : decode cX12_tests 24 = .ok (.getfield 81, 3) := by decide +kernel
theorem d_M_tests_27 : decode cX12_tests 27 = .ok (.iload_n 1, 1) := by decide +kernel
theorem d_M_tests_28 : decode cX12_tests 28 = .ok (.iaload, 1) := by decide +kernel
theorem d_M_tests_29 : decode cX12_tests 29 = .ok (.aload_n 0, 1) := by decide +kernel
theorem d_M_tests_30 : decode cX12_tests 30 = .ok (.getfield 87, 3) := by decide +kernel
theorem d_M_tests_33 : decode cX12_tests 33 = .ok (.iload_n 1, 1) := by decide +kernel
theorem d_M_tests_34 : decode cX12_tests 34 = .ok (.iaload, 1) := by decide +kernel
theorem d_M_tests_35 : decode cX12_tests 35 = .ok (.if_icmp .ge 7, 3) := by decide +kernel
theorem d_M_tests_38 : decode cX12_tests 38 = .ok (.iconst 1, 1) := by decide +kernel
theorem d_M_tests_39 : decode cX12_tests 39 = .ok (.goto 4, 3) := by decide +kernel
theorem d_M_tests_42 : decode cX12_tests 42 = .ok (.iconst 0, 1) := by decide +kernel
theorem d_M_tests_43 : decode cX12_tests 43 = .ok (.istore_n 2, 1) := by decide +kernel
theorem d_M_tests_44 : decode cX12_tests 44 = .ok (.aload_n 0, 1) := by decide +kernel
theorem d_M_tests_45 : decode cX12_tests 45 = .ok (.getfield 84, 3) := by decide +kernel
theorem d_M_tests_48 : decode cX12_tests 48 = .ok (.iload_n 1, 1) := by decide +kernel
theorem d_M_tests_49 : decode cX12_tests 49 = .ok (.iaload, 1) := by decide +kernel
theorem d_M_tests_50 : decode cX12_tests 50 = .ok (.bipush 25, 2) := by decide +kernel
theorem d_M_tests_52 : decode cX12_tests 52 = .ok (.if_icmp .ne 24, 3) := by decide +kernel
theorem d_M_tests_55 : decode cX12_tests 55 = .ok (.aload_n 0, 1) := by decide +kernel
theorem d_M_tests_56 : decode cX12_tests 56 = .ok (.getfield 81, 3) := by decide +kernel
theorem d_M_tests_59 : decode cX12_tests 59 = .ok (.iload_n 1, 1) := by decide +kernel
theorem d_M_tests_60 : decode cX12_tests 60 = .ok (.iaload, 1) := by decide +kernel
theorem d_M_tests_61 : decode cX12_tests 61 = .ok (.aload_n 0, 1) := by decide +kernel
theorem d_M_tests_62 : decode cX12_tests 62 = .ok (.getfield 87, 3) := by decide +kernel
theorem d_M_tests_65 : decode cX12_tests 65 = .ok (.iload_n 1, 1) := by decide +kernel
theorem d_M_tests_66 : decode cX12_tests 66 = .ok (.iaload, 1) := by decide +kernel
theorem d_M_tests_67 : decode cX12_tests 67 = .ok (.if_icmp .ne 7, 3) := by decide +kernel
theorem d_M_tests_70 : decode cX12_tests 70 = .ok (.iconst 1, 1) := by decide +kernel
theorem d_M_tests_71 : decode cX12_tests 71 = .ok (.goto 4, 3) := by decide +kernel
theorem d_M_tests_74 : decode cX12_tests 74 = .ok (.iconst 0, 1) := by decide +kernel
theorem d_M_tests_75 : decode cX12_tests 75 = .ok (.istore_n 2, 1) := by decide +kernel
theorem d_M_tests_76 : decode cX12_tests 76 = .ok (.aload_n 0, 1) := by decide +kernel
theorem d_M_tests_77 : decode cX12_tests 77 = .ok (.getfield 78, 3) := by decide +kernel
theorem d_M_tests_80 : decode cX12_tests 80 = .ok (.iload_n 1, 1) := by decide +kernel
theorem d_M_tests_81 : decode cX12_tests 81 = .ok (.iaload, 1) := by decide +kernel
theorem d_M_tests_82 : decode cX12_tests 82 = .ok (.bipush 26, 2) := by decide +kernel
theorem d_M_tests_84 : decode cX12_tests 84 = .ok (.if_icmp .ne 22, 3) := by decide +kernel
theorem d_M_tests_87 : decode cX12_tests 87 = .ok (.aload_n 0, 1) := by decide +kernel
theorem d_M_tests_88 : decode cX12_tests 88 = .ok (.getfield 75, 3) := by decide +kernel
theorem d_M_tests_91 : decode cX12_tests 91 = .ok (.iload_n 1, 1) := by decide +kernel
theorem d_M_tests_92 : decode cX12_tests 92 = .ok (.iaload, 1) := by decide +kernel
theorem d_M_tests_93 : decode cX12_tests 93 = .ok (.ifCond .eq 11, 3) := by decide +kernel
theorem d_M_tests_96 : decode cX12_tests 96 = .ok (.iload_n 2, 1) := by decide +kernel
theorem d_M_tests_97 : decode cX12_tests 97 = .ok (.ifCond .eq 7, 3) := by decide +kernel
theorem d_M_tests_100 : decode cX12_tests 100 = .ok (.iconst 1, 1) := by decide +kernel
theorem d_M_tests_101 : decode cX12_tests 101 = .ok (.goto 4, 3) := by decide +kernel
theorem d_M_tests_104 : decode cX12_tests 104 = .ok (.iconst 0, 1) := by decide +kernel
theorem d_M_tests_105 : decode cX12_tests 105 = .ok (.istore_n 2, 1) := by decide +kernel
theorem d_M_tests_106 : decode cX12_tests 106 = .ok (.aload_n 0, 1) := by decide +kernel
theorem d_M_tests_107 : decode cX12_tests 107 = .ok (.getfield 78, 3) := by decide +kernel
theorem d_M_tests_110 : decode cX12_tests 110 = .ok (.iload_n 1, 1) := by decide +kernel
theorem d_M_tests_111 : decode cX12_tests 111 = .ok (.iaload, 1) := by decide +kernel
theorem d_M_tests_112 : decode cX12_tests 112 = .ok (.bipush 27, 2) := by decide +kernel
theorem d_M_tests_114 : decode cX12_tests 114 = .ok (.if_icmp .ne 22, 3) := by decide +kernel
theorem d_M_tests_117 : decode cX12_tests 117 = .ok (.aload_n 0, 1) := by decide +kernel
theorem d_M_tests_118 : decode cX12_tests 118 = .ok (.getfield 75, 3) := by decide +kernel
theorem d_M_tests_121 : decode cX12_tests 121 = .ok (.iload_n 1, 1) := by decide +kernel
theorem d_M_tests_122 : decode cX12_tests 122 = .ok (.iaload, 1) := by decide +kernel
theorem d_M_tests_123 : decode cX12_tests 123 = .ok (.ifCond .ne 7, 3) := by decide +kernel
theorem d_M_tests_126 : decode cX12_tests 126 = .ok (.iload_n 2, 1) := by decide +kernel
theorem d_M_tests_127 : decode cX12_tests 127 = .ok (.ifCond .eq 7, 3) := by decide +kernel
theorem d_M_tests_130 : decode cX12_tests 130 = .ok (.iconst 1, 1) := by decide +kernel
theorem d_M_tests_131 : decode cX12_tests 131 = .ok (.goto 4, 3) := by decide +kernel
theorem d_M_tests_134 : decode cX12_tests 134 = .ok (.iconst 0, 1) := by decide +kernel
theorem d_M_tests_135 : decode cX12_tests 135 = .ok (.istore_n 2, 1) := by decide +kernel
theorem d_M_tests_136 : decode cX12_tests 136 = .ok (.aload_n 0, 1) := by decide +kernel
theorem d_M_tests_137 : decode cX12_tests 137 = .ok (.getfield 75, 3) := by decide +kernel
theorem d_M_tests_140 : decode cX12_tests 140 = .ok (.iload_n 1, 1) := by decide +kernel
theorem d_M_tests_141 : decode cX12_tests 141 = .ok (.iload_n 2, 1) := by decide +kernel
theorem d_M_tests_142 : decode cX12_tests 142 = .ok (.iastore, 1) := by decide +kernel
theorem d_M_tests_143 : decode cX12_tests 143 = .ok (.aload_n 0, 1) := by decide +kernel
theorem d_M_tests_144 : decode cX12_tests 144 = .ok (.getfield 84, 3) := by decide +kernel
theorem d_M_tests_147 : decode cX12_tests 147 = .ok (.iload_n 1, 1) := by decide +kernel
theorem d_M_tests_148 : decode cX12_tests 148 = .ok (.iconst 0, 1) := by decide +kernel
theorem d_M_tests_149 : decode cX12_tests 149 = .ok (.iastore, 1) := by decide +kernel
theorem d_M_tests_150 : decode cX12_tests 150 = .ok (.aload_n 0, 1) := by decide +kernel
theorem d_M_tests_151 : decode cX12_tests 151 = .ok (.getfield 87, 3) := by decide +kernel
theorem d_M_tests_154 : decode cX12_tests 154 = .ok (.iload_n 1, 1) := by decide +kernel
theorem d_M_tests_155 : decode cX12_tests 155 = .ok (.iconst 0, 1) := by decide +kernel
theorem d_M_tests_156 : decode cX12_tests 156 = .ok (.iastore, 1) := by decide +kernel
theorem d_M_tests_157 : decode cX12_tests 157 = .ok (.aload_n 0, 1) := by decide +kernel
theorem d_M_tests_158 : decode cX12_tests 158 = .ok (.getfield 90, 3) := by decide +kernel
theorem d_M_tests_161 : decode cX12_tests 161 = .ok (.iload_n 1, 1) := by decide +kernel
theorem d_M_tests_162 : decode cX12_tests 162 = .ok (.bipush 20, 2) := by decide +kernel
theorem d_M_tests_164 : decode cX12_tests 164 = .ok (.iastore, 1) := by decide +kernel
theorem d_M_tests_165 : decode cX12_tests 165 = .ok (.return_, 1) := by decide +kernel
noncomputable def f_M_tests (x1 : Int32) (h : mm_H) : Option mm_H := (f_M_sums x1 h).bind fun v2 => (mm_ix x1 7).bind fun k3 => mm_let (v2.1 287 k3) fun y5 => (mm_ix x1 7).bind fun k7 => (if (v2.1 286 k7) = 24 then ((mm_ix x1 7).bind fun k11 => (mm_ix x1 7).bind fun k13 => (if (v2.1 287 k13) ≤ (v2.1 285 k11) then (some 0) else (some 1) : Option Int32).bind fun j15 => some j15) else (some y5) : Option Int32).bind fun j9 => (mm_ix x1 7).bind fun k24 => (if (v2.1 286 k24) = 25 then ((mm_ix x1 7).bind fun k28 => (mm_ix x1 7).bind fun k30 => (if (v2.1 285 k28) = (v2.1 287 k30) then (some 1) else (some 0) : Option Int32).bind fun j32 => some j32) else (some j9) : Option Int32).bind fun j26 => (mm_ix x1 7).bind fun k41 => (if (v2.1 284 k41) = 26 then ((mm_ix x1 7).bind fun k45 => (if (v2.1 283 k45) = 0 then (some 0) else (if j26 = 0 then (some 0) else (some 1)) : Option Int32).bind fun j47 => some j47) else (some j26) : Option Int32).bind fun j43 => (mm_ix x1 7).bind fun k59 => (if (v2.1 284 k59) = 27 then ((mm_ix x1 7).bind fun k63 => (if (v2.1 283 k63) = 0 then (if j43 = 0 then (some 0) else (some 1)) else (some 1) : Option Int32).bind fun j65 => some j65) else (some j43) : Option Int32).bind fun j61 => (mm_ix x1 7).bind fun k77 => mm_let (mm_pI v2 283 k77 j61) fun h79 => (mm_ix x1 7).bind fun k81 => mm_let (mm_pI h79 286 k81 0) fun h83 => (mm_ix x1 7).bind fun k85 => mm_let (mm_pI h83 287 k85 0) fun h87 => (mm_ix x1 7).bind fun k89 => mm_let (mm_pI h87 288 k89 20) fun h91 => some h91
theorem T_M_tests (V : mm_V) (l : Launch) (x1 : Int32) (h : mm_H) (r : mm_H) (hf : f_M_tests x1 h = some r) : MT V l Y_M_tests 2 [.ref 261, .int x1] (fun r1 h1 => r1 = none ∧ h1 = r) h := by
  unfold f_M_tests at hf
  refine MT.intro (pn_M rfl) [(0, .ref 261), (1, .int x1)] rfl (Nat.le_of_ble_eq_true rfl) ?_
  generalize hZ : mm_Z V _ = Z0
  refine MM.aload_n (i := 0) rfl rfl d_M_tests_0 rfl ?_
  refine MM.iload_n (i := 1) rfl rfl d_M_tests_1 rfl ?_
  obtain ⟨v2, e1, hf⟩ := mm_bind hf
  refine MM.callV0 (T_M_sums V l x1 h _ e1) (fun _ _ q => q) cal_M_sums rfl tg_261 ct_9 ww_79 ww_1804 ww_1802 (by decide) (by simp [Value.category]) d_M_tests_2 rfl ⟨rfl, rfl⟩ rfl ?_
  refine MM.aload_n (i := 0) rfl rfl d_M_tests_5 rfl ?_
  refine MM.gR 9 26 tg_261 rq_9_35 rfl lays_9 ww_1393 d_M_tests_6 rfl ?_
  refine MM.iload_n (i := 1) rfl rfl d_M_tests_9 rfl ?_
  obtain ⟨k3, e4, hf⟩ := mm_bind hf
  refine MM.gI e4 al_287 d_M_tests_10 rfl ?_
  obtain ⟨y5, e6, hf⟩ := mm_letE hf
  refine MM.istore_n (i := 2) (lv' := [(2, .int y5), (0, .ref 261), (1, .int x1)]) e6 rfl (Nat.le_of_ble_eq_true rfl) rfl d_M_tests_11 rfl ?_
  refine MM.aload_n (i := 0) rfl rfl d_M_tests_12 rfl ?_
  refine MM.gR 9 25 tg_261 rq_9_34 rfl lays_9 ww_1392 d_M_tests_13 rfl ?_
  refine MM.iload_n (i := 1) rfl rfl d_M_tests_16 rfl ?_
  obtain ⟨k7, e8, hf⟩ := mm_bind hf
  refine MM.gI e8 al_286 d_M_tests_17 rfl ?_
  refine MM.bipush bp_24 d_M_tests_18 rfl ?_
  obtain ⟨j9, e96, hf⟩ := mm_bind hf
  have K10 : MM V l Y_M_tests 2 0 0 Z0 44 [(0, .ref 261), (1, .int x1), (2, .int j9)] [] v2 := by
    refine MM.aload_n (i := 0) rfl rfl d_M_tests_44 rfl ?_
    refine MM.gR 9 25 tg_261 rq_9_34 rfl lays_9 ww_1392 d_M_tests_45 rfl ?_
    refine MM.iload_n (i := 1) rfl rfl d_M_tests_48 rfl ?_
    obtain ⟨k24, e25, hf⟩ := mm_bind hf
    refine MM.gI e25 al_286 d_M_tests_49 rfl ?_
    refine MM.bipush bp_25 d_M_tests_50 rfl ?_
    obtain ⟨j26, e95, hf⟩ := mm_bind hf
    have K27 : MM V l Y_M_tests 2 0 0 Z0 76 [(0, .ref 261), (1, .int x1), (2, .int j26)] [] v2 := by
      refine MM.aload_n (i := 0) rfl rfl d_M_tests_76 rfl ?_
      refine MM.gR 9 23 tg_261 rq_9_32 rfl lays_9 ww_1390 d_M_tests_77 rfl ?_
      refine MM.iload_n (i := 1) rfl rfl d_M_tests_80 rfl ?_
      obtain ⟨k41, e42, hf⟩ := mm_bind hf
      refine MM.gI e42 al_284 d_M_tests_81 rfl ?_
      refine MM.bipush bp_26 d_M_tests_82 rfl ?_
      obtain ⟨j43, e94, hf⟩ := mm_bind hf
      have K44 : MM V l Y_M_tests 2 0 0 Z0 106 [(0, .ref 261), (1, .int x1), (2, .int j43)] [] v2 := by
        refine MM.aload_n (i := 0) rfl rfl d_M_tests_106 rfl ?_
        refine MM.gR 9 23 tg_261 rq_9_32 rfl lays_9 ww_1390 d_M_tests_107 rfl ?_
        refine MM.iload_n (i := 1) rfl rfl d_M_tests_110 rfl ?_
        obtain ⟨k59, e60, hf⟩ := mm_bind hf
        refine MM.gI e60 al_284 d_M_tests_111 rfl ?_
        refine MM.bipush bp_27 d_M_tests_112 rfl ?_
        obtain ⟨j61, e93, hf⟩ := mm_bind hf
        have K62 : MM V l Y_M_tests 2 0 0 Z0 136 [(0, .ref 261), (1, .int x1), (2, .int j61)] [] v2 := by
          refine MM.aload_n (i := 0) rfl rfl d_M_tests_136 rfl ?_
          refine MM.gR 9 22 tg_261 rq_9_31 rfl lays_9 ww_1389 d_M_tests_137 rfl ?_
          refine MM.iload_n (i := 1) rfl rfl d_M_tests_140 rfl ?_
          refine MM.iload_n (i := 2) rfl rfl d_M_tests_141 rfl ?_
          obtain ⟨k77, e78, hf⟩ := mm_bind hf
          obtain ⟨h79, e80, hf⟩ := mm_letE hf
          refine MM.sI e78 e80 al_283 d_M_tests_142 rfl ?_
          refine MM.aload_n (i := 0) rfl rfl d_M_tests_143 rfl ?_
          refine MM.gR 9 25 tg_261 rq_9_34 rfl lays_9 ww_1392 d_M_tests_144 rfl ?_
          refine MM.iload_n (i := 1) rfl rfl d_M_tests_147 rfl ?_
          refine MM.iconst ic_0 d_M_tests_148 rfl ?_
          obtain ⟨k81, e82, hf⟩ := mm_bind hf
          obtain ⟨h83, e84, hf⟩ := mm_letE hf
          refine MM.sI e82 e84 al_286 d_M_tests_149 rfl ?_
          refine MM.aload_n (i := 0) rfl rfl d_M_tests_150 rfl ?_
          refine MM.gR 9 26 tg_261 rq_9_35 rfl lays_9 ww_1393 d_M_tests_151 rfl ?_
          refine MM.iload_n (i := 1) rfl rfl d_M_tests_154 rfl ?_
          refine MM.iconst ic_0 d_M_tests_155 rfl ?_
          obtain ⟨k85, e86, hf⟩ := mm_bind hf
          obtain ⟨h87, e88, hf⟩ := mm_letE hf
          refine MM.sI e86 e88 al_287 d_M_tests_156 rfl ?_
          refine MM.aload_n (i := 0) rfl rfl d_M_tests_157 rfl ?_
          refine MM.gR 9 27 tg_261 rq_9_36 rfl lays_9 ww_1394 d_M_tests_158 rfl ?_
          refine MM.iload_n (i := 1) rfl rfl d_M_tests_161 rfl ?_
          refine MM.bipush bp_20 d_M_tests_162 rfl ?_
          obtain ⟨k89, e90, hf⟩ := mm_bind hf
          obtain ⟨h91, e92, hf⟩ := mm_letE hf
          refine MM.sI e90 e92 al_288 d_M_tests_164 rfl ?_
          obtain rfl := Option.some.inj hf
          subst hZ
          exact MM.vret rfl d_M_tests_165 ⟨rfl, rfl⟩
        clear hf
        have hf := e93
        clear e93
        obtain ⟨m75, m76⟩ := mm_ifE hf
        refine MM.icmp_ne (tgt := 136) d_M_tests_114 rfl rfl (fun c74 => ?_) (fun c74 => ?_)
        · replace hf := m76 c74
          obtain rfl := Option.some.inj hf
          exact MM.sub [0, 1, 2] (by rfl) K62
        · replace hf := m75 c74
          refine MM.aload_n (i := 0) rfl rfl d_M_tests_117 rfl ?_
          refine MM.gR 9 22 tg_261 rq_9_31 rfl lays_9 ww_1389 d_M_tests_118 rfl ?_
          refine MM.iload_n (i := 1) rfl rfl d_M_tests_121 rfl ?_
          obtain ⟨k63, e64, hf⟩ := mm_bind hf
          refine MM.gI e64 al_283 d_M_tests_122 rfl ?_
          obtain ⟨j65, e73, hf⟩ := mm_bind hf
          have K66 : MM V l Y_M_tests 2 0 0 Z0 135 [(0, .ref 261), (1, .int x1)] [.int j65] v2 := by
            refine MM.istore_n (i := 2) (lv' := [(2, .int j65), (0, .ref 261), (1, .int x1)]) rfl rfl (Nat.le_of_ble_eq_true rfl) rfl d_M_tests_135 rfl ?_
            obtain rfl := Option.some.inj hf
            exact MM.sub [1, 2, 0] (by rfl) K62
          clear hf
          have hf := e73
          clear e73
          obtain ⟨m71, m72⟩ := mm_ifE hf
          refine MM.if_ne (tgt := 130) d_M_tests_123 rfl rfl (fun c70 => ?_) (fun c70 => ?_)
          · replace hf := m72 c70
            refine MM.iconst ic_1 d_M_tests_130 rfl ?_
            refine MM.goto (tgt := 135) d_M_tests_131 rfl ?_
            obtain rfl := Option.some.inj hf
            exact MM.sub [0, 1] (by rfl) K66
          · replace hf := m71 c70
            refine MM.iload_n (i := 2) rfl rfl d_M_tests_126 rfl ?_
            obtain ⟨m68, m69⟩ := mm_ifE hf
            refine MM.if_eq (tgt := 134) d_M_tests_127 rfl rfl (fun c67 => ?_) (fun c67 => ?_)
            · replace hf := m68 c67
              refine MM.iconst ic_0 d_M_tests_134 rfl ?_
              obtain rfl := Option.some.inj hf
              exact MM.sub [0, 1] (by rfl) K66
            · replace hf := m69 c67
              refine MM.iconst ic_1 d_M_tests_130 rfl ?_
              refine MM.goto (tgt := 135) d_M_tests_131 rfl ?_
              obtain rfl := Option.some.inj hf
              exact MM.sub [0, 1] (by rfl) K66
      clear hf
      have hf := e94
      clear e94
      obtain ⟨m57, m58⟩ := mm_ifE hf
      refine MM.icmp_ne (tgt := 106) d_M_tests_84 rfl rfl (fun c56 => ?_) (fun c56 => ?_)
      · replace hf := m58 c56
        obtain rfl := Option.some.inj hf
        exact MM.sub [0, 1, 2] (by rfl) K44
      · replace hf := m57 c56
        refine MM.aload_n (i := 0) rfl rfl d_M_tests_87 rfl ?_
        refine MM.gR 9 22 tg_261 rq_9_31 rfl lays_9 ww_1389 d_M_tests_88 rfl ?_
        refine MM.iload_n (i := 1) rfl rfl d_M_tests_91 rfl ?_
        obtain ⟨k45, e46, hf⟩ := mm_bind hf
        refine MM.gI e46 al_283 d_M_tests_92 rfl ?_
        obtain ⟨j47, e55, hf⟩ := mm_bind hf
        have K48 : MM V l Y_M_tests 2 0 0 Z0 105 [(0, .ref 261), (1, .int x1)] [.int j47] v2 := by
          refine MM.istore_n (i := 2) (lv' := [(2, .int j47), (0, .ref 261), (1, .int x1)]) rfl rfl (Nat.le_of_ble_eq_true rfl) rfl d_M_tests_105 rfl ?_
          obtain rfl := Option.some.inj hf
          exact MM.sub [1, 2, 0] (by rfl) K44
        clear hf
        have hf := e55
        clear e55
        obtain ⟨m53, m54⟩ := mm_ifE hf
        refine MM.if_eq (tgt := 104) d_M_tests_93 rfl rfl (fun c52 => ?_) (fun c52 => ?_)
        · replace hf := m53 c52
          refine MM.iconst ic_0 d_M_tests_104 rfl ?_
          obtain rfl := Option.some.inj hf
          exact MM.sub [0, 1] (by rfl) K48
        · replace hf := m54 c52
          refine MM.iload_n (i := 2) rfl rfl d_M_tests_96 rfl ?_
          obtain ⟨m50, m51⟩ := mm_ifE hf
          refine MM.if_eq (tgt := 104) d_M_tests_97 rfl rfl (fun c49 => ?_) (fun c49 => ?_)
          · replace hf := m50 c49
            refine MM.iconst ic_0 d_M_tests_104 rfl ?_
            obtain rfl := Option.some.inj hf
            exact MM.sub [0, 1] (by rfl) K48
          · replace hf := m51 c49
            refine MM.iconst ic_1 d_M_tests_100 rfl ?_
            refine MM.goto (tgt := 105) d_M_tests_101 rfl ?_
            obtain rfl := Option.some.inj hf
            exact MM.sub [0, 1] (by rfl) K48
    clear hf
    have hf := e95
    clear e95
    obtain ⟨m39, m40⟩ := mm_ifE hf
    refine MM.icmp_ne (tgt := 76) d_M_tests_52 rfl rfl (fun c38 => ?_) (fun c38 => ?_)
    · replace hf := m40 c38
      obtain rfl := Option.some.inj hf
      exact MM.sub [0, 1, 2] (by rfl) K27
    · replace hf := m39 c38
      refine MM.aload_n (i := 0) rfl rfl d_M_tests_55 rfl ?_
      refine MM.gR 9 24 tg_261 rq_9_33 rfl lays_9 ww_1391 d_M_tests_56 rfl ?_
      refine MM.iload_n (i := 1) rfl rfl d_M_tests_59 rfl ?_
      obtain ⟨k28, e29, hf⟩ := mm_bind hf
      refine MM.gI e29 al_285 d_M_tests_60 rfl ?_
      refine MM.aload_n (i := 0) rfl rfl d_M_tests_61 rfl ?_
      refine MM.gR 9 26 tg_261 rq_9_35 rfl lays_9 ww_1393 d_M_tests_62 rfl ?_
      refine MM.iload_n (i := 1) rfl rfl d_M_tests_65 rfl ?_
      obtain ⟨k30, e31, hf⟩ := mm_bind hf
      refine MM.gI e31 al_287 d_M_tests_66 rfl ?_
      obtain ⟨j32, e37, hf⟩ := mm_bind hf
      have K33 : MM V l Y_M_tests 2 0 0 Z0 75 [(0, .ref 261), (1, .int x1)] [.int j32] v2 := by
        refine MM.istore_n (i := 2) (lv' := [(2, .int j32), (0, .ref 261), (1, .int x1)]) rfl rfl (Nat.le_of_ble_eq_true rfl) rfl d_M_tests_75 rfl ?_
        obtain rfl := Option.some.inj hf
        exact MM.sub [1, 2, 0] (by rfl) K27
      clear hf
      have hf := e37
      clear e37
      obtain ⟨m35, m36⟩ := mm_ifE hf
      refine MM.icmp_ne (tgt := 74) d_M_tests_67 rfl rfl (fun c34 => ?_) (fun c34 => ?_)
      · replace hf := m36 c34
        refine MM.iconst ic_0 d_M_tests_74 rfl ?_
        obtain rfl := Option.some.inj hf
        exact MM.sub [0, 1] (by rfl) K33
      · replace hf := m35 c34
        refine MM.iconst ic_1 d_M_tests_70 rfl ?_
        refine MM.goto (tgt := 75) d_M_tests_71 rfl ?_
        obtain rfl := Option.some.inj hf
        exact MM.sub [0, 1] (by rfl) K33
  clear hf
  have hf := e96
  clear e96
  obtain ⟨m22, m23⟩ := mm_ifE hf
  refine MM.icmp_ne (tgt := 44) d_M_tests_20 rfl rfl (fun c21 => ?_) (fun c21 => ?_)
  · replace hf := m23 c21
    obtain rfl := Option.some.inj hf
    exact MM.sub [1, 2, 0] (by rfl) K10
  · replace hf := m22 c21
    refine MM.aload_n (i := 0) rfl rfl d_M_tests_23 rfl ?_
    refine MM.gR 9 24 tg_261 rq_9_33 rfl lays_9 ww_1391 d_M_tests_24 rfl ?_
    refine MM.iload_n (i := 1) rfl rfl d_M_tests_27 rfl ?_
    obtain ⟨k11, e12, hf⟩ := mm_bind hf
    refine MM.gI e12 al_285 d_M_tests_28 rfl ?_
    refine MM.aload_n (i := 0) rfl rfl d_M_tests_29 rfl ?_
    refine MM.gR 9 26 tg_261 rq_9_35 rfl lays_9 ww_1393 d_M_tests_30 rfl ?_
    refine MM.iload_n (i := 1) rfl rfl d_M_tests_33 rfl ?_
    obtain ⟨k13, e14, hf⟩ := mm_bind hf
    refine MM.gI e14 al_287 d_M_tests_34 rfl ?_
    obtain ⟨j15, e20, hf⟩ := mm_bind hf
    have K16 : MM V l Y_M_tests 2 0 0 Z0 43 [(0, .ref 261), (1, .int x1)] [.int j15] v2 := by
      refine MM.istore_n (i := 2) (lv' := [(2, .int j15), (0, .ref 261), (1, .int x1)]) rfl rfl (Nat.le_of_ble_eq_true rfl) rfl d_M_tests_43 rfl ?_
      obtain rfl := Option.some.inj hf
      exact MM.sub [1, 2, 0] (by rfl) K10
    clear hf
    have hf := e20
    clear e20
    obtain ⟨m18, m19⟩ := mm_ifE hf
    refine MM.icmp_ge (tgt := 42) d_M_tests_35 rfl rfl (fun c17 => ?_) (fun c17 => ?_)
    · replace hf := m18 c17
      refine MM.iconst ic_0 d_M_tests_42 rfl ?_
      obtain rfl := Option.some.inj hf
      exact MM.sub [1, 2] (by rfl) K16
    · replace hf := m19 c17
      refine MM.iconst ic_1 d_M_tests_38 rfl ?_
      refine MM.goto (tgt := 43) d_M_tests_39 rfl ?_
      obtain rfl := Option.some.inj hf
      exact MM.sub [1, 2] (by rfl) K16
theorem d_M_worked_0 : decode cX12_worked 0 = .ok (.iconst 0, 1) := by decide +kernel
theorem d_M_worked_1 : decode cX12_worked 1 = .ok (.istore_n 2, 1) := by decide +kernel
theorem d_M_worked_2 : decode cX12_worked 2 = .ok (.aload_n 0, 1) := by decide +kernel
theorem d_M_worked_3 : decode cX12_worked 3 = .ok (.iconst 0, 1) := by decide +kernel
theorem d_M_worked_4 : decode cX12_worked 4 = .ok (.invokevirtual 256, 3) := by decide +kernel
theorem d_M_worked_7 : decode cX12_worked 7 = .ok (.aload_n 0, 1) := by decide +kernel
theorem d_M_worked_8 : decode cX12_worked 8 = .ok (.getfield 59, 3) := by decide +kernel
theorem d_M_worked_11 : decode cX12_worked 11 = .ok (.iload_n 1, 1) := by decide +kernel
theorem d_M_worked_12 : decode cX12_worked 12 = .ok (.iaload, 1) := by decide +kernel
theorem d_M_worked_13 : decode cX12_worked 13 = .ok (.istore_n 3, 1) := by decide +kernel
theorem d_M_worked_14 : decode cX12_worked 14 = .ok (.iload_n 3, 1) := by decide +kernel
theorem d_M_worked_15 : decode cX12_worked 15 = .ok (.aload_n 0, 1) := by decide +kernel
theorem d_M_worked_16 : decode cX12_worked 16 = .ok (.getfield 62, 3) := by decide +kernel
theorem d_M_worked_19 : decode cX12_worked 19 = .ok (.iload_n 1, 1) := by decide +kernel
theorem d_M_worked_20 : decode cX12_worked 20 = .ok (.iaload, 1) := by decide +kernel
theorem d_M_worked_21 : decode cX12_worked 21 = .ok (.if_icmp .ge 314, 3) := by decide +kernel
theorem d_M_worked_24 : decode cX12_worked 24 = .ok (.aload_n 0, 1) := by decide +kernel
theorem d_M_worked_25 : decode cX12_worked 25 = .ok (.getfield 65, 3) := by decide +kernel
theorem d_M_worked_28 : decode cX12_worked 28 = .ok (.iload_n 3, 1) := by decide +kernel
theorem d_M_worked_29 : decode cX12_worked 29 = .ok (.iaload, 1) := by decide +kernel
theorem d_M_worked_30 : decode cX12_worked 30 = .ok (.istore 4, 2) := by decide +kernel
theorem d_M_worked_32 : decode cX12_worked 32 = .ok (.iload 4, 2) := by decide +kernel
theorem d_M_worked_34 : decode cX12_worked 34 = .ok (.bipush 28, 2) := by decide +kernel
theorem d_M_worked_36 : decode cX12_worked 36 = .ok (.if_icmp .eq 10, 3) := by decide +kernel
theorem d_M_worked_39 : decode cX12_worked 39 = .ok (.iload 4, 2) := by decide +kernel
theorem d_M_worked_41 : decode cX12_worked 41 = .ok (.bipush 30, 2) := by decide +kernel
theorem d_M_worked_43 : decode cX12_worked 43 = .ok (.if_icmp .ne 32, 3) := by decide +kernel
theorem d_M_worked_46 : decode cX12_worked 46 = .ok (.iinc 2 1, 3) := by decide +kernel
theorem d_M_worked_49 : decode cX12_worked 49 = .ok (.aload_n 0, 1) := by decide +kernel
theorem d_M_worked_50 : decode cX12_worked 50 = .ok (.getfield 99, 3) := by decide +kernel
theorem d_M_worked_53 : decode cX12_worked 53 = .ok (.iload_n 2, 1) := by decide +kernel
theorem d_M_worked_54 : decode cX12_worked 54 = .ok (.iload 4, 2) := by decide +kernel
theorem d_M_worked_56 : decode cX12_worked 56 = .ok (.bipush 30, 2) := by decide +kernel
theorem d_M_worked_58 : decode cX12_worked 58 = .ok (.if_icmp .ne 7, 3) := by decide +kernel
theorem d_M_worked_61 : decode cX12_worked 61 = .ok (.iconst 1, 1) := by decide +kernel
theorem d_M_worked_62 : decode cX12_worked 62 = .ok (.goto 4, 3) := by decide +kernel
theorem d_M_worked_65 : decode cX12_worked 65 = .ok (.iconst 0, 1) := by decide +kernel
theorem d_M_worked_66 : decode cX12_worked 66 = .ok (.iastore, 1) := by decide +kernel
theorem d_M_worked_67 : decode cX12_worked 67 = .ok (.aload_n 0, 1) := by decide +kernel
theorem d_M_worked_68 : decode cX12_worked 68 = .ok (.iload_n 2, 1) := by decide +kernel
theorem d_M_worked_69 : decode cX12_worked 69 = .ok (.invokevirtual 256, 3) := by decide +kernel
theorem d_M_worked_72 : decode cX12_worked 72 = .ok (.goto 257, 3) := by decide +kernel
theorem d_M_worked_75 : decode cX12_worked 75 = .ok (.iload 4, 2) := by decide +kernel
theorem d_M_worked_77 : decode cX12_worked 77 = .ok (.bipush 20, 2) := by decide +kernel
theorem d_M_worked_79 : decode cX12_worked 79 = .ok (.if_icmp .eq 10, 3) := by decide +kernel
theorem d_M_worked_82 : decode cX12_worked 82 = .ok (.iload 4, 2) := by decide +kernel
theorem d_M_worked_84 : decode cX12_worked 84 = .ok (.bipush 21, 2) := by decide +kernel
theorem d_M_worked_86 : decode cX12_worked 86 = .ok (.if_icmp .ne 19, 3) := by decide +kernel
theorem d_M_worked_89 : decode cX12_worked 89 = .ok (.aload_n 0, 1) := by decide +kernel
theorem d_M_worked_90 : decode cX12_worked 90 = .ok (.iload_n 2, 1) := by decide +kernel
theorem d_M_worked_91 : decode cX12_worked 91 = .ok (.invokevirtual 253, 3) := by decide +kernel
theorem d_M_worked_94 : decode cX12_worked 94 = .ok (.aload_n 0, 1) := by decide +kernel
theorem d_M_worked_95 : decode cX12_worked 95 = .ok (.getfield 90, 3) := by decide +kernel
theorem d_M_worked_98 : decode cX12_worked 98 = .ok (.iload_n 2, 1) := by decide +kernel
theorem d_M_worked_99 : decode cX12_worked 99 = .ok (.iload 4, 2) := by decide +kernel
theorem d_M_worked_101 : decode cX12_worked 101 = .ok (.iastore, 1) := by decide +kernel
theorem d_M_worked_102 : decode cX12_worked 102 = .ok (.goto 227, 3) := by decide +kernel
theorem d_M_worked_105 : decode cX12_worked 105 = .ok (.iload 4, 2) := by decide +kernel
theorem d_M_worked_107 : decode cX12_worked 107 = .ok (.bipush 22, 2) := by decide +kernel
theorem d_M_worked_109 : decode cX12_worked 109 = .ok (.if_icmp .ne 14, 3) := by decide +kernel
theorem d_M_worked_112 : decode cX12_worked 112 = .ok (.aload_n 0, 1) := by decide +kernel
theorem d_M_worked_113 : decode cX12_worked 113 = .ok (.getfield 96, 3) := by decide +kernel
theorem d_M_worked_116 : decode cX12_worked 116 = .ok (.iload_n 2, 1) := by decide +kernel
theorem d_M_worked_117 : decode cX12_worked 117 = .ok (.iload 4, 2) := by decide +kernel
theorem d_M_worked_119 : decode cX12_worked 119 = .ok (.iastore, 1) := by decide +kernel
theorem d_M_worked_120 : decode cX12_worked 120 = .ok (.goto 209, 3) := by decide +kernel
theorem d_M_worked_123 : decode cX12_worked 123 = .ok (.iload 4, 2) := by decide +kernel
theorem d_M_worked_125 : decode cX12_worked 125 = .ok (.bipush 24, 2) := by decide +kernel
theorem d_M_worked_127 : decode cX12_worked 127 = .ok (.if_icmp .eq 10, 3) := by decide +kernel
theorem d_M_worked_130 : decode cX12_worked 130 = .ok (.iload 4, 2) := by decide +kernel
theorem d_M_worked_132 : decode cX12_worked 132 = .ok (.bipush 25, 2) := by decide +kernel
theorem d_M_worked_134 : decode cX12_worked 134 = .ok (.if_icmp .ne 46, 3) := by decide +kernel
theorem d_M_worked_137 : decode cX12_worked 137 = .ok (.aload_n 0, 1) := by decide +kernel
theorem d_M_worked_138 : decode cX12_worked 138 = .ok (.iload_n 2, 1) := by decide +kernel
theorem d_M_worked_139 : decode cX12_worked 139 = .ok (.invokevirtual 253, 3) := by decide +kernel
theorem d_M_worked_142 : decode cX12_worked 142 = .ok (.aload_n 0, 1) := by decide +kernel
theorem d_M_worked_143 : decode cX12_worked 143 = .ok (.getfield 81, 3) := by decide +kernel
theorem d_M_worked_146 : decode cX12_worked 146 = .ok (.iload_n 2, 1) := by decide +kernel
theorem d_M_worked_147 : decode cX12_worked 147 = .ok (.aload_n 0, 1) := by decide +kernel
theorem d_M_worked_148 : decode cX12_worked 148 = .ok (.getfield 87, 3) := by decide +kernel
theorem d_M_worked_151 : decode cX12_worked 151 = .ok (.iload_n 2, 1) := by decide +kernel
theorem d_M_worked_152 : decode cX12_worked 152 = .ok (.iaload, 1) := by decide +kernel
theorem d_M_worked_153 : decode cX12_worked 153 = .ok (.iastore, 1) := by decide +kernel
theorem d_M_worked_154 : decode cX12_worked 154 = .ok (.aload_n 0, 1) := by decide +kernel
theorem d_M_worked_155 : decode cX12_worked 155 = .ok (.getfield 84, 3) := by decide +kernel
theorem d_M_worked_158 : decode cX12_worked 158 = .ok (.iload_n 2, 1) := by decide +kernel
theorem d_M_worked_159 : decode cX12_worked 159 = .ok (.iload 4, 2) := by decide +kernel
theorem d_M_worked_161 : decode cX12_worked 161 = .ok (.iastore, 1) := by decide +kernel
theorem d_M_worked_162 : decode cX12_worked 162 = .ok (.aload_n 0, 1) := by decide +kernel
theorem d_M_worked_163 : decode cX12_worked 163 = .ok (.getfield 87, 3) := by decide +kernel
theorem d_M_worked_166 : decode cX12_worked 166 = .ok (.iload_n 2, 1) := by decide +kernel
theorem d_M_worked_167 : decode cX12_worked 167 = .ok (.iconst 0, 1) := by decide +kernel
theorem d_M_worked_168 : decode cX12_worked 168 = .ok (.iastore, 1) := by decide +kernel
theorem d_M_worked_169 : decode cX12_worked 169 = .ok (.aload_n 0, 1) := by decide +kernel
theorem d_M_worked_170 : decode cX12_worked 170 = .ok (.getfield 90, 3) := by decide +kernel
theorem d_M_worked_173 : decode cX12_worked 173 = .ok (.iload_n 2, 1) := by decide +kernel
theorem d_M_worked_174 : decode cX12_worked 174 = .ok (.bipush 20, 2) := by decide +kernel
theorem d_M_worked_176 : decode cX12_worked 176 = .ok (.iastore, 1) := by decide +kernel
theorem d_M_worked_177 : decode cX12_worked 177 = .ok (.goto 152, 3) := by decide +kernel
theorem d_M_worked_180 : decode cX12_worked 180 = .ok (.iload 4, 2) := by decide +kernel
theorem d_M_worked_182 : decode cX12_worked 182 = .ok (.bipush 26, 2) := by decide +kernel
theorem d_M_worked_184 : decode cX12_worked 184 = .ok (.if_icmp .eq 10, 3) := by decide +kernel
theorem d_M_worked_187 : decode cX12_worked 187 = .ok (.iload 4, 2) := by decide +kernel
theorem d_M_worked_189 : decode cX12_worked 189 = .ok (.bipush 27, 2) := by decide +kernel
theorem d_M_worked_191 : decode cX12_worked 191 = .ok (.if_icmp .ne 19, 3) := by decide +kernel
theorem d_M_worked_194 : decode cX12_worked 194 = .ok (.aload_n 0, 1) := by decide +kernel
theorem d_M_worked_195 : decode cX12_worked 195 = .ok (.iload_n 2, 1) := by decide +kernel
theorem d_M_worked_196 : decode cX12_worked 196 = .ok (.invokevirtual 259, 3) := by decide +kernel
theorem d_M_worked_199 : decode cX12_worked 199 = .ok (.aload_n 0, 1) := by decide +kernel
theorem d_M_worked_200 : decode cX12_worked 200 = .ok (.getfield 78, 3) := by decide +kernel
theorem d_M_worked_203 : decode cX12_worked 203 = .ok (.iload_n 2, 1) := by decide +kernel
theorem d_M_worked_204 : decode cX12_worked 204 = .ok (.iload 4, 2) := by decide +kernel
theorem d_M_worked_206 : decode cX12_worked 206 = .ok (.iastore, 1) := by decide +kernel
theorem d_M_worked_207 : decode cX12_worked 207 = .ok (.goto 122, 3) := by decide +kernel
theorem d_M_worked_210 : decode cX12_worked 210 = .ok (.iload 4, 2) := by decide +kernel
theorem d_M_worked_212 : decode cX12_worked 212 = .ok (.bipush 100, 2) := by decide +kernel
theorem d_M_worked_214 : decode cX12_worked 214 = .ok (.if_icmp .lt 11, 3) := by decide +kernel
theorem d_M_worked_217 : decode cX12_worked 217 = .ok (.iload 4, 2) := by decide +kernel
theorem d_M_worked_219 : decode cX12_worked 219 = .ok (.bipush 100, 2) := by decide +kernel
theorem d_M_worked_221 : decode cX12_worked 221 = .ok (.isub, 1) := by decide +kernel
theorem d_M_worked_222 : decode cX12_worked 222 = .ok (.goto 21, 3) := by decide +kernel
theorem d_M_worked_225 : decode cX12_worked 225 = .ok (.iload 4, 2) := by decide +kernel
theorem d_M_worked_227 : decode cX12_worked 227 = .ok (.bipush 20, 2) := by decide +kernel
theorem d_M_worked_229 : decode cX12_worked 229 = .ok (.if_icmp .ge 13, 3) := by decide +kernel
theorem d_M_worked_232 : decode cX12_worked 232 = .ok (.aload_n 0, 1) := by decide +kernel
theorem d_M_worked_233 : decode cX12_worked 233 = .ok (.getfield 102, 3) := by decide +kernel
theorem d_M_worked_236 : decode cX12_worked 236 = .ok (.iload 4, 2) := by decide +kernel
theorem d_M_worked_238 : decode cX12_worked 238 = .ok (.iaload, 1) := by decide +kernel
theorem d_M_worked_239 : decode cX12_worked 239 = .ok (.goto 4, 3) := by decide +kernel
theorem d_M_worked_242 : decode cX12_worked 242 = .ok (.iconst 0, 1) := by decide +kernel
theorem d_M_worked_243 : decode cX12_worked 243 = .ok (.istore 5, 2) := by decide +kernel
theorem d_M_worked_245 : decode cX12_worked 245 = .ok (.iload 4, 2) := by decide +kernel
theorem d_M_worked_247 : decode cX12_worked 247 = .ok (.bipush 29, 2) := by decide +kernel
theorem d_M_worked_249 : decode cX12_worked 249 = .ok (.if_icmp .ne 19, 3) := by decide +kernel
theorem d_M_worked_252 : decode cX12_worked 252 = .ok (.aload_n 0, 1) := by decide +kernel
theorem d_M_worked_253 : decode cX12_worked 253 = .ok (.iload_n 2, 1) := by decide +kernel
theorem d_M_worked_254 : decode cX12_worked 254 = .ok (.invokevirtual 259, 3) := by decide +kernel
theorem d_M_worked_257 : decode cX12_worked 257 = .ok (.aload_n 0, 1) := by decide +kernel
theorem d_M_worked_258 : decode cX12_worked 258 = .ok (.getfield 75, 3) := by decide +kernel
theorem d_M_worked_261 : decode cX12_worked 261 = .ok (.iload_n 2, 1) := by decide +kernel
theorem d_M_worked_262 : decode cX12_worked 262 = .ok (.iaload, 1) := by decide +kernel
theorem d_M_worked_263 : decode cX12_worked 263 = .ok (.istore 5, 2) := by decide +kernel
theorem d_M_worked_265 : decode cX12_worked 265 = .ok (.iinc 2 (-1), 3) := by decide +kernel
theorem d_M_worked_268 : decode cX12_worked 268 = .ok (.iload_n 2, 1) := by decide +kernel
theorem d_M_worked_269 : decode cX12_worked 269 = .ok (.ifCond .le 31, 3) := by decide +kernel
theorem d_M_worked_272 : decode cX12_worked 272 = .ok (.aload_n 0, 1) := by decide +kernel
theorem d_M_worked_273 : decode cX12_worked 273 = .ok (.getfield 99, 3) := by decide +kernel
theorem d_M_worked_276 : decode cX12_worked 276 = .ok (.iload_n 2, 1) := by decide +kernel
theorem d_M_worked_277 : decode cX12_worked 277 = .ok (.iaload, 1) := by decide +kernel
theorem d_M_worked_278 : decode cX12_worked 278 = .ok (.iconst 1, 1) := by decide +kernel
theorem d_M_worked_279 : decode cX12_worked 279 = .ok (.if_icmp .ne 21, 3) := by decide +kernel
theorem d_M_worked_282 : decode cX12_worked 282 = .ok (.iload 5, 2) := by decide +kernel
theorem d_M_worked_284 : decode cX12_worked 284 = .ok (.ifCond .ne 7, 3) := by decide +kernel
theorem d_M_worked_287 : decode cX12_worked 287 = .ok (.iconst 1, 1) := by decide +kernel
theorem d_M_worked_288 : decode cX12_worked 288 = .ok (.goto 4, 3) := by decide +kernel
theorem d_M_worked_291 : decode cX12_worked 291 = .ok (.iconst 0, 1) := by decide +kernel
theorem d_M_worked_292 : decode cX12_worked 292 = .ok (.istore 5, 2) := by decide +kernel
theorem d_M_worked_294 : decode cX12_worked 294 = .ok (.iinc 2 (-1), 3) := by decide +kernel
theorem d_M_worked_297 : decode cX12_worked 297 = .ok (.goto (-29), 3) := by decide +kernel
theorem d_M_worked_300 : decode cX12_worked 300 = .ok (.aload_n 0, 1) := by decide +kernel
theorem d_M_worked_301 : decode cX12_worked 301 = .ok (.getfield 93, 3) := by decide +kernel
theorem d_M_worked_304 : decode cX12_worked 304 = .ok (.iload_n 2, 1) := by decide +kernel
theorem d_M_worked_305 : decode cX12_worked 305 = .ok (.aload_n 0, 1) := by decide +kernel
theorem d_M_worked_306 : decode cX12_worked 306 = .ok (.getfield 96, 3) := by decide +kernel
theorem d_M_worked_309 : decode cX12_worked 309 = .ok (.iload_n 2, 1) := by decide +kernel
theorem d_M_worked_310 : decode cX12_worked 310 = .ok (.iaload, 1) := by decide +kernel
theorem d_M_worked_311 : decode cX12_worked 311 = .ok (.ifCond .ne 8, 3) := by decide +kernel
theorem d_M_worked_314 : decode cX12_worked 314 = .ok (.iload 5, 2) := by decide +kernel
theorem d_M_worked_316 : decode cX12_worked 316 = .ok (.goto 12, 3) := by decide +kernel
theorem d_M_worked_319 : decode cX12_worked 319 = .ok (.aload_n 0, 1) := by decide +kernel
theorem d_M_worked_320 : decode cX12_worked 320 = .ok (.getfield 93, 3) := by decide +kernel
theorem d_M_worked_323 : decode cX12_worked 323 = .ok (.iload_n 2, 1) := by decide +kernel
theorem d_M_worked_324 : decode cX12_worked 324 = .ok (.iaload, 1) := by decide +kernel
theorem d_M_worked_325 : decode cX12_worked 325 = .ok (.iload 5, 2) := by decide +kernel
theorem d_M_worked_327 : decode cX12_worked 327 = .ok (.imul, 1) := by decide +kernel
theorem d_M_worked_328 : decode cX12_worked 328 = .ok (.iastore, 1) := by decide +kernel
theorem d_M_worked_329 : decode cX12_worked 329 = .ok (.iinc 3 1, 3) := by decide +kernel
theorem d_M_worked_332 : decode cX12_worked 332 = .ok (.goto (-318), 3) := by decide +kernel
theorem d_M_worked_335 : decode cX12_worked 335 = .ok (.aload_n 0, 1) := by decide +kernel
theorem d_M_worked_336 : decode cX12_worked 336 = .ok (.iconst 0, 1) := by decide +kernel
theorem d_M_worked_337 : decode cX12_worked 337 = .ok (.invokevirtual 259, 3) := by decide +kernel
theorem d_M_worked_340 : decode cX12_worked 340 = .ok (.aload_n 0, 1) := by decide +kernel
theorem d_M_worked_341 : decode cX12_worked 341 = .ok (.getfield 75, 3) := by decide +kernel
theorem d_M_worked_344 : decode cX12_worked 344 = .ok (.iconst 0, 1) := by decide +kernel
theorem d_M_worked_345 : decode cX12_worked 345 = .ok (.iaload, 1) := by decide +kernel
theorem d_M_worked_346 : decode cX12_worked 346 = .ok (.ireturn, 1) := by decide +kernel
noncomputable def f_M_worked (x1 : Int32) (h : mm_H) : Option (Int32 × mm_H) := (f_M_opens 0 h).bind fun v2 => (mm_ix x1 2).bind fun k3 => mm_let (v2.1 278 k3) fun y5 => (mm_while (σ := (Int32 × Int32 × mm_H)) (ρ := mm_H) (fun s7 => (mm_ix x1 2).bind fun k13 => if (s7.2.2.1 279 k13) ≤ s7.2.1 then (some (Sum.inr s7.2.2)) else ((mm_ix s7.2.1 2000).bind fun k15 => mm_let (s7.2.2.1 280 k15) fun y17 => (mm_jp (fun (j21 : Unit) => (mm_let (s7.1 + 1) fun y24 => (if y17 = 30 then (some 1) else (some 0) : Option Int32).bind fun j26 => (mm_ix y24 7).bind fun k31 => mm_let (mm_pI s7.2.2 291 k31 j26) fun h33 => (f_M_opens y24 h33).bind fun v36 => some (y24, v36))) fun k23 => if y17 = 28 then (k23 ()) else (if y17 = 30 then (k23 ()) else (mm_jp (fun (j38 : Unit) => ((f_M_sums s7.1 s7.2.2).bind fun v42 => (mm_ix s7.1 7).bind fun k43 => mm_let (mm_pI v42 288 k43 y17) fun h45 => some (s7.1, h45))) fun k40 => if y17 = 20 then (k40 ()) else (if y17 = 21 then (k40 ()) else (if y17 = 22 then ((mm_ix s7.1 7).bind fun k154 => mm_let (mm_pI s7.2.2 290 k154 y17) fun h156 => some (s7.1, h156)) else (mm_jp (fun (j47 : Unit) => ((f_M_sums s7.1 s7.2.2).bind fun v51 => (mm_ix s7.1 7).bind fun k52 => (mm_ix s7.1 7).bind fun k54 => mm_let (mm_pI v51 285 k54 (v51.1 287 k52)) fun h56 => (mm_ix s7.1 7).bind fun k58 => mm_let (mm_pI h56 286 k58 y17) fun h60 => (mm_ix s7.1 7).bind fun k62 => mm_let (mm_pI h60 287 k62 0) fun h64 => (mm_ix s7.1 7).bind fun k66 => mm_let (mm_pI h64 288 k66 20) fun h68 => some (s7.1, h68))) fun k49 => if y17 = 24 then (k49 ()) else (if y17 = 25 then (k49 ()) else (mm_jp (fun (j70 : Unit) => ((f_M_tests s7.1 s7.2.2).bind fun v74 => (mm_ix s7.1 7).bind fun k75 => mm_let (mm_pI v74 284 k75 y17) fun h77 => some (s7.1, h77))) fun k72 => if y17 = 26 then (k72 ()) else (if y17 = 27 then (k72 ()) else ((if y17 < 100 then (if 20 ≤ y17 then (some 0) else ((mm_ix y17 20).bind fun k81 => some (s7.2.2.1 292 k81))) else (some (y17 - 100)) : Option Int32).bind fun j79 => (if y17 = 29 then ((f_M_tests s7.1 s7.2.2).bind fun v92 => (mm_ix s7.1 7).bind fun k93 => mm_let (v92.1 283 k93) fun y95 => mm_let (s7.1 + (-1)) fun y97 => some (y97, y95, v92)) else (some (s7.1, j79, s7.2.2)) : Option (Int32 × Int32 × mm_H)).bind fun j89 => (mm_while (σ := (Int32 × Int32)) (ρ := (Int32 × Int32)) (fun s102 => if s102.1 ≤ 0 then (some (Sum.inr (s102.1, s102.2))) else ((mm_ix s102.1 7).bind fun k108 => if (j89.2.2.1 291 k108) = 1 then ((if s102.2 = 0 then (some 1) else (some 0) : Option Int32).bind fun j110 => mm_let (s102.1 + (-1)) fun y115 => some (Sum.inl (y115, j110))) else (some (Sum.inr (s102.1, s102.2))))) (j89.1, j89.2.1)).bind fun v105 => (mm_ix v105.1 7).bind fun k124 => (if (j89.2.2.1 290 k124) = 0 then (some v105.2) else ((mm_ix v105.1 7).bind fun k128 => some ((j89.2.2.1 289 k128) * v105.2)) : Option Int32).bind fun j126 => (mm_ix v105.1 7).bind fun k133 => mm_let (mm_pI j89.2.2 289 k133 j126) fun h135 => some (v105.1, h135)))))))))) : Option (Int32 × mm_H)).bind fun j19 => mm_let (s7.2.1 + 1) fun y175 => some (Sum.inl (j19.1, y175, j19.2)))) (0, y5, v2)).bind fun v10 => (f_M_tests 0 v10).bind fun v182 => some ((v182.1 283 0), v182)
theorem T_M_worked (V : mm_V) (l : Launch) (x1 : Int32) (h : mm_H) (r : (Int32 × mm_H)) (hf : f_M_worked x1 h = some r) : MT V l Y_M_worked 3 [.ref 261, .int x1] (fun r1 h1 => r1 = some (.int r.1) ∧ h1 = r.2) h := by
  unfold f_M_worked at hf
  refine MT.intro (pn_M rfl) [(0, .ref 261), (1, .int x1)] rfl (Nat.le_of_ble_eq_true rfl) ?_
  generalize hZ : mm_Z V _ = Z0
  refine MM.iconst ic_0 d_M_worked_0 rfl ?_
  refine MM.istore_n (i := 2) (lv' := [(2, .int 0), (0, .ref 261), (1, .int x1)]) rfl rfl (Nat.le_of_ble_eq_true rfl) rfl d_M_worked_1 rfl ?_
  refine MM.aload_n (i := 0) rfl rfl d_M_worked_2 rfl ?_
  refine MM.iconst ic_0 d_M_worked_3 rfl ?_
  obtain ⟨v2, e1, hf⟩ := mm_bind hf
  refine MM.callV0 (T_M_opens V l 0 h _ e1) (fun _ _ q => q) cal_M_opens rfl tg_261 ct_9 ww_78 ww_1800 ww_1798 (by decide) (by simp [Value.category]) d_M_worked_4 rfl ⟨rfl, rfl⟩ rfl ?_
  refine MM.aload_n (i := 0) rfl rfl d_M_worked_7 rfl ?_
  refine MM.gR 9 17 tg_261 rq_9_25 rfl lays_9 ww_1383 d_M_worked_8 rfl ?_
  refine MM.iload_n (i := 1) rfl rfl d_M_worked_11 rfl ?_
  obtain ⟨k3, e4, hf⟩ := mm_bind hf
  refine MM.gI e4 al_278 d_M_worked_12 rfl ?_
  obtain ⟨y5, e6, hf⟩ := mm_letE hf
  refine MM.istore_n (i := 3) (lv' := [(3, .int y5), (2, .int 0), (0, .ref 261), (1, .int x1)]) e6 rfl (Nat.le_of_ble_eq_true rfl) rfl d_M_worked_13 rfl ?_
  obtain ⟨v10, e12, hf⟩ := mm_bind hf
  have K11 : MM V l Y_M_worked 3 0 0 Z0 335 [(0, .ref 261)] [] v10 := by
    refine MM.aload_n (i := 0) rfl rfl d_M_worked_335 rfl ?_
    refine MM.iconst ic_0 d_M_worked_336 rfl ?_
    obtain ⟨v182, e181, hf⟩ := mm_bind hf
    refine MM.callV0 (T_M_tests V l 0 v10 _ e181) (fun _ _ q => q) cal_M_tests rfl tg_261 ct_9 ww_80 ww_1808 ww_1806 (by decide) (by simp [Value.category]) d_M_worked_337 rfl ⟨rfl, rfl⟩ rfl ?_
    refine MM.aload_n (i := 0) rfl rfl d_M_worked_340 rfl ?_
    refine MM.gR 9 22 tg_261 rq_9_31 rfl lays_9 ww_1389 d_M_worked_341 rfl ?_
    refine MM.iconst ic_0 d_M_worked_344 rfl ?_
    refine MM.gI ix_0_7 al_283 d_M_worked_345 rfl ?_
    obtain rfl := Option.some.inj hf
    subst hZ
    exact MM.iret rfl d_M_worked_346 ⟨rfl, rfl⟩
  clear hf
  refine MM.sub [2, 3, 1, 0] (by rfl) (mm_while_ind (fun s7 => MM V l Y_M_worked 3 0 0 Z0 14 [(0, .ref 261), (1, .int x1), (2, .int s7.1), (3, .int s7.2.1)] [] s7.2.2) e12 (fun s7 q8 hf hx9 => ?_))
  refine MM.iload_n (i := 3) rfl rfl d_M_worked_14 rfl ?_
  refine MM.aload_n (i := 0) rfl rfl d_M_worked_15 rfl ?_
  refine MM.gR 9 18 tg_261 rq_9_26 rfl lays_9 ww_1384 d_M_worked_16 rfl ?_
  refine MM.iload_n (i := 1) rfl rfl d_M_worked_19 rfl ?_
  obtain ⟨k13, e14, hf⟩ := mm_bind hf
  refine MM.gI e14 al_279 d_M_worked_20 rfl ?_
  obtain ⟨m179, m180⟩ := mm_ifE hf
  refine MM.icmp_ge (tgt := 335) d_M_worked_21 rfl rfl (fun c178 => ?_) (fun c178 => ?_)
  · replace hf := m179 c178
    obtain rfl := Option.some.inj hf
    obtain rfl := Option.some.inj (mm_wxR hx9)
    exact MM.sub [0] (by rfl) K11
  · replace hf := m180 c178
    refine MM.aload_n (i := 0) rfl rfl d_M_worked_24 rfl ?_
    refine MM.gR 9 19 tg_261 rq_9_27 rfl lays_9 ww_1385 d_M_worked_25 rfl ?_
    refine MM.iload_n (i := 3) rfl rfl d_M_worked_28 rfl ?_
    obtain ⟨k15, e16, hf⟩ := mm_bind hf
    refine MM.gI e16 al_280 d_M_worked_29 rfl ?_
    obtain ⟨y17, e18, hf⟩ := mm_letE hf
    refine MM.istore (lv' := [(4, .int y17), (0, .ref 261), (1, .int x1), (2, .int s7.1), (3, .int s7.2.1)]) e18 (Nat.le_of_ble_eq_true rfl) rfl d_M_worked_30 rfl ?_
    refine MM.iload rfl d_M_worked_32 rfl ?_
    refine MM.bipush bp_28 d_M_worked_34 rfl ?_
    obtain ⟨j19, e177, hf⟩ := mm_bind hf
    have K20 : MM V l Y_M_worked 3 0 0 Z0 329 [(0, .ref 261), (1, .int x1), (2, .int j19.1), (3, .int s7.2.1)] [] j19.2 := by
      obtain ⟨y175, e176, hf⟩ := mm_letE hf
      refine MM.iinc (k0 := 3) (lv' := [(3, .int y175), (0, .ref 261), (1, .int x1), (2, .int j19.1)]) (by rw [ic_1]; exact e176) rfl (Nat.le_of_ble_eq_true rfl) rfl d_M_worked_329 rfl ?_
      refine MM.goto (tgt := 14) d_M_worked_332 rfl ?_
      obtain rfl := Option.some.inj hf
      have h9 := mm_wxL hx9
      exact MM.sub [1, 2, 3, 0] (by rfl) h9
    clear hf
    have hf := e177
    clear e177
    obtain ⟨k23, e174, hf⟩ := mm_jpE hf
    have K22 : ∀ j21, k23 j21 = some j19 → MM V l Y_M_worked 3 0 0 Z0 46 [(0, .ref 261), (1, .int x1), (2, .int s7.1), (3, .int s7.2.1), (4, .int y17)] [] s7.2.2 := by
      intro j21 hf
      rw [e174] at hf
      obtain ⟨y24, e25, hf⟩ := mm_letE hf
      refine MM.iinc (k0 := 2) (lv' := [(2, .int y24), (0, .ref 261), (1, .int x1), (3, .int s7.2.1), (4, .int y17)]) (by rw [ic_1]; exact e25) rfl (Nat.le_of_ble_eq_true rfl) rfl d_M_worked_46 rfl ?_
      refine MM.aload_n (i := 0) rfl rfl d_M_worked_49 rfl ?_
      refine MM.gR 9 30 tg_261 rq_9_39 rfl lays_9 ww_1397 d_M_worked_50 rfl ?_
      refine MM.iload_n (i := 2) rfl rfl d_M_worked_53 rfl ?_
      refine MM.iload rfl d_M_worked_54 rfl ?_
      refine MM.bipush bp_30 d_M_worked_56 rfl ?_
      obtain ⟨j26, e37, hf⟩ := mm_bind hf
      have K27 : MM V l Y_M_worked 3 0 0 Z0 66 [(0, .ref 261), (1, .int x1), (2, .int y24), (3, .int s7.2.1)] [.int j26, .int y24, .ref 291] s7.2.2 := by
        obtain ⟨k31, e32, hf⟩ := mm_bind hf
        obtain ⟨h33, e34, hf⟩ := mm_letE hf
        refine MM.sI e32 e34 al_291 d_M_worked_66 rfl ?_
        refine MM.aload_n (i := 0) rfl rfl d_M_worked_67 rfl ?_
        refine MM.iload_n (i := 2) rfl rfl d_M_worked_68 rfl ?_
        obtain ⟨v36, e35, hf⟩ := mm_bind hf
        refine MM.callV0 (T_M_opens V l y24 h33 _ e35) (fun _ _ q => q) cal_M_opens rfl tg_261 ct_9 ww_78 ww_1800 ww_1798 (by decide) (by simp [Value.category]) d_M_worked_69 rfl ⟨rfl, rfl⟩ rfl ?_
        refine MM.goto (tgt := 329) d_M_worked_72 rfl ?_
        obtain rfl := Option.some.inj hf
        exact MM.sub [0, 1, 2, 3] (by rfl) K20
      clear hf
      have hf := e37
      clear e37
      obtain ⟨m29, m30⟩ := mm_ifE hf
      refine MM.icmp_ne (tgt := 65) d_M_worked_58 rfl rfl (fun c28 => ?_) (fun c28 => ?_)
      · replace hf := m30 c28
        refine MM.iconst ic_0 d_M_worked_65 rfl ?_
        obtain rfl := Option.some.inj hf
        exact MM.sub [1, 2, 0, 3] (by rfl) K27
      · replace hf := m29 c28
        refine MM.iconst ic_1 d_M_worked_61 rfl ?_
        refine MM.goto (tgt := 66) d_M_worked_62 rfl ?_
        obtain rfl := Option.some.inj hf
        exact MM.sub [1, 2, 0, 3] (by rfl) K27
    clear e174
    obtain ⟨m172, m173⟩ := mm_ifE hf
    refine MM.icmp_eq (tgt := 46) d_M_worked_36 rfl rfl (fun c171 => ?_) (fun c171 => ?_)
    · replace hf := m172 c171
      exact MM.sub [1, 2, 3, 4, 0] (by rfl) (K22 _ hf)
    · replace hf := m173 c171
      refine MM.iload rfl d_M_worked_39 rfl ?_
      refine MM.bipush bp_30 d_M_worked_41 rfl ?_
      obtain ⟨m169, m170⟩ := mm_ifE hf
      refine MM.icmp_ne (tgt := 75) d_M_worked_43 rfl rfl (fun c168 => ?_) (fun c168 => ?_)
      · replace hf := m170 c168
        refine MM.iload rfl d_M_worked_75 rfl ?_
        refine MM.bipush bp_20 d_M_worked_77 rfl ?_
        obtain ⟨k40, e167, hf⟩ := mm_jpE hf
        have K39 : ∀ j38, k40 j38 = some j19 → MM V l Y_M_worked 3 0 0 Z0 89 [(0, .ref 261), (1, .int x1), (2, .int s7.1), (3, .int s7.2.1), (4, .int y17)] [] s7.2.2 := by
          intro j38 hf
          rw [e167] at hf
          refine MM.aload_n (i := 0) rfl rfl d_M_worked_89 rfl ?_
          refine MM.iload_n (i := 2) rfl rfl d_M_worked_90 rfl ?_
          obtain ⟨v42, e41, hf⟩ := mm_bind hf
          refine MM.callV0 (T_M_sums V l s7.1 s7.2.2 _ e41) (fun _ _ q => q) cal_M_sums rfl tg_261 ct_9 ww_79 ww_1804 ww_1802 (by decide) (by simp [Value.category]) d_M_worked_91 rfl ⟨rfl, rfl⟩ rfl ?_
          refine MM.aload_n (i := 0) rfl rfl d_M_worked_94 rfl ?_
          refine MM.gR 9 27 tg_261 rq_9_36 rfl lays_9 ww_1394 d_M_worked_95 rfl ?_
          refine MM.iload_n (i := 2) rfl rfl d_M_worked_98 rfl ?_
          refine MM.iload rfl d_M_worked_99 rfl ?_
          obtain ⟨k43, e44, hf⟩ := mm_bind hf
          obtain ⟨h45, e46, hf⟩ := mm_letE hf
          refine MM.sI e44 e46 al_288 d_M_worked_101 rfl ?_
          refine MM.goto (tgt := 329) d_M_worked_102 rfl ?_
          obtain rfl := Option.some.inj hf
          exact MM.sub [0, 1, 2, 3] (by rfl) K20
        clear e167
        obtain ⟨m165, m166⟩ := mm_ifE hf
        refine MM.icmp_eq (tgt := 89) d_M_worked_79 rfl rfl (fun c164 => ?_) (fun c164 => ?_)
        · replace hf := m165 c164
          exact MM.sub [1, 2, 3, 4, 0] (by rfl) (K39 _ hf)
        · replace hf := m166 c164
          refine MM.iload rfl d_M_worked_82 rfl ?_
          refine MM.bipush bp_21 d_M_worked_84 rfl ?_
          obtain ⟨m162, m163⟩ := mm_ifE hf
          refine MM.icmp_ne (tgt := 105) d_M_worked_86 rfl rfl (fun c161 => ?_) (fun c161 => ?_)
          · replace hf := m163 c161
            refine MM.iload rfl d_M_worked_105 rfl ?_
            refine MM.bipush bp_22 d_M_worked_107 rfl ?_
            obtain ⟨m159, m160⟩ := mm_ifE hf
            refine MM.icmp_ne (tgt := 123) d_M_worked_109 rfl rfl (fun c158 => ?_) (fun c158 => ?_)
            · replace hf := m160 c158
              refine MM.iload rfl d_M_worked_123 rfl ?_
              refine MM.bipush bp_24 d_M_worked_125 rfl ?_
              obtain ⟨k49, e153, hf⟩ := mm_jpE hf
              have K48 : ∀ j47, k49 j47 = some j19 → MM V l Y_M_worked 3 0 0 Z0 137 [(0, .ref 261), (1, .int x1), (2, .int s7.1), (3, .int s7.2.1), (4, .int y17)] [] s7.2.2 := by
                intro j47 hf
                rw [e153] at hf
                refine MM.aload_n (i := 0) rfl rfl d_M_worked_137 rfl ?_
                refine MM.iload_n (i := 2) rfl rfl d_M_worked_138 rfl ?_
                obtain ⟨v51, e50, hf⟩ := mm_bind hf
                refine MM.callV0 (T_M_sums V l s7.1 s7.2.2 _ e50) (fun _ _ q => q) cal_M_sums rfl tg_261 ct_9 ww_79 ww_1804 ww_1802 (by decide) (by simp [Value.category]) d_M_worked_139 rfl ⟨rfl, rfl⟩ rfl ?_
                refine MM.aload_n (i := 0) rfl rfl d_M_worked_142 rfl ?_
                refine MM.gR 9 24 tg_261 rq_9_33 rfl lays_9 ww_1391 d_M_worked_143 rfl ?_
                refine MM.iload_n (i := 2) rfl rfl d_M_worked_146 rfl ?_
                refine MM.aload_n (i := 0) rfl rfl d_M_worked_147 rfl ?_
                refine MM.gR 9 26 tg_261 rq_9_35 rfl lays_9 ww_1393 d_M_worked_148 rfl ?_
                refine MM.iload_n (i := 2) rfl rfl d_M_worked_151 rfl ?_
                obtain ⟨k52, e53, hf⟩ := mm_bind hf
                refine MM.gI e53 al_287 d_M_worked_152 rfl ?_
                obtain ⟨k54, e55, hf⟩ := mm_bind hf
                obtain ⟨h56, e57, hf⟩ := mm_letE hf
                refine MM.sI e55 e57 al_285 d_M_worked_153 rfl ?_
                refine MM.aload_n (i := 0) rfl rfl d_M_worked_154 rfl ?_
                refine MM.gR 9 25 tg_261 rq_9_34 rfl lays_9 ww_1392 d_M_worked_155 rfl ?_
                refine MM.iload_n (i := 2) rfl rfl d_M_worked_158 rfl ?_
                refine MM.iload rfl d_M_worked_159 rfl ?_
                obtain ⟨k58, e59, hf⟩ := mm_bind hf
                obtain ⟨h60, e61, hf⟩ := mm_letE hf
                refine MM.sI e59 e61 al_286 d_M_worked_161 rfl ?_
                refine MM.aload_n (i := 0) rfl rfl d_M_worked_162 rfl ?_
                refine MM.gR 9 26 tg_261 rq_9_35 rfl lays_9 ww_1393 d_M_worked_163 rfl ?_
                refine MM.iload_n (i := 2) rfl rfl d_M_worked_166 rfl ?_
                refine MM.iconst ic_0 d_M_worked_167 rfl ?_
                obtain ⟨k62, e63, hf⟩ := mm_bind hf
                obtain ⟨h64, e65, hf⟩ := mm_letE hf
                refine MM.sI e63 e65 al_287 d_M_worked_168 rfl ?_
                refine MM.aload_n (i := 0) rfl rfl d_M_worked_169 rfl ?_
                refine MM.gR 9 27 tg_261 rq_9_36 rfl lays_9 ww_1394 d_M_worked_170 rfl ?_
                refine MM.iload_n (i := 2) rfl rfl d_M_worked_173 rfl ?_
                refine MM.bipush bp_20 d_M_worked_174 rfl ?_
                obtain ⟨k66, e67, hf⟩ := mm_bind hf
                obtain ⟨h68, e69, hf⟩ := mm_letE hf
                refine MM.sI e67 e69 al_288 d_M_worked_176 rfl ?_
                refine MM.goto (tgt := 329) d_M_worked_177 rfl ?_
                obtain rfl := Option.some.inj hf
                exact MM.sub [0, 1, 2, 3] (by rfl) K20
              clear e153
              obtain ⟨m151, m152⟩ := mm_ifE hf
              refine MM.icmp_eq (tgt := 137) d_M_worked_127 rfl rfl (fun c150 => ?_) (fun c150 => ?_)
              · replace hf := m151 c150
                exact MM.sub [1, 2, 3, 4, 0] (by rfl) (K48 _ hf)
              · replace hf := m152 c150
                refine MM.iload rfl d_M_worked_130 rfl ?_
                refine MM.bipush bp_25 d_M_worked_132 rfl ?_
                obtain ⟨m148, m149⟩ := mm_ifE hf
                refine MM.icmp_ne (tgt := 180) d_M_worked_134 rfl rfl (fun c147 => ?_) (fun c147 => ?_)
                · replace hf := m149 c147
                  refine MM.iload rfl d_M_worked_180 rfl ?_
                  refine MM.bipush bp_26 d_M_worked_182 rfl ?_
                  obtain ⟨k72, e146, hf⟩ := mm_jpE hf
                  have K71 : ∀ j70, k72 j70 = some j19 → MM V l Y_M_worked 3 0 0 Z0 194 [(0, .ref 261), (1, .int x1), (2, .int s7.1), (3, .int s7.2.1), (4, .int y17)] [] s7.2.2 := by
                    intro j70 hf
                    rw [e146] at hf
                    refine MM.aload_n (i := 0) rfl rfl d_M_worked_194 rfl ?_
                    refine MM.iload_n (i := 2) rfl rfl d_M_worked_195 rfl ?_
                    obtain ⟨v74, e73, hf⟩ := mm_bind hf
                    refine MM.callV0 (T_M_tests V l s7.1 s7.2.2 _ e73) (fun _ _ q => q) cal_M_tests rfl tg_261 ct_9 ww_80 ww_1808 ww_1806 (by decide) (by simp [Value.category]) d_M_worked_196 rfl ⟨rfl, rfl⟩ rfl ?_
                    refine MM.aload_n (i := 0) rfl rfl d_M_worked_199 rfl ?_
                    refine MM.gR 9 23 tg_261 rq_9_32 rfl lays_9 ww_1390 d_M_worked_200 rfl ?_
                    refine MM.iload_n (i := 2) rfl rfl d_M_worked_203 rfl ?_
                    refine MM.iload rfl d_M_worked_204 rfl ?_
                    obtain ⟨k75, e76, hf⟩ := mm_bind hf
                    obtain ⟨h77, e78, hf⟩ := mm_letE hf
                    refine MM.sI e76 e78 al_284 d_M_worked_206 rfl ?_
                    refine MM.goto (tgt := 329) d_M_worked_207 rfl ?_
                    obtain rfl := Option.some.inj hf
                    exact MM.sub [0, 1, 2, 3] (by rfl) K20
                  clear e146
                  obtain ⟨m144, m145⟩ := mm_ifE hf
                  refine MM.icmp_eq (tgt := 194) d_M_worked_184 rfl rfl (fun c143 => ?_) (fun c143 => ?_)
                  · replace hf := m144 c143
                    exact MM.sub [1, 2, 3, 4, 0] (by rfl) (K71 _ hf)
                  · replace hf := m145 c143
                    refine MM.iload rfl d_M_worked_187 rfl ?_
                    refine MM.bipush bp_27 d_M_worked_189 rfl ?_
                    obtain ⟨m141, m142⟩ := mm_ifE hf
                    refine MM.icmp_ne (tgt := 210) d_M_worked_191 rfl rfl (fun c140 => ?_) (fun c140 => ?_)
                    · replace hf := m142 c140
                      refine MM.iload rfl d_M_worked_210 rfl ?_
                      refine MM.bipush bp_100 d_M_worked_212 rfl ?_
                      obtain ⟨j79, e139, hf⟩ := mm_bind hf
                      have K80 : MM V l Y_M_worked 3 0 0 Z0 243 [(0, .ref 261), (1, .int x1), (2, .int s7.1), (3, .int s7.2.1), (4, .int y17)] [.int j79] s7.2.2 := by
                        refine MM.istore (lv' := [(5, .int j79), (0, .ref 261), (1, .int x1), (2, .int s7.1), (3, .int s7.2.1), (4, .int y17)]) rfl (Nat.le_of_ble_eq_true rfl) rfl d_M_worked_243 rfl ?_
                        refine MM.iload rfl d_M_worked_245 rfl ?_
                        refine MM.bipush bp_29 d_M_worked_247 rfl ?_
                        obtain ⟨j89, e138, hf⟩ := mm_bind hf
                        have K90 : MM V l Y_M_worked 3 0 0 Z0 268 [(0, .ref 261), (1, .int x1), (2, .int j89.1), (3, .int s7.2.1), (5, .int j89.2.1)] [] j89.2.2 := by
                          obtain ⟨v105, e107, hf⟩ := mm_bind hf
                          have K106 : MM V l Y_M_worked 3 0 0 Z0 300 [(0, .ref 261), (1, .int x1), (2, .int v105.1), (3, .int s7.2.1), (5, .int v105.2)] [] j89.2.2 := by
                            refine MM.aload_n (i := 0) rfl rfl d_M_worked_300 rfl ?_
                            refine MM.gR 9 28 tg_261 rq_9_37 rfl lays_9 ww_1395 d_M_worked_301 rfl ?_
                            refine MM.iload_n (i := 2) rfl rfl d_M_worked_304 rfl ?_
                            refine MM.aload_n (i := 0) rfl rfl d_M_worked_305 rfl ?_
                            refine MM.gR 9 29 tg_261 rq_9_38 rfl lays_9 ww_1396 d_M_worked_306 rfl ?_
                            refine MM.iload_n (i := 2) rfl rfl d_M_worked_309 rfl ?_
                            obtain ⟨k124, e125, hf⟩ := mm_bind hf
                            refine MM.gI e125 al_290 d_M_worked_310 rfl ?_
                            obtain ⟨j126, e137, hf⟩ := mm_bind hf
                            have K127 : MM V l Y_M_worked 3 0 0 Z0 328 [(0, .ref 261), (1, .int x1), (2, .int v105.1), (3, .int s7.2.1)] [.int j126, .int v105.1, .ref 289] j89.2.2 := by
                              obtain ⟨k133, e134, hf⟩ := mm_bind hf
                              obtain ⟨h135, e136, hf⟩ := mm_letE hf
                              refine MM.sI e134 e136 al_289 d_M_worked_328 rfl ?_
                              obtain rfl := Option.some.inj hf
                              exact MM.sub [0, 1, 2, 3] (by rfl) K20
                            clear hf
                            have hf := e137
                            clear e137
                            obtain ⟨m131, m132⟩ := mm_ifE hf
                            refine MM.if_ne (tgt := 319) d_M_worked_311 rfl rfl (fun c130 => ?_) (fun c130 => ?_)
                            · replace hf := m132 c130
                              refine MM.aload_n (i := 0) rfl rfl d_M_worked_319 rfl ?_
                              refine MM.gR 9 28 tg_261 rq_9_37 rfl lays_9 ww_1395 d_M_worked_320 rfl ?_
                              refine MM.iload_n (i := 2) rfl rfl d_M_worked_323 rfl ?_
                              obtain ⟨k128, e129, hf⟩ := mm_bind hf
                              refine MM.gI e129 al_289 d_M_worked_324 rfl ?_
                              refine MM.iload rfl d_M_worked_325 rfl ?_
                              refine MM.imul d_M_worked_327 rfl ?_
                              obtain rfl := Option.some.inj hf
                              exact MM.sub [0, 1, 2, 3] (by rfl) K127
                            · replace hf := m131 c130
                              refine MM.iload rfl d_M_worked_314 rfl ?_
                              refine MM.goto (tgt := 328) d_M_worked_316 rfl ?_
                              obtain rfl := Option.some.inj hf
                              exact MM.sub [0, 1, 2, 3] (by rfl) K127
                          clear hf
                          refine MM.sub [0, 1, 2, 3, 4] (by rfl) (mm_while_ind (fun s102 => MM V l Y_M_worked 3 0 0 Z0 268 [(0, .ref 261), (1, .int x1), (2, .int s102.1), (3, .int s7.2.1), (5, .int s102.2)] [] j89.2.2) e107 (fun s102 q103 hf hx104 => ?_))
                          refine MM.iload_n (i := 2) rfl rfl d_M_worked_268 rfl ?_
                          obtain ⟨m122, m123⟩ := mm_ifE hf
                          refine MM.if_le (tgt := 300) d_M_worked_269 rfl rfl (fun c121 => ?_) (fun c121 => ?_)
                          · replace hf := m122 c121
                            obtain rfl := Option.some.inj hf
                            obtain rfl := Option.some.inj (mm_wxR hx104)
                            exact MM.sub [0, 1, 2, 3, 4] (by rfl) K106
                          · replace hf := m123 c121
                            refine MM.aload_n (i := 0) rfl rfl d_M_worked_272 rfl ?_
                            refine MM.gR 9 30 tg_261 rq_9_39 rfl lays_9 ww_1397 d_M_worked_273 rfl ?_
                            refine MM.iload_n (i := 2) rfl rfl d_M_worked_276 rfl ?_
                            obtain ⟨k108, e109, hf⟩ := mm_bind hf
                            refine MM.gI e109 al_291 d_M_worked_277 rfl ?_
                            refine MM.iconst ic_1 d_M_worked_278 rfl ?_
                            obtain ⟨m119, m120⟩ := mm_ifE hf
                            refine MM.icmp_ne (tgt := 300) d_M_worked_279 rfl rfl (fun c118 => ?_) (fun c118 => ?_)
                            · replace hf := m120 c118
                              obtain rfl := Option.some.inj hf
                              obtain rfl := Option.some.inj (mm_wxR hx104)
                              exact MM.sub [0, 1, 2, 3, 4] (by rfl) K106
                            · replace hf := m119 c118
                              refine MM.iload rfl d_M_worked_282 rfl ?_
                              obtain ⟨j110, e117, hf⟩ := mm_bind hf
                              have K111 : MM V l Y_M_worked 3 0 0 Z0 292 [(0, .ref 261), (1, .int x1), (2, .int s102.1), (3, .int s7.2.1)] [.int j110] j89.2.2 := by
                                refine MM.istore (lv' := [(5, .int j110), (0, .ref 261), (1, .int x1), (2, .int s102.1), (3, .int s7.2.1)]) rfl (Nat.le_of_ble_eq_true rfl) rfl d_M_worked_292 rfl ?_
                                obtain ⟨y115, e116, hf⟩ := mm_letE hf
                                refine MM.iinc (k0 := 3) (lv' := [(2, .int y115), (5, .int j110), (0, .ref 261), (1, .int x1), (3, .int s7.2.1)]) (by rw [ic_m1]; exact e116) rfl (Nat.le_of_ble_eq_true rfl) rfl d_M_worked_294 rfl ?_
                                refine MM.goto (tgt := 268) d_M_worked_297 rfl ?_
                                obtain rfl := Option.some.inj hf
                                have h9 := mm_wxL hx104
                                exact MM.sub [2, 3, 0, 4, 1] (by rfl) h9
                              clear hf
                              have hf := e117
                              clear e117
                              obtain ⟨m113, m114⟩ := mm_ifE hf
                              refine MM.if_ne (tgt := 291) d_M_worked_284 rfl rfl (fun c112 => ?_) (fun c112 => ?_)
                              · replace hf := m114 c112
                                refine MM.iconst ic_0 d_M_worked_291 rfl ?_
                                obtain rfl := Option.some.inj hf
                                exact MM.sub [0, 1, 2, 3] (by rfl) K111
                              · replace hf := m113 c112
                                refine MM.iconst ic_1 d_M_worked_287 rfl ?_
                                refine MM.goto (tgt := 292) d_M_worked_288 rfl ?_
                                obtain rfl := Option.some.inj hf
                                exact MM.sub [0, 1, 2, 3] (by rfl) K111
                        clear hf
                        have hf := e138
                        clear e138
                        obtain ⟨m100, m101⟩ := mm_ifE hf
                        refine MM.icmp_ne (tgt := 268) d_M_worked_249 rfl rfl (fun c99 => ?_) (fun c99 => ?_)
                        · replace hf := m101 c99
                          obtain rfl := Option.some.inj hf
                          exact MM.sub [1, 2, 3, 4, 0] (by rfl) K90
                        · replace hf := m100 c99
                          refine MM.aload_n (i := 0) rfl rfl d_M_worked_252 rfl ?_
                          refine MM.iload_n (i := 2) rfl rfl d_M_worked_253 rfl ?_
                          obtain ⟨v92, e91, hf⟩ := mm_bind hf
                          refine MM.callV0 (T_M_tests V l s7.1 s7.2.2 _ e91) (fun _ _ q => q) cal_M_tests rfl tg_261 ct_9 ww_80 ww_1808 ww_1806 (by decide) (by simp [Value.category]) d_M_worked_254 rfl ⟨rfl, rfl⟩ rfl ?_
                          refine MM.aload_n (i := 0) rfl rfl d_M_worked_257 rfl ?_
                          refine MM.gR 9 22 tg_261 rq_9_31 rfl lays_9 ww_1389 d_M_worked_258 rfl ?_
                          refine MM.iload_n (i := 2) rfl rfl d_M_worked_261 rfl ?_
                          obtain ⟨k93, e94, hf⟩ := mm_bind hf
                          refine MM.gI e94 al_283 d_M_worked_262 rfl ?_
                          obtain ⟨y95, e96, hf⟩ := mm_letE hf
                          refine MM.istore (lv' := [(5, .int y95), (0, .ref 261), (1, .int x1), (2, .int s7.1), (3, .int s7.2.1), (4, .int y17)]) e96 (Nat.le_of_ble_eq_true rfl) rfl d_M_worked_263 rfl ?_
                          obtain ⟨y97, e98, hf⟩ := mm_letE hf
                          refine MM.iinc (k0 := 3) (lv' := [(2, .int y97), (5, .int y95), (0, .ref 261), (1, .int x1), (3, .int s7.2.1), (4, .int y17)]) (by rw [ic_m1]; exact e98) rfl (Nat.le_of_ble_eq_true rfl) rfl d_M_worked_265 rfl ?_
                          obtain rfl := Option.some.inj hf
                          exact MM.sub [2, 3, 0, 4, 1] (by rfl) K90
                      clear hf
                      have hf := e139
                      clear e139
                      obtain ⟨m87, m88⟩ := mm_ifE hf
                      refine MM.icmp_lt (tgt := 225) d_M_worked_214 rfl rfl (fun c86 => ?_) (fun c86 => ?_)
                      · replace hf := m87 c86
                        refine MM.iload rfl d_M_worked_225 rfl ?_
                        refine MM.bipush bp_20 d_M_worked_227 rfl ?_
                        obtain ⟨m84, m85⟩ := mm_ifE hf
                        refine MM.icmp_ge (tgt := 242) d_M_worked_229 rfl rfl (fun c83 => ?_) (fun c83 => ?_)
                        · replace hf := m84 c83
                          refine MM.iconst ic_0 d_M_worked_242 rfl ?_
                          obtain rfl := Option.some.inj hf
                          exact MM.sub [1, 2, 3, 4, 0] (by rfl) K80
                        · replace hf := m85 c83
                          refine MM.aload_n (i := 0) rfl rfl d_M_worked_232 rfl ?_
                          refine MM.gR 9 31 tg_261 rq_9_40 rfl lays_9 ww_1398 d_M_worked_233 rfl ?_
                          refine MM.iload rfl d_M_worked_236 rfl ?_
                          obtain ⟨k81, e82, hf⟩ := mm_bind hf
                          refine MM.gI e82 al_292 d_M_worked_238 rfl ?_
                          refine MM.goto (tgt := 243) d_M_worked_239 rfl ?_
                          obtain rfl := Option.some.inj hf
                          exact MM.sub [1, 2, 3, 4, 0] (by rfl) K80
                      · replace hf := m88 c86
                        refine MM.iload rfl d_M_worked_217 rfl ?_
                        refine MM.bipush bp_100 d_M_worked_219 rfl ?_
                        refine MM.isub d_M_worked_221 rfl ?_
                        refine MM.goto (tgt := 243) d_M_worked_222 rfl ?_
                        obtain rfl := Option.some.inj hf
                        exact MM.sub [1, 2, 3, 4, 0] (by rfl) K80
                    · replace hf := m141 c140
                      exact MM.sub [1, 2, 3, 4, 0] (by rfl) (K71 _ hf)
                · replace hf := m148 c147
                  exact MM.sub [1, 2, 3, 4, 0] (by rfl) (K48 _ hf)
            · replace hf := m159 c158
              refine MM.aload_n (i := 0) rfl rfl d_M_worked_112 rfl ?_
              refine MM.gR 9 29 tg_261 rq_9_38 rfl lays_9 ww_1396 d_M_worked_113 rfl ?_
              refine MM.iload_n (i := 2) rfl rfl d_M_worked_116 rfl ?_
              refine MM.iload rfl d_M_worked_117 rfl ?_
              obtain ⟨k154, e155, hf⟩ := mm_bind hf
              obtain ⟨h156, e157, hf⟩ := mm_letE hf
              refine MM.sI e155 e157 al_290 d_M_worked_119 rfl ?_
              refine MM.goto (tgt := 329) d_M_worked_120 rfl ?_
              obtain rfl := Option.some.inj hf
              exact MM.sub [1, 2, 3, 4] (by rfl) K20
          · replace hf := m162 c161
            exact MM.sub [1, 2, 3, 4, 0] (by rfl) (K39 _ hf)
      · replace hf := m169 c168
        exact MM.sub [1, 2, 3, 4, 0] (by rfl) (K22 _ hf)
theorem d_M_isKept_0 : decode cX12_isKept 0 = .ok (.aload_n 0, 1) := by decide +kernel
theorem d_M_isKept_1 : decode cX12_isKept 1 = .ok (.getfield 200, 3) := by decide +kernel
theorem d_M_isKept_4 : decode cX12_isKept 4 = .ok (.iconst 1, 1) := by decide +kernel
theorem d_M_isKept_5 : decode cX12_isKept 5 = .ok (.if_icmp .eq 5, 3) := by decide +kernel
theorem d_M_isKept_8 : decode cX12_isKept 8 = .ok (.iconst 1, 1) := by decide +kernel
theorem d_M_isKept_9 : decode cX12_isKept 9 = .ok (.ireturn, 1) := by decide +kernel
theorem d_M_isKept_10 : decode cX12_isKept 10 = .ok (.aload_n 0, 1) := by decide +kernel
theorem d_M_isKept_11 : decode cX12_isKept 11 = .ok (.getfield 193, 3) := by decide +kernel
theorem d_M_isKept_14 : decode cX12_isKept 14 = .ok (.ldc2_w 262, 3) := by decide +kernel
theorem d_M_isKept_17 : decode cX12_isKept 17 = .ok (.lcmp, 1) := by decide +kernel
theorem d_M_isKept_18 : decode cX12_isKept 18 = .ok (.ifCond .eq 256, 3) := by decide +kernel
theorem d_M_isKept_21 : decode cX12_isKept 21 = .ok (.aload_n 0, 1) := by decide +kernel
theorem d_M_isKept_22 : decode cX12_isKept 22 = .ok (.getfield 193, 3) := by decide +kernel
theorem d_M_isKept_25 : decode cX12_isKept 25 = .ok (.ldc2_w 264, 3) := by decide +kernel
theorem d_M_isKept_28 : decode cX12_isKept 28 = .ok (.lcmp, 1) := by decide +kernel
theorem d_M_isKept_29 : decode cX12_isKept 29 = .ok (.ifCond .eq 245, 3) := by decide +kernel
theorem d_M_isKept_32 : decode cX12_isKept 32 = .ok (.aload_n 0, 1) := by decide +kernel
theorem d_M_isKept_33 : decode cX12_isKept 33 = .ok (.getfield 193, 3) := by decide +kernel
theorem d_M_isKept_36 : decode cX12_isKept 36 = .ok (.ldc2_w 266, 3) := by decide +kernel
theorem d_M_isKept_39 : decode cX12_isKept 39 = .ok (.lcmp, 1) := by decide +kernel
theorem d_M_isKept_40 : decode cX12_isKept 40 = .ok (.ifCond .eq 234, 3) := by decide +kernel
theorem d_M_isKept_43 : decode cX12_isKept 43 = .ok (.aload_n 0, 1) := by decide +kernel
theorem d_M_isKept_44 : decode cX12_isKept 44 = .ok (.getfield 193, 3) := by decide +kernel
theorem d_M_isKept_47 : decode cX12_isKept 47 = .ok (.ldc2_w 268, 3) := by decide +kernel
theorem d_M_isKept_50 : decode cX12_isKept 50 = .ok (.lcmp, 1) := by decide +kernel
theorem d_M_isKept_51 : decode cX12_isKept 51 = .ok (.ifCond .eq 223, 3) := by decide +kernel
theorem d_M_isKept_54 : decode cX12_isKept 54 = .ok (.aload_n 0, 1) := by decide +kernel
theorem d_M_isKept_55 : decode cX12_isKept 55 = .ok (.getfield 193, 3) := by decide +kernel
theorem d_M_isKept_58 : decode cX12_isKept 58 = .ok (.ldc2_w 270, 3) := by decide +kernel
theorem d_M_isKept_61 : decode cX12_isKept 61 = .ok (.lcmp, 1) := by decide +kernel
theorem d_M_isKept_62 : decode cX12_isKept 62 = .ok (.ifCond .eq 212, 3) := by decide +kernel
theorem d_M_isKept_65 : decode cX12_isKept 65 = .ok (.aload_n 0, 1) := by decide +kernel
theorem d_M_isKept_66 : decode cX12_isKept 66 = .ok (.getfield 193, 3) := by decide +kernel
theorem d_M_isKept_69 : decode cX12_isKept 69 = .ok (.ldc2_w 272, 3) := by decide +kernel
theorem d_M_isKept_72 : decode cX12_isKept 72 = .ok (.lcmp, 1) := by decide +kernel
theorem d_M_isKept_73 : decode cX12_isKept 73 = .ok (.ifCond .eq 201, 3) := by decide +kernel
theorem d_M_isKept_76 : decode cX12_isKept 76 = .ok (.aload_n 0, 1) := by decide +kernel
theorem d_M_isKept_77 : decode cX12_isKept 77 = .ok (.getfield 193, 3) := by decide +kernel
theorem d_M_isKept_80 : decode cX12_isKept 80 = .ok (.ldc2_w 274, 3) := by decide +kernel
theorem d_M_isKept_83 : decode cX12_isKept 83 = .ok (.lcmp, 1) := by decide +kernel
theorem d_M_isKept_84 : decode cX12_isKept 84 = .ok (.ifCond .eq 190, 3) := by decide +kernel
theorem d_M_isKept_87 : decode cX12_isKept 87 = .ok (.aload_n 0, 1) := by decide +kernel
theorem d_M_isKept_88 : decode cX12_isKept 88 = .ok (.getfield 193, 3) := by decide +kernel
theorem d_M_isKept_91 : decode cX12_isKept 91 = .ok (.ldc2_w 276, 3) := by decide +kernel
theorem d_M_isKept_94 : decode cX12_isKept 94 = .ok (.lcmp, 1) := by decide +kernel
theorem d_M_isKept_95 : decode cX12_isKept 95 = .ok (.ifCond .eq 179, 3) := by decide +kernel
theorem d_M_isKept_98 : decode cX12_isKept 98 = .ok (.aload_n 0, 1) := by decide +kernel
theorem d_M_isKept_99 : decode cX12_isKept 99 = .ok (.getfield 193, 3) := by decide +kernel
theorem d_M_isKept_102 : decode cX12_isKept 102 = .ok (.ldc2_w 278, 3) := by decide +kernel
theorem d_M_isKept_105 : decode cX12_isKept 105 = .ok (.lcmp, 1) := by decide +kernel
theorem d_M_isKept_106 : decode cX12_isKept 106 = .ok (.ifCond .eq 168, 3) := by decide +kernel
theorem d_M_isKept_109 : decode cX12_isKept 109 = .ok (.aload_n 0, 1) := by decide +kernel
theorem d_M_isKept_110 : decode cX12_isKept 110 = .ok (.getfield 193, 3) := by decide +kernel
theorem d_M_isKept_113 : decode cX12_isKept 113 = .ok (.ldc2_w 280, 3) := by decide +kernel
theorem d_M_isKept_116 : decode cX12_isKept 116 = .ok (.lcmp, 1) := by decide +kernel
theorem d_M_isKept_117 : decode cX12_isKept 117 = .ok (.ifCond .eq 157, 3) := by decide +kernel
theorem d_M_isKept_120 : decode cX12_isKept 120 = .ok (.aload_n 0, 1) := by decide +kernel
theorem d_M_isKept_121 : decode cX12_isKept 121 = .ok (.getfield 193, 3) := by decide +kernel
theorem d_M_isKept_124 : decode cX12_isKept 124 = .ok (.ldc2_w 282, 3) := by decide +kernel
theorem d_M_isKept_127 : decode cX12_isKept 127 = .ok (.lcmp, 1) := by decide +kernel
theorem d_M_isKept_128 : decode cX12_isKept 128 = .ok (.ifCond .eq 146, 3) := by decide +kernel
theorem d_M_isKept_131 : decode cX12_isKept 131 = .ok (.aload_n 0, 1) := by decide +kernel
theorem d_M_isKept_132 : decode cX12_isKept 132 = .ok (.getfield 193, 3) := by decide +kernel
theorem d_M_isKept_135 : decode cX12_isKept 135 = .ok (.ldc2_w 284, 3) := by decide +kernel
theorem d_M_isKept_138 : decode cX12_isKept 138 = .ok (.lcmp, 1) := by decide +kernel
theorem d_M_isKept_139 : decode cX12_isKept 139 = .ok (.ifCond .eq 135, 3) := by decide +kernel
theorem d_M_isKept_142 : decode cX12_isKept 142 = .ok (.aload_n 0, 1) := by decide +kernel
theorem d_M_isKept_143 : decode cX12_isKept 143 = .ok (.getfield 193, 3) := by decide +kernel
theorem d_M_isKept_146 : decode cX12_isKept 146 = .ok (.ldc2_w 286, 3) := by decide +kernel
theorem d_M_isKept_149 : decode cX12_isKept 149 = .ok (.lcmp, 1) := by decide +kernel
theorem d_M_isKept_150 : decode cX12_isKept 150 = .ok (.ifCond .eq 124, 3) := by decide +kernel
theorem d_M_isKept_153 : decode cX12_isKept 153 = .ok (.aload_n 0, 1) := by decide +kernel
theorem d_M_isKept_154 : decode cX12_isKept 154 = .ok (.getfield 193, 3) := by decide +kernel
theorem d_M_isKept_157 : decode cX12_isKept 157 = .ok (.ldc2_w 288, 3) := by decide +kernel
theorem d_M_isKept_160 : decode cX12_isKept 160 = .ok (.lcmp, 1) := by decide +kernel
theorem d_M_isKept_161 : decode cX12_isKept 161 = .ok (.ifCond .eq 113, 3) := by decide +kernel
theorem d_M_isKept_164 : decode cX12_isKept 164 = .ok (.aload_n 0, 1) := by decide +kernel
theorem d_M_isKept_165 : decode cX12_isKept 165 = .ok (.getfield 193, 3) := by decide +kernel
theorem d_M_isKept_168 : decode cX12_isKept 168 = .ok (.ldc2_w 290, 3) := by decide +kernel
theorem d_M_isKept_171 : decode cX12_isKept 171 = .ok (.lcmp, 1) := by decide +kernel
theorem d_M_isKept_172 : decode cX12_isKept 172 = .ok (.ifCond .eq 102, 3) := by decide +kernel
theorem d_M_isKept_175 : decode cX12_isKept 175 = .ok (.aload_n 0, 1) := by decide +kernel
theorem d_M_isKept_176 : decode cX12_isKept 176 = .ok (.getfield 193, 3) := by decide +kernel
theorem d_M_isKept_179 : decode cX12_isKept 179 = .ok (.ldc2_w 292, 3) := by decide +kernel
theorem d_M_isKept_182 : decode cX12_isKept 182 = .ok (.lcmp, 1) := by decide +kernel
theorem d_M_isKept_183 : decode cX12_isKept 183 = .ok (.ifCond .eq 91, 3) := by decide +kernel
theorem d_M_isKept_186 : decode cX12_isKept 186 = .ok (.aload_n 0, 1) := by decide +kernel
theorem d_M_isKept_187 : decode cX12_isKept 187 = .ok (.getfield 193, 3) := by decide +kernel
theorem d_M_isKept_190 : decode cX12_isKept 190 = .ok (.ldc2_w 294, 3) := by decide +kernel
theorem d_M_isKept_193 : decode cX12_isKept 193 = .ok (.lcmp, 1) := by decide +kernel
theorem d_M_isKept_194 : decode cX12_isKept 194 = .ok (.ifCond .eq 80, 3) := by decide +kernel
theorem d_M_isKept_197 : decode cX12_isKept 197 = .ok (.aload_n 0, 1) := by decide +kernel
theorem d_M_isKept_198 : decode cX12_isKept 198 = .ok (.getfield 193, 3) := by decide +kernel
theorem d_M_isKept_201 : decode cX12_isKept 201 = .ok (.ldc2_w 296, 3) := by decide +kernel
theorem d_M_isKept_204 : decode cX12_isKept 204 = .ok (.lcmp, 1) := by decide +kernel
theorem d_M_isKept_205 : decode cX12_isKept 205 = .ok (.ifCond .eq 69, 3) := by decide +kernel
theorem d_M_isKept_208 : decode cX12_isKept 208 = .ok (.aload_n 0, 1) := by decide +kernel
theorem d_M_isKept_209 : decode cX12_isKept 209 = .ok (.getfield 193, 3) := by decide +kernel
theorem d_M_isKept_212 : decode cX12_isKept 212 = .ok (.ldc2_w 298, 3) := by decide +kernel
theorem d_M_isKept_215 : decode cX12_isKept 215 = .ok (.lcmp, 1) := by decide +kernel
theorem d_M_isKept_216 : decode cX12_isKept 216 = .ok (.ifCond .eq 58, 3) := by decide +kernel
theorem d_M_isKept_219 : decode cX12_isKept 219 = .ok (.aload_n 0, 1) := by decide +kernel
theorem d_M_isKept_220 : decode cX12_isKept 220 = .ok (.getfield 193, 3) := by decide +kernel
theorem d_M_isKept_223 : decode cX12_isKept 223 = .ok (.ldc2_w 300, 3) := by decide +kernel
theorem d_M_isKept_226 : decode cX12_isKept 226 = .ok (.lcmp, 1) := by decide +kernel
theorem d_M_isKept_227 : decode cX12_isKept 227 = .ok (.ifCond .eq 47, 3) := by decide +kernel
theorem d_M_isKept_230 : decode cX12_isKept 230 = .ok (.aload_n 0, 1) := by decide +kernel
theorem d_M_isKept_231 : decode cX12_isKept 231 = .ok (.getfield 193, 3) := by decide +kernel
theorem d_M_isKept_234 : decode cX12_isKept 234 = .ok (.ldc2_w 302, 3) := by decide +kernel
theorem d_M_isKept_237 : decode cX12_isKept 237 = .ok (.lcmp, 1) := by decide +kernel
theorem d_M_isKept_238 : decode cX12_isKept 238 = .ok (.ifCond .eq 36, 3) := by decide +kernel
theorem d_M_isKept_241 : decode cX12_isKept 241 = .ok (.aload_n 0, 1) := by decide +kernel
theorem d_M_isKept_242 : decode cX12_isKept 242 = .ok (.getfield 193, 3) := by decide +kernel
theorem d_M_isKept_245 : decode cX12_isKept 245 = .ok (.ldc2_w 229, 3) := by decide +kernel
theorem d_M_isKept_248 : decode cX12_isKept 248 = .ok (.lcmp, 1) := by decide +kernel
theorem d_M_isKept_249 : decode cX12_isKept 249 = .ok (.ifCond .eq 25, 3) := by decide +kernel
theorem d_M_isKept_252 : decode cX12_isKept 252 = .ok (.aload_n 0, 1) := by decide +kernel
theorem d_M_isKept_253 : decode cX12_isKept 253 = .ok (.getfield 193, 3) := by decide +kernel
theorem d_M_isKept_256 : decode cX12_isKept 256 = .ok (.ldc2_w 249, 3) := by decide +kernel
theorem d_M_isKept_259 : decode cX12_isKept 259 = .ok (.lcmp, 1) := by decide +kernel
theorem d_M_isKept_260 : decode cX12_isKept 260 = .ok (.ifCond .eq 14, 3) := by decide +kernel
theorem d_M_isKept_263 : decode cX12_isKept 263 = .ok (.aload_n 0, 1) := by decide +kernel
theorem d_M_isKept_264 : decode cX12_isKept 264 = .ok (.getfield 193, 3) := by decide +kernel
theorem d_M_isKept_267 : decode cX12_isKept 267 = .ok (.ldc2_w 251, 3) := by decide +kernel
theorem d_M_isKept_270 : decode cX12_isKept 270 = .ok (.lcmp, 1) := by decide +kernel
theorem d_M_isKept_271 : decode cX12_isKept 271 = .ok (.ifCond .ne 7, 3) := by decide +kernel
theorem d_M_isKept_274 : decode cX12_isKept 274 = .ok (.iconst 1, 1) := by decide +kernel
theorem d_M_isKept_275 : decode cX12_isKept 275 = .ok (.goto 4, 3) := by decide +kernel
theorem d_M_isKept_278 : decode cX12_isKept 278 = .ok (.iconst 0, 1) := by decide +kernel
theorem d_M_isKept_279 : decode cX12_isKept 279 = .ok (.ireturn, 1) := by decide +kernel
noncomputable def f_M_isKept (h : mm_H) : Option Int32 := if (h.1 261 6) = 1 then (if (lg_cmp (h.2.1 261 7) 232608281) = 0 then (some 1) else (if (lg_cmp (h.2.1 261 7) 355412) = 0 then (some 1) else (if (lg_cmp (h.2.1 261 7) 14631) = 0 then (some 1) else (if (lg_cmp (h.2.1 261 7) 275358764) = 0 then (some 1) else (if (lg_cmp (h.2.1 261 7) 411) = 0 then (some 1) else (if (lg_cmp (h.2.1 261 7) 1903978) = 0 then (some 1) else (if (lg_cmp (h.2.1 261 7) 419) = 0 then (some 1) else (if (lg_cmp (h.2.1 261 7) 79) = 0 then (some 1) else (if (lg_cmp (h.2.1 261 7) 3690) = 0 then (some 1) else (if (lg_cmp (h.2.1 261 7) 1831769) = 0 then (some 1) else (if (lg_cmp (h.2.1 261 7) 12532058) = 0 then (some 1) else (if (lg_cmp (h.2.1 261 7) 397641) = 0 then (some 1) else (if (lg_cmp (h.2.1 261 7) 11716) = 0 then (some 1) else (if (lg_cmp (h.2.1 261 7) 361373) = 0 then (some 1) else (if (lg_cmp (h.2.1 261 7) 6888375828) = 0 then (some 1) else (if (lg_cmp (h.2.1 261 7) 8740238) = 0 then (some 1) else (if (lg_cmp (h.2.1 261 7) 108802051) = 0 then (some 1) else (if (lg_cmp (h.2.1 261 7) 82410) = 0 then (some 1) else (if (lg_cmp (h.2.1 261 7) 239329775) = 0 then (some 1) else (if (lg_cmp (h.2.1 261 7) 407354) = 0 then (some 1) else (if (lg_cmp (h.2.1 261 7) 3217595) = 0 then (some 1) else (if (lg_cmp (h.2.1 261 7) 10631) = 0 then (some 1) else (if (lg_cmp (h.2.1 261 7) 1111) = 0 then (some 1) else (if (lg_cmp (h.2.1 261 7) 423) = 0 then (some 1) else (some 0))))))))))))))))))))))))) else (some 1)
theorem T_M_isKept (V : mm_V) (l : Launch) (h : mm_H) (r : Int32) (hf : f_M_isKept h = some r) : MT V l Y_M_isKept 1 [.ref 261] (fun r1 h1 => r1 = some (.int r) ∧ h1 = h) h := by
  unfold f_M_isKept at hf
  refine MT.intro (pn_M rfl) [(0, .ref 261)] rfl (Nat.le_of_ble_eq_true rfl) ?_
  generalize hZ : mm_Z V _ = Z0
  refine MM.aload_n (i := 0) rfl rfl d_M_isKept_0 rfl ?_
  refine MM.getI 9 tg_261 lays_9 gq_9_6 ww_1364 d_M_isKept_1 rfl ?_
  refine MM.iconst ic_1 d_M_isKept_4 rfl ?_
  obtain ⟨m74, m75⟩ := mm_ifE hf
  refine MM.icmp_eq (tgt := 10) d_M_isKept_5 rfl rfl (fun c73 => ?_) (fun c73 => ?_)
  · replace hf := m74 c73
    refine MM.aload_n (i := 0) rfl rfl d_M_isKept_10 rfl ?_
    refine MM.getL 9 tg_261 lays_9 gq_9_7 ww_1365 d_M_isKept_11 rfl ?_
    refine MM.ldc2 ww_1601 d_M_isKept_14 rfl ?_
    refine MM.lcmp d_M_isKept_17 rfl ?_
    obtain ⟨m71, m72⟩ := mm_ifE hf
    refine MM.if_eq (tgt := 274) d_M_isKept_18 rfl rfl (fun c70 => ?_) (fun c70 => ?_)
    · replace hf := m71 c70
      refine MM.iconst ic_1 d_M_isKept_274 rfl ?_
      refine MM.goto (tgt := 279) d_M_isKept_275 rfl ?_
      obtain rfl := Option.some.inj hf
      subst hZ
      exact MM.zret (Or.inr rfl) rfl d_M_isKept_279 ⟨rfl, rfl⟩
    · replace hf := m72 c70
      refine MM.aload_n (i := 0) rfl rfl d_M_isKept_21 rfl ?_
      refine MM.getL 9 tg_261 lays_9 gq_9_7 ww_1365 d_M_isKept_22 rfl ?_
      refine MM.ldc2 ww_1622 d_M_isKept_25 rfl ?_
      refine MM.lcmp d_M_isKept_28 rfl ?_
      obtain ⟨m68, m69⟩ := mm_ifE hf
      refine MM.if_eq (tgt := 274) d_M_isKept_29 rfl rfl (fun c67 => ?_) (fun c67 => ?_)
      · replace hf := m68 c67
        refine MM.iconst ic_1 d_M_isKept_274 rfl ?_
        refine MM.goto (tgt := 279) d_M_isKept_275 rfl ?_
        obtain rfl := Option.some.inj hf
        subst hZ
        exact MM.zret (Or.inr rfl) rfl d_M_isKept_279 ⟨rfl, rfl⟩
      · replace hf := m69 c67
        refine MM.aload_n (i := 0) rfl rfl d_M_isKept_32 rfl ?_
        refine MM.getL 9 tg_261 lays_9 gq_9_7 ww_1365 d_M_isKept_33 rfl ?_
        refine MM.ldc2 ww_1623 d_M_isKept_36 rfl ?_
        refine MM.lcmp d_M_isKept_39 rfl ?_
        obtain ⟨m65, m66⟩ := mm_ifE hf
        refine MM.if_eq (tgt := 274) d_M_isKept_40 rfl rfl (fun c64 => ?_) (fun c64 => ?_)
        · replace hf := m65 c64
          refine MM.iconst ic_1 d_M_isKept_274 rfl ?_
          refine MM.goto (tgt := 279) d_M_isKept_275 rfl ?_
          obtain rfl := Option.some.inj hf
          subst hZ
          exact MM.zret (Or.inr rfl) rfl d_M_isKept_279 ⟨rfl, rfl⟩
        · replace hf := m66 c64
          refine MM.aload_n (i := 0) rfl rfl d_M_isKept_43 rfl ?_
          refine MM.getL 9 tg_261 lays_9 gq_9_7 ww_1365 d_M_isKept_44 rfl ?_
          refine MM.ldc2 ww_1624 d_M_isKept_47 rfl ?_
          refine MM.lcmp d_M_isKept_50 rfl ?_
          obtain ⟨m62, m63⟩ := mm_ifE hf
          refine MM.if_eq (tgt := 274) d_M_isKept_51 rfl rfl (fun c61 => ?_) (fun c61 => ?_)
          · replace hf := m62 c61
            refine MM.iconst ic_1 d_M_isKept_274 rfl ?_
            refine MM.goto (tgt := 279) d_M_isKept_275 rfl ?_
            obtain rfl := Option.some.inj hf
            subst hZ
            exact MM.zret (Or.inr rfl) rfl d_M_isKept_279 ⟨rfl, rfl⟩
          · replace hf := m63 c61
            refine MM.aload_n (i := 0) rfl rfl d_M_isKept_54 rfl ?_
            refine MM.getL 9 tg_261 lays_9 gq_9_7 ww_1365 d_M_isKept_55 rfl ?_
            refine MM.ldc2 ww_1625 d_M_isKept_58 rfl ?_
            refine MM.lcmp d_M_isKept_61 rfl ?_
            obtain ⟨m59, m60⟩ := mm_ifE hf
            refine MM.if_eq (tgt := 274) d_M_isKept_62 rfl rfl (fun c58 => ?_) (fun c58 => ?_)
            · replace hf := m59 c58
              refine MM.iconst ic_1 d_M_isKept_274 rfl ?_
              refine MM.goto (tgt := 279) d_M_isKept_275 rfl ?_
              obtain rfl := Option.some.inj hf
              subst hZ
              exact MM.zret (Or.inr rfl) rfl d_M_isKept_279 ⟨rfl, rfl⟩
            · replace hf := m60 c58
              refine MM.aload_n (i := 0) rfl rfl d_M_isKept_65 rfl ?_
              refine MM.getL 9 tg_261 lays_9 gq_9_7 ww_1365 d_M_isKept_66 rfl ?_
              refine MM.ldc2 ww_1626 d_M_isKept_69 rfl ?_
              refine MM.lcmp d_M_isKept_72 rfl ?_
              obtain ⟨m56, m57⟩ := mm_ifE hf
              refine MM.if_eq (tgt := 274) d_M_isKept_73 rfl rfl (fun c55 => ?_) (fun c55 => ?_)
              · replace hf := m56 c55
                refine MM.iconst ic_1 d_M_isKept_274 rfl ?_
                refine MM.goto (tgt := 279) d_M_isKept_275 rfl ?_
                obtain rfl := Option.some.inj hf
                subst hZ
                exact MM.zret (Or.inr rfl) rfl d_M_isKept_279 ⟨rfl, rfl⟩
              · replace hf := m57 c55
                refine MM.aload_n (i := 0) rfl rfl d_M_isKept_76 rfl ?_
                refine MM.getL 9 tg_261 lays_9 gq_9_7 ww_1365 d_M_isKept_77 rfl ?_
                refine MM.ldc2 ww_1627 d_M_isKept_80 rfl ?_
                refine MM.lcmp d_M_isKept_83 rfl ?_
                obtain ⟨m53, m54⟩ := mm_ifE hf
                refine MM.if_eq (tgt := 274) d_M_isKept_84 rfl rfl (fun c52 => ?_) (fun c52 => ?_)
                · replace hf := m53 c52
                  refine MM.iconst ic_1 d_M_isKept_274 rfl ?_
                  refine MM.goto (tgt := 279) d_M_isKept_275 rfl ?_
                  obtain rfl := Option.some.inj hf
                  subst hZ
                  exact MM.zret (Or.inr rfl) rfl d_M_isKept_279 ⟨rfl, rfl⟩
                · replace hf := m54 c52
                  refine MM.aload_n (i := 0) rfl rfl d_M_isKept_87 rfl ?_
                  refine MM.getL 9 tg_261 lays_9 gq_9_7 ww_1365 d_M_isKept_88 rfl ?_
                  refine MM.ldc2 ww_1628 d_M_isKept_91 rfl ?_
                  refine MM.lcmp d_M_isKept_94 rfl ?_
                  obtain ⟨m50, m51⟩ := mm_ifE hf
                  refine MM.if_eq (tgt := 274) d_M_isKept_95 rfl rfl (fun c49 => ?_) (fun c49 => ?_)
                  · replace hf := m50 c49
                    refine MM.iconst ic_1 d_M_isKept_274 rfl ?_
                    refine MM.goto (tgt := 279) d_M_isKept_275 rfl ?_
                    obtain rfl := Option.some.inj hf
                    subst hZ
                    exact MM.zret (Or.inr rfl) rfl d_M_isKept_279 ⟨rfl, rfl⟩
                  · replace hf := m51 c49
                    refine MM.aload_n (i := 0) rfl rfl d_M_isKept_98 rfl ?_
                    refine MM.getL 9 tg_261 lays_9 gq_9_7 ww_1365 d_M_isKept_99 rfl ?_
                    refine MM.ldc2 ww_1629 d_M_isKept_102 rfl ?_
                    refine MM.lcmp d_M_isKept_105 rfl ?_
                    obtain ⟨m47, m48⟩ := mm_ifE hf
                    refine MM.if_eq (tgt := 274) d_M_isKept_106 rfl rfl (fun c46 => ?_) (fun c46 => ?_)
                    · replace hf := m47 c46
                      refine MM.iconst ic_1 d_M_isKept_274 rfl ?_
                      refine MM.goto (tgt := 279) d_M_isKept_275 rfl ?_
                      obtain rfl := Option.some.inj hf
                      subst hZ
                      exact MM.zret (Or.inr rfl) rfl d_M_isKept_279 ⟨rfl, rfl⟩
                    · replace hf := m48 c46
                      refine MM.aload_n (i := 0) rfl rfl d_M_isKept_109 rfl ?_
                      refine MM.getL 9 tg_261 lays_9 gq_9_7 ww_1365 d_M_isKept_110 rfl ?_
                      refine MM.ldc2 ww_1630 d_M_isKept_113 rfl ?_
                      refine MM.lcmp d_M_isKept_116 rfl ?_
                      obtain ⟨m44, m45⟩ := mm_ifE hf
                      refine MM.if_eq (tgt := 274) d_M_isKept_117 rfl rfl (fun c43 => ?_) (fun c43 => ?_)
                      · replace hf := m44 c43
                        refine MM.iconst ic_1 d_M_isKept_274 rfl ?_
                        refine MM.goto (tgt := 279) d_M_isKept_275 rfl ?_
                        obtain rfl := Option.some.inj hf
                        subst hZ
                        exact MM.zret (Or.inr rfl) rfl d_M_isKept_279 ⟨rfl, rfl⟩
                      · replace hf := m45 c43
                        refine MM.aload_n (i := 0) rfl rfl d_M_isKept_120 rfl ?_
                        refine MM.getL 9 tg_261 lays_9 gq_9_7 ww_1365 d_M_isKept_121 rfl ?_
                        refine MM.ldc2 ww_1631 d_M_isKept_124 rfl ?_
                        refine MM.lcmp d_M_isKept_127 rfl ?_
                        obtain ⟨m41, m42⟩ := mm_ifE hf
                        refine MM.if_eq (tgt := 274) d_M_isKept_128 rfl rfl (fun c40 => ?_) (fun c40 => ?_)
                        · replace hf := m41 c40
                          refine MM.iconst ic_1 d_M_isKept_274 rfl ?_
                          refine MM.goto (tgt := 279) d_M_isKept_275 rfl ?_
                          obtain rfl := Option.some.inj hf
                          subst hZ
                          exact MM.zret (Or.inr rfl) rfl d_M_isKept_279 ⟨rfl, rfl⟩
                        · replace hf := m42 c40
                          refine MM.aload_n (i := 0) rfl rfl d_M_isKept_131 rfl ?_
                          refine MM.getL 9 tg_261 lays_9 gq_9_7 ww_1365 d_M_isKept_132 rfl ?_
                          refine MM.ldc2 ww_1632 d_M_isKept_135 rfl ?_
                          refine MM.lcmp d_M_isKept_138 rfl ?_
                          obtain ⟨m38, m39⟩ := mm_ifE hf
                          refine MM.if_eq (tgt := 274) d_M_isKept_139 rfl rfl (fun c37 => ?_) (fun c37 => ?_)
                          · replace hf := m38 c37
                            refine MM.iconst ic_1 d_M_isKept_274 rfl ?_
                            refine MM.goto (tgt := 279) d_M_isKept_275 rfl ?_
                            obtain rfl := Option.some.inj hf
                            subst hZ
                            exact MM.zret (Or.inr rfl) rfl d_M_isKept_279 ⟨rfl, rfl⟩
                          · replace hf := m39 c37
                            refine MM.aload_n (i := 0) rfl rfl d_M_isKept_142 rfl ?_
                            refine MM.getL 9 tg_261 lays_9 gq_9_7 ww_1365 d_M_isKept_143 rfl ?_
                            refine MM.ldc2 ww_1633 d_M_isKept_146 rfl ?_
                            refine MM.lcmp d_M_isKept_149 rfl ?_
                            obtain ⟨m35, m36⟩ := mm_ifE hf
                            refine MM.if_eq (tgt := 274) d_M_isKept_150 rfl rfl (fun c34 => ?_) (fun c34 => ?_)
                            · replace hf := m35 c34
                              refine MM.iconst ic_1 d_M_isKept_274 rfl ?_
                              refine MM.goto (tgt := 279) d_M_isKept_275 rfl ?_
                              obtain rfl := Option.some.inj hf
                              subst hZ
                              exact MM.zret (Or.inr rfl) rfl d_M_isKept_279 ⟨rfl, rfl⟩
                            · replace hf := m36 c34
                              refine MM.aload_n (i := 0) rfl rfl d_M_isKept_153 rfl ?_
                              refine MM.getL 9 tg_261 lays_9 gq_9_7 ww_1365 d_M_isKept_154 rfl ?_
                              refine MM.ldc2 ww_1634 d_M_isKept_157 rfl ?_
                              refine MM.lcmp d_M_isKept_160 rfl ?_
                              obtain ⟨m32, m33⟩ := mm_ifE hf
                              refine MM.if_eq (tgt := 274) d_M_isKept_161 rfl rfl (fun c31 => ?_) (fun c31 => ?_)
                              · replace hf := m32 c31
                                refine MM.iconst ic_1 d_M_isKept_274 rfl ?_
                                refine MM.goto (tgt := 279) d_M_isKept_275 rfl ?_
                                obtain rfl := Option.some.inj hf
                                subst hZ
                                exact MM.zret (Or.inr rfl) rfl d_M_isKept_279 ⟨rfl, rfl⟩
                              · replace hf := m33 c31
                                refine MM.aload_n (i := 0) rfl rfl d_M_isKept_164 rfl ?_
                                refine MM.getL 9 tg_261 lays_9 gq_9_7 ww_1365 d_M_isKept_165 rfl ?_
                                refine MM.ldc2 ww_1635 d_M_isKept_168 rfl ?_
                                refine MM.lcmp d_M_isKept_171 rfl ?_
                                obtain ⟨m29, m30⟩ := mm_ifE hf
                                refine MM.if_eq (tgt := 274) d_M_isKept_172 rfl rfl (fun c28 => ?_) (fun c28 => ?_)
                                · replace hf := m29 c28
                                  refine MM.iconst ic_1 d_M_isKept_274 rfl ?_
                                  refine MM.goto (tgt := 279) d_M_isKept_275 rfl ?_
                                  obtain rfl := Option.some.inj hf
                                  subst hZ
                                  exact MM.zret (Or.inr rfl) rfl d_M_isKept_279 ⟨rfl, rfl⟩
                                · replace hf := m30 c28
                                  refine MM.aload_n (i := 0) rfl rfl d_M_isKept_175 rfl ?_
                                  refine MM.getL 9 tg_261 lays_9 gq_9_7 ww_1365 d_M_isKept_176 rfl ?_
                                  refine MM.ldc2 ww_1636 d_M_isKept_179 rfl ?_
                                  refine MM.lcmp d_M_isKept_182 rfl ?_
                                  obtain ⟨m26, m27⟩ := mm_ifE hf
                                  refine MM.if_eq (tgt := 274) d_M_isKept_183 rfl rfl (fun c25 => ?_) (fun c25 => ?_)
                                  · replace hf := m26 c25
                                    refine MM.iconst ic_1 d_M_isKept_274 rfl ?_
                                    refine MM.goto (tgt := 279) d_M_isKept_275 rfl ?_
                                    obtain rfl := Option.some.inj hf
                                    subst hZ
                                    exact MM.zret (Or.inr rfl) rfl d_M_isKept_279 ⟨rfl, rfl⟩
                                  · replace hf := m27 c25
                                    refine MM.aload_n (i := 0) rfl rfl d_M_isKept_186 rfl ?_
                                    refine MM.getL 9 tg_261 lays_9 gq_9_7 ww_1365 d_M_isKept_187 rfl ?_
                                    refine MM.ldc2 ww_1637 d_M_isKept_190 rfl ?_
                                    refine MM.lcmp d_M_isKept_193 rfl ?_
                                    obtain ⟨m23, m24⟩ := mm_ifE hf
                                    refine MM.if_eq (tgt := 274) d_M_isKept_194 rfl rfl (fun c22 => ?_) (fun c22 => ?_)
                                    · replace hf := m23 c22
                                      refine MM.iconst ic_1 d_M_isKept_274 rfl ?_
                                      refine MM.goto (tgt := 279) d_M_isKept_275 rfl ?_
                                      obtain rfl := Option.some.inj hf
                                      subst hZ
                                      exact MM.zret (Or.inr rfl) rfl d_M_isKept_279 ⟨rfl, rfl⟩
                                    · replace hf := m24 c22
                                      refine MM.aload_n (i := 0) rfl rfl d_M_isKept_197 rfl ?_
                                      refine MM.getL 9 tg_261 lays_9 gq_9_7 ww_1365 d_M_isKept_198 rfl ?_
                                      refine MM.ldc2 ww_1638 d_M_isKept_201 rfl ?_
                                      refine MM.lcmp d_M_isKept_204 rfl ?_
                                      obtain ⟨m20, m21⟩ := mm_ifE hf
                                      refine MM.if_eq (tgt := 274) d_M_isKept_205 rfl rfl (fun c19 => ?_) (fun c19 => ?_)
                                      · replace hf := m20 c19
                                        refine MM.iconst ic_1 d_M_isKept_274 rfl ?_
                                        refine MM.goto (tgt := 279) d_M_isKept_275 rfl ?_
                                        obtain rfl := Option.some.inj hf
                                        subst hZ
                                        exact MM.zret (Or.inr rfl) rfl d_M_isKept_279 ⟨rfl, rfl⟩
                                      · replace hf := m21 c19
                                        refine MM.aload_n (i := 0) rfl rfl d_M_isKept_208 rfl ?_
                                        refine MM.getL 9 tg_261 lays_9 gq_9_7 ww_1365 d_M_isKept_209 rfl ?_
                                        refine MM.ldc2 ww_1639 d_M_isKept_212 rfl ?_
                                        refine MM.lcmp d_M_isKept_215 rfl ?_
                                        obtain ⟨m17, m18⟩ := mm_ifE hf
                                        refine MM.if_eq (tgt := 274) d_M_isKept_216 rfl rfl (fun c16 => ?_) (fun c16 => ?_)
                                        · replace hf := m17 c16
                                          refine MM.iconst ic_1 d_M_isKept_274 rfl ?_
                                          refine MM.goto (tgt := 279) d_M_isKept_275 rfl ?_
                                          obtain rfl := Option.some.inj hf
                                          subst hZ
                                          exact MM.zret (Or.inr rfl) rfl d_M_isKept_279 ⟨rfl, rfl⟩
                                        · replace hf := m18 c16
                                          refine MM.aload_n (i := 0) rfl rfl d_M_isKept_219 rfl ?_
                                          refine MM.getL 9 tg_261 lays_9 gq_9_7 ww_1365 d_M_isKept_220 rfl ?_
                                          refine MM.ldc2 ww_1640 d_M_isKept_223 rfl ?_
                                          refine MM.lcmp d_M_isKept_226 rfl ?_
                                          obtain ⟨m14, m15⟩ := mm_ifE hf
                                          refine MM.if_eq (tgt := 274) d_M_isKept_227 rfl rfl (fun c13 => ?_) (fun c13 => ?_)
                                          · replace hf := m14 c13
                                            refine MM.iconst ic_1 d_M_isKept_274 rfl ?_
                                            refine MM.goto (tgt := 279) d_M_isKept_275 rfl ?_
                                            obtain rfl := Option.some.inj hf
                                            subst hZ
                                            exact MM.zret (Or.inr rfl) rfl d_M_isKept_279 ⟨rfl, rfl⟩
                                          · replace hf := m15 c13
                                            refine MM.aload_n (i := 0) rfl rfl d_M_isKept_230 rfl ?_
                                            refine MM.getL 9 tg_261 lays_9 gq_9_7 ww_1365 d_M_isKept_231 rfl ?_
                                            refine MM.ldc2 ww_1641 d_M_isKept_234 rfl ?_
                                            refine MM.lcmp d_M_isKept_237 rfl ?_
                                            obtain ⟨m11, m12⟩ := mm_ifE hf
                                            refine MM.if_eq (tgt := 274) d_M_isKept_238 rfl rfl (fun c10 => ?_) (fun c10 => ?_)
                                            · replace hf := m11 c10
                                              refine MM.iconst ic_1 d_M_isKept_274 rfl ?_
                                              refine MM.goto (tgt := 279) d_M_isKept_275 rfl ?_
                                              obtain rfl := Option.some.inj hf
                                              subst hZ
                                              exact MM.zret (Or.inr rfl) rfl d_M_isKept_279 ⟨rfl, rfl⟩
                                            · replace hf := m12 c10
                                              refine MM.aload_n (i := 0) rfl rfl d_M_isKept_241 rfl ?_
                                              refine MM.getL 9 tg_261 lays_9 gq_9_7 ww_1365 d_M_isKept_242 rfl ?_
                                              refine MM.ldc2 ww_1642 d_M_isKept_245 rfl ?_
                                              refine MM.lcmp d_M_isKept_248 rfl ?_
                                              obtain ⟨m8, m9⟩ := mm_ifE hf
                                              refine MM.if_eq (tgt := 274) d_M_isKept_249 rfl rfl (fun c7 => ?_) (fun c7 => ?_)
                                              · replace hf := m8 c7
                                                refine MM.iconst ic_1 d_M_isKept_274 rfl ?_
                                                refine MM.goto (tgt := 279) d_M_isKept_275 rfl ?_
                                                obtain rfl := Option.some.inj hf
                                                subst hZ
                                                exact MM.zret (Or.inr rfl) rfl d_M_isKept_279 ⟨rfl, rfl⟩
                                              · replace hf := m9 c7
                                                refine MM.aload_n (i := 0) rfl rfl d_M_isKept_252 rfl ?_
                                                refine MM.getL 9 tg_261 lays_9 gq_9_7 ww_1365 d_M_isKept_253 rfl ?_
                                                refine MM.ldc2 ww_1643 d_M_isKept_256 rfl ?_
                                                refine MM.lcmp d_M_isKept_259 rfl ?_
                                                obtain ⟨m5, m6⟩ := mm_ifE hf
                                                refine MM.if_eq (tgt := 274) d_M_isKept_260 rfl rfl (fun c4 => ?_) (fun c4 => ?_)
                                                · replace hf := m5 c4
                                                  refine MM.iconst ic_1 d_M_isKept_274 rfl ?_
                                                  refine MM.goto (tgt := 279) d_M_isKept_275 rfl ?_
                                                  obtain rfl := Option.some.inj hf
                                                  subst hZ
                                                  exact MM.zret (Or.inr rfl) rfl d_M_isKept_279 ⟨rfl, rfl⟩
                                                · replace hf := m6 c4
                                                  refine MM.aload_n (i := 0) rfl rfl d_M_isKept_263 rfl ?_
                                                  refine MM.getL 9 tg_261 lays_9 gq_9_7 ww_1365 d_M_isKept_264 rfl ?_
                                                  refine MM.ldc2 ww_1644 d_M_isKept_267 rfl ?_
                                                  refine MM.lcmp d_M_isKept_270 rfl ?_
                                                  obtain ⟨m2, m3⟩ := mm_ifE hf
                                                  refine MM.if_ne (tgt := 278) d_M_isKept_271 rfl rfl (fun c1 => ?_) (fun c1 => ?_)
                                                  · replace hf := m3 c1
                                                    refine MM.iconst ic_0 d_M_isKept_278 rfl ?_
                                                    obtain rfl := Option.some.inj hf
                                                    subst hZ
                                                    exact MM.zret (Or.inl rfl) rfl d_M_isKept_279 ⟨rfl, rfl⟩
                                                  · replace hf := m2 c1
                                                    refine MM.iconst ic_1 d_M_isKept_274 rfl ?_
                                                    refine MM.goto (tgt := 279) d_M_isKept_275 rfl ?_
                                                    obtain rfl := Option.some.inj hf
                                                    subst hZ
                                                    exact MM.zret (Or.inr rfl) rfl d_M_isKept_279 ⟨rfl, rfl⟩
  · replace hf := m75 c73
    refine MM.iconst ic_1 d_M_isKept_8 rfl ?_
    obtain rfl := Option.some.inj hf
    subst hZ
    exact MM.zret (Or.inr rfl) rfl d_M_isKept_9 ⟨rfl, rfl⟩
theorem d_M_named_0 : decode cX12_named 0 = .ok (.iload_n 1, 1) := by decide +kernel
theorem d_M_named_1 : decode cX12_named 1 = .ok (.istore 5, 2) := by decide +kernel
theorem d_M_named_3 : decode cX12_named 3 = .ok (.iload 5, 2) := by decide +kernel
theorem d_M_named_5 : decode cX12_named 5 = .ok (.iload_n 1, 1) := by decide +kernel
theorem d_M_named_6 : decode cX12_named 6 = .ok (.iload_n 2, 1) := by decide +kernel
theorem d_M_named_7 : decode cX12_named 7 = .ok (.iadd, 1) := by decide +kernel
theorem d_M_named_8 : decode cX12_named 8 = .ok (.if_icmp .ge 23, 3) := by decide +kernel
theorem d_M_named_11 : decode cX12_named 11 = .ok (.aload_n 0, 1) := by decide +kernel
theorem d_M_named_12 : decode cX12_named 12 = .ok (.iload 5, 2) := by decide +kernel
theorem d_M_named_14 : decode cX12_named 14 = .ok (.laload, 1) := by decide +kernel
theorem d_M_named_15 : decode cX12_named 15 = .ok (.lload_n 3, 1) := by decide +kernel
theorem d_M_named_16 : decode cX12_named 16 = .ok (.lcmp, 1) := by decide +kernel
theorem d_M_named_17 : decode cX12_named 17 = .ok (.ifCond .ne 8, 3) := by decide +kernel
theorem d_M_named_20 : decode cX12_named 20 = .ok (.iload 5, 2) := by decide +kernel
theorem d_M_named_22 : decode cX12_named 22 = .ok (.iload_n 1, 1) := by decide +kernel
theorem d_M_named_23 : decode cX12_named 23 = .ok (.isub, 1) := by decide +kernel
theorem d_M_named_24 : decode cX12_named 24 = .ok (.ireturn, 1) := by decide +kernel
theorem d_M_named_25 : decode cX12_named 25 = .ok (.iinc 5 1, 3) := by decide +kernel
theorem d_M_named_28 : decode cX12_named 28 = .ok (.goto (-25), 3) := by decide +kernel
theorem d_M_named_31 : decode cX12_named 31 = .ok (.iconst (-1), 1) := by decide +kernel
theorem d_M_named_32 : decode cX12_named 32 = .ok (.ireturn, 1) := by decide +kernel
noncomputable def f_M_named (a0 : Nat) (x1 : Int32) (x2 : Int32) (x3 : Int64) (h : mm_H) : Option Int32 := if mm_tg a0 = 21 then (mm_while (σ := Int32) (ρ := Int32) (fun s1 => if (x1 + x2) ≤ s1 then (some (Sum.inr (-1))) else ((mm_ix s1 (mm_ln a0)).bind fun k4 => if (lg_cmp (h.2.1 a0 k4) x3) = 0 then (some (Sum.inr (s1 - x1))) else (mm_let (s1 + 1) fun y6 => some (Sum.inl y6)))) x1) else none
theorem T_M_named (V : mm_V) (l : Launch) (a0 : Nat) (x1 : Int32) (x2 : Int32) (x3 : Int64) (h : mm_H) (r : Int32) (hf : f_M_named a0 x1 x2 x3 h = some r) : MT V l Y_M_named 1 [.ref a0, .int x1, .int x2, .long x3] (fun r1 h1 => r1 = some (.int r) ∧ h1 = h) h := by
  unfold f_M_named at hf
  obtain ⟨t_a0, hf⟩ := mm_chkE hf
  refine MT.intro (pn_M rfl) [(0, .ref a0), (1, .int x1), (2, .int x2), (3, .long x3)] rfl (Nat.le_of_ble_eq_true rfl) ?_
  generalize hZ : mm_Z V _ = Z0
  refine MM.iload_n (i := 1) rfl rfl d_M_named_0 rfl ?_
  refine MM.istore (lv' := [(5, .int x1), (0, .ref a0), (1, .int x1), (2, .int x2), (3, .long x3)]) rfl (Nat.le_of_ble_eq_true rfl) rfl d_M_named_1 rfl ?_
  refine MM.sub [1, 2, 3, 4, 0] (by rfl) (mm_while_ind (fun s1 => MM V l Y_M_named 1 0 0 Z0 3 [(0, .ref a0), (1, .int x1), (2, .int x2), (3, .long x3), (5, .int s1)] [] h) hf (fun s1 q2 hf hx3 => ?_))
  refine MM.iload rfl d_M_named_3 rfl ?_
  refine MM.iload_n (i := 1) rfl rfl d_M_named_5 rfl ?_
  refine MM.iload_n (i := 2) rfl rfl d_M_named_6 rfl ?_
  refine MM.iadd d_M_named_7 rfl ?_
  obtain ⟨m12, m13⟩ := mm_ifE hf
  refine MM.icmp_ge (tgt := 31) d_M_named_8 rfl rfl (fun c11 => ?_) (fun c11 => ?_)
  · replace hf := m12 c11
    refine MM.iconst ic_m1 d_M_named_31 rfl ?_
    obtain rfl := Option.some.inj hf
    replace hf := mm_wxR hx3
    obtain rfl := Option.some.inj hf
    subst hZ
    exact MM.iret rfl d_M_named_32 ⟨rfl, rfl⟩
  · replace hf := m13 c11
    refine MM.aload_n (i := 0) rfl rfl d_M_named_11 rfl ?_
    refine MM.iload rfl d_M_named_12 rfl ?_
    obtain ⟨k4, e5, hf⟩ := mm_bind hf
    refine MM.gL e5 ⟨t_a0, rfl⟩ d_M_named_14 rfl ?_
    refine MM.lload_n (i := 3) rfl rfl d_M_named_15 rfl ?_
    refine MM.lcmp d_M_named_16 rfl ?_
    obtain ⟨m9, m10⟩ := mm_ifE hf
    refine MM.if_ne (tgt := 25) d_M_named_17 rfl rfl (fun c8 => ?_) (fun c8 => ?_)
    · replace hf := m10 c8
      obtain ⟨y6, e7, hf⟩ := mm_letE hf
      refine MM.iinc (k0 := 4) (lv' := [(5, .int y6), (0, .ref a0), (1, .int x1), (2, .int x2), (3, .long x3)]) (by rw [ic_1]; exact e7) rfl (Nat.le_of_ble_eq_true rfl) rfl d_M_named_25 rfl ?_
      refine MM.goto (tgt := 3) d_M_named_28 rfl ?_
      obtain rfl := Option.some.inj hf
      have h9 := mm_wxL hx3
      exact MM.sub [1, 2, 3, 4, 0] (by rfl) h9
    · replace hf := m9 c8
      refine MM.iload rfl d_M_named_20 rfl ?_
      refine MM.iload_n (i := 1) rfl rfl d_M_named_22 rfl ?_
      refine MM.isub d_M_named_23 rfl ?_
      obtain rfl := Option.some.inj hf
      replace hf := mm_wxR hx3
      obtain rfl := Option.some.inj hf
      subst hZ
      exact MM.iret rfl d_M_named_24 ⟨rfl, rfl⟩
theorem d_M_personNamed_0 : decode cX12_personNamed 0 = .ok (.aload_n 0, 1) := by decide +kernel
theorem d_M_personNamed_1 : decode cX12_personNamed 1 = .ok (.getfield 16, 3) := by decide +kernel
theorem d_M_personNamed_4 : decode cX12_personNamed 4 = .ok (.bipush 6, 2) := by decide +kernel
theorem d_M_personNamed_6 : decode cX12_personNamed 6 = .ok (.iload_n 1, 1) := by decide +kernel
theorem d_M_personNamed_7 : decode cX12_personNamed 7 = .ok (.imul, 1) := by decide +kernel
theorem d_M_personNamed_8 : decode cX12_personNamed 8 = .ok (.aload_n 0, 1) := by decide +kernel
theorem d_M_personNamed_9 : decode cX12_personNamed 9 = .ok (.getfield 13, 3) := by decide +kernel
theorem d_M_personNamed_12 : decode cX12_personNamed 12 = .ok (.iconst 4, 1) := by decide +kernel
theorem d_M_personNamed_13 : decode cX12_personNamed 13 = .ok (.iload_n 1, 1) := by decide +kernel
theorem d_M_personNamed_14 : decode cX12_personNamed 14 = .ok (.imul, 1) := by decide +kernel
theorem d_M_personNamed_15 : decode cX12_personNamed 15 = .ok (.iconst 0, 1) := by decide +kernel
theorem d_M_personNamed_16 : decode cX12_personNamed 16 = .ok (.iadd, 1) := by decide +kernel
theorem d_M_personNamed_17 : decode cX12_personNamed 17 = .ok (.iaload, 1) := by decide +kernel
theorem d_M_personNamed_18 : decode cX12_personNamed 18 = .ok (.aload_n 0, 1) := by decide +kernel
theorem d_M_personNamed_19 : decode cX12_personNamed 19 = .ok (.getfield 193, 3) := by decide +kernel
theorem d_M_personNamed_22 : decode cX12_personNamed 22 = .ok (.invokestatic 304, 3) := by decide +kernel
theorem d_M_personNamed_25 : decode cX12_personNamed 25 = .ok (.ireturn, 1) := by decide +kernel
noncomputable def f_M_personNamed (x1 : Int32) (h : mm_H) : Option Int32 := (mm_ix ((4 * x1) + 0) 8).bind fun k1 => (f_M_named 264 (6 * x1) (h.1 263 k1) (h.2.1 261 7) h).bind fun v4 => some v4
theorem T_M_personNamed (V : mm_V) (l : Launch) (x1 : Int32) (h : mm_H) (r : Int32) (hf : f_M_personNamed x1 h = some r) : MT V l Y_M_personNamed 2 [.ref 261, .int x1] (fun r1 h1 => r1 = some (.int r) ∧ h1 = h) h := by
  unfold f_M_personNamed at hf
  refine MT.intro (pn_M rfl) [(0, .ref 261), (1, .int x1)] rfl (Nat.le_of_ble_eq_true rfl) ?_
  generalize hZ : mm_Z V _ = Z0
  refine MM.aload_n (i := 0) rfl rfl d_M_personNamed_0 rfl ?_
  refine MM.gR 9 3 tg_261 rq_9_11 rfl lays_9 ww_1369 d_M_personNamed_1 rfl ?_
  refine MM.bipush bp_6 d_M_personNamed_4 rfl ?_
  refine MM.iload_n (i := 1) rfl rfl d_M_personNamed_6 rfl ?_
  refine MM.imul d_M_personNamed_7 rfl ?_
  refine MM.aload_n (i := 0) rfl rfl d_M_personNamed_8 rfl ?_
  refine MM.gR 9 2 tg_261 rq_9_10 rfl lays_9 ww_1368 d_M_personNamed_9 rfl ?_
  refine MM.iconst ic_4 d_M_personNamed_12 rfl ?_
  refine MM.iload_n (i := 1) rfl rfl d_M_personNamed_13 rfl ?_
  refine MM.imul d_M_personNamed_14 rfl ?_
  refine MM.iconst ic_0 d_M_personNamed_15 rfl ?_
  refine MM.iadd d_M_personNamed_16 rfl ?_
  obtain ⟨k1, e2, hf⟩ := mm_bind hf
  refine MM.gI e2 al_263 d_M_personNamed_17 rfl ?_
  refine MM.aload_n (i := 0) rfl rfl d_M_personNamed_18 rfl ?_
  refine MM.getL 9 tg_261 lays_9 gq_9_7 ww_1365 d_M_personNamed_19 rfl ?_
  obtain ⟨v4, e3, hf⟩ := mm_bind hf
  refine MM.callS1 (T_M_named V l 264 (6 * x1) (h.1 263 k1) (h.2.1 261 7) h _ e3) (fun _ _ q => q) cal_M_named rfl ww_1650 ww_1649 (by decide) (by simp [Value.category]) d_M_personNamed_22 rfl ⟨rfl, rfl⟩ rfl ?_
  obtain rfl := Option.some.inj hf
  subst hZ
  exact MM.iret rfl d_M_personNamed_25 ⟨rfl, rfl⟩
theorem d_M_secretNamed_0 : decode cX12_secretNamed 0 = .ok (.aload_n 0, 1) := by decide +kernel
theorem d_M_secretNamed_1 : decode cX12_secretNamed 1 = .ok (.getfield 20, 3) := by decide +kernel
theorem d_M_secretNamed_4 : decode cX12_secretNamed 4 = .ok (.bipush 10, 2) := by decide +kernel
theorem d_M_secretNamed_6 : decode cX12_secretNamed 6 = .ok (.iload_n 1, 1) := by decide +kernel
theorem d_M_secretNamed_7 : decode cX12_secretNamed 7 = .ok (.imul, 1) := by decide +kernel
theorem d_M_secretNamed_8 : decode cX12_secretNamed 8 = .ok (.aload_n 0, 1) := by decide +kernel
theorem d_M_secretNamed_9 : decode cX12_secretNamed 9 = .ok (.getfield 13, 3) := by decide +kernel
theorem d_M_secretNamed_12 : decode cX12_secretNamed 12 = .ok (.iconst 4, 1) := by decide +kernel
theorem d_M_secretNamed_13 : decode cX12_secretNamed 13 = .ok (.iload_n 1, 1) := by decide +kernel
theorem d_M_secretNamed_14 : decode cX12_secretNamed 14 = .ok (.imul, 1) := by decide +kernel
theorem d_M_secretNamed_15 : decode cX12_secretNamed 15 = .ok (.iconst 1, 1) := by decide +kernel
theorem d_M_secretNamed_16 : decode cX12_secretNamed 16 = .ok (.iadd, 1) := by decide +kernel
theorem d_M_secretNamed_17 : decode cX12_secretNamed 17 = .ok (.iaload, 1) := by decide +kernel
theorem d_M_secretNamed_18 : decode cX12_secretNamed 18 = .ok (.aload_n 0, 1) := by decide +kernel
theorem d_M_secretNamed_19 : decode cX12_secretNamed 19 = .ok (.getfield 193, 3) := by decide +kernel
theorem d_M_secretNamed_22 : decode cX12_secretNamed 22 = .ok (.invokestatic 304, 3) := by decide +kernel
theorem d_M_secretNamed_25 : decode cX12_secretNamed 25 = .ok (.ireturn, 1) := by decide +kernel
noncomputable def f_M_secretNamed (x1 : Int32) (h : mm_H) : Option Int32 := (mm_ix ((4 * x1) + 1) 8).bind fun k1 => (f_M_named 265 (10 * x1) (h.1 263 k1) (h.2.1 261 7) h).bind fun v4 => some v4
theorem T_M_secretNamed (V : mm_V) (l : Launch) (x1 : Int32) (h : mm_H) (r : Int32) (hf : f_M_secretNamed x1 h = some r) : MT V l Y_M_secretNamed 2 [.ref 261, .int x1] (fun r1 h1 => r1 = some (.int r) ∧ h1 = h) h := by
  unfold f_M_secretNamed at hf
  refine MT.intro (pn_M rfl) [(0, .ref 261), (1, .int x1)] rfl (Nat.le_of_ble_eq_true rfl) ?_
  generalize hZ : mm_Z V _ = Z0
  refine MM.aload_n (i := 0) rfl rfl d_M_secretNamed_0 rfl ?_
  refine MM.gR 9 4 tg_261 rq_9_12 rfl lays_9 ww_1370 d_M_secretNamed_1 rfl ?_
  refine MM.bipush bp_10 d_M_secretNamed_4 rfl ?_
  refine MM.iload_n (i := 1) rfl rfl d_M_secretNamed_6 rfl ?_
  refine MM.imul d_M_secretNamed_7 rfl ?_
  refine MM.aload_n (i := 0) rfl rfl d_M_secretNamed_8 rfl ?_
  refine MM.gR 9 2 tg_261 rq_9_10 rfl lays_9 ww_1368 d_M_secretNamed_9 rfl ?_
  refine MM.iconst ic_4 d_M_secretNamed_12 rfl ?_
  refine MM.iload_n (i := 1) rfl rfl d_M_secretNamed_13 rfl ?_
  refine MM.imul d_M_secretNamed_14 rfl ?_
  refine MM.iconst ic_1 d_M_secretNamed_15 rfl ?_
  refine MM.iadd d_M_secretNamed_16 rfl ?_
  obtain ⟨k1, e2, hf⟩ := mm_bind hf
  refine MM.gI e2 al_263 d_M_secretNamed_17 rfl ?_
  refine MM.aload_n (i := 0) rfl rfl d_M_secretNamed_18 rfl ?_
  refine MM.getL 9 tg_261 lays_9 gq_9_7 ww_1365 d_M_secretNamed_19 rfl ?_
  obtain ⟨v4, e3, hf⟩ := mm_bind hf
  refine MM.callS1 (T_M_named V l 265 (10 * x1) (h.1 263 k1) (h.2.1 261 7) h _ e3) (fun _ _ q => q) cal_M_named rfl ww_1650 ww_1649 (by decide) (by simp [Value.category]) d_M_secretNamed_22 rfl ⟨rfl, rfl⟩ rfl ?_
  obtain rfl := Option.some.inj hf
  subst hZ
  exact MM.iret rfl d_M_secretNamed_25 ⟨rfl, rfl⟩
theorem d_M_needsNumber_0 : decode cX12_needsNumber 0 = .ok (.aload_n 0, 1) := by decide +kernel
theorem d_M_needsNumber_1 : decode cX12_needsNumber 1 = .ok (.getfield 200, 3) := by decide +kernel
theorem d_M_needsNumber_4 : decode cX12_needsNumber 4 = .ok (.iconst 2, 1) := by decide +kernel
theorem d_M_needsNumber_5 : decode cX12_needsNumber 5 = .ok (.if_icmp .eq 9, 3) := by decide +kernel
theorem d_M_needsNumber_8 : decode cX12_needsNumber 8 = .ok (.aload_n 0, 1) := by decide +kernel
theorem d_M_needsNumber_9 : decode cX12_needsNumber 9 = .ok (.iconst 1, 1) := by decide +kernel
theorem d_M_needsNumber_10 : decode cX12_needsNumber 10 = .ok (.invokevirtual 239, 3) := by decide +kernel
theorem d_M_needsNumber_13 : decode cX12_needsNumber 13 = .ok (.ireturn, 1) := by decide +kernel
theorem d_M_needsNumber_14 : decode cX12_needsNumber 14 = .ok (.aload_n 0, 1) := by decide +kernel
theorem d_M_needsNumber_15 : decode cX12_needsNumber 15 = .ok (.getfield 197, 3) := by decide +kernel
theorem d_M_needsNumber_18 : decode cX12_needsNumber 18 = .ok (.iload_n 1, 1) := by decide +kernel
theorem d_M_needsNumber_19 : decode cX12_needsNumber 19 = .ok (.iload_n 2, 1) := by decide +kernel
theorem d_M_needsNumber_20 : decode cX12_needsNumber 20 = .ok (.invokestatic 308, 3) := by decide +kernel
theorem d_M_needsNumber_23 : decode cX12_needsNumber 23 = .ok (.ifCond .ne 9, 3) := by decide +kernel
theorem d_M_needsNumber_26 : decode cX12_needsNumber 26 = .ok (.aload_n 0, 1) := by decide +kernel
theorem d_M_needsNumber_27 : decode cX12_needsNumber 27 = .ok (.iconst 4, 1) := by decide +kernel
theorem d_M_needsNumber_28 : decode cX12_needsNumber 28 = .ok (.invokevirtual 239, 3) := by decide +kernel
theorem d_M_needsNumber_31 : decode cX12_needsNumber 31 = .ok (.ireturn, 1) := by decide +kernel
theorem d_M_needsNumber_32 : decode cX12_needsNumber 32 = .ok (.aload_n 0, 1) := by decide +kernel
theorem d_M_needsNumber_33 : decode cX12_needsNumber 33 = .ok (.aload_n 0, 1) := by decide +kernel
theorem d_M_needsNumber_34 : decode cX12_needsNumber 34 = .ok (.getfield 197, 3) := by decide +kernel
theorem d_M_needsNumber_37 : decode cX12_needsNumber 37 = .ok (.putfield 312, 3) := by decide +kernel
theorem d_M_needsNumber_40 : decode cX12_needsNumber 40 = .ok (.aload_n 0, 1) := by decide +kernel
theorem d_M_needsNumber_41 : decode cX12_needsNumber 41 = .ok (.invokevirtual 246, 3) := by decide +kernel
theorem d_M_needsNumber_44 : decode cX12_needsNumber 44 = .ok (.iconst 1, 1) := by decide +kernel
theorem d_M_needsNumber_45 : decode cX12_needsNumber 45 = .ok (.ireturn, 1) := by decide +kernel
noncomputable def f_M_needsNumber (x1 : Int32) (x2 : Int32) (h : mm_H) : Option (Int32 × mm_H) := if (h.1 261 6) = 2 then ((f_M_within (h.1 261 8) x1 x2).bind fun v2 => if v2 = 0 then ((f_M_fails 4 h).bind fun v8 => (mm_bo v8.1).bind fun b9 => some (b9, v8.2)) else (mm_let (mm_pI h 261 41 (h.1 261 8)) fun h3 => (f_M_nextToken h3).bind fun v6 => some (1, v6))) else ((f_M_fails 1 h).bind fun v15 => (mm_bo v15.1).bind fun b16 => some (b16, v15.2))
theorem T_M_needsNumber (V : mm_V) (l : Launch) (x1 : Int32) (x2 : Int32) (h : mm_H) (r : (Int32 × mm_H)) (hf : f_M_needsNumber x1 x2 h = some r) : MT V l Y_M_needsNumber 3 [.ref 261, .int x1, .int x2] (fun r1 h1 => r1 = some (.int r.1) ∧ h1 = r.2) h := by
  unfold f_M_needsNumber at hf
  refine MT.intro (pn_M rfl) [(0, .ref 261), (1, .int x1), (2, .int x2)] rfl (Nat.le_of_ble_eq_true rfl) ?_
  generalize hZ : mm_Z V _ = Z0
  refine MM.aload_n (i := 0) rfl rfl d_M_needsNumber_0 rfl ?_
  refine MM.getI 9 tg_261 lays_9 gq_9_6 ww_1364 d_M_needsNumber_1 rfl ?_
  refine MM.iconst ic_2 d_M_needsNumber_4 rfl ?_
  obtain ⟨m19, m20⟩ := mm_ifE hf
  refine MM.icmp_eq (tgt := 14) d_M_needsNumber_5 rfl rfl (fun c18 => ?_) (fun c18 => ?_)
  · replace hf := m19 c18
    refine MM.aload_n (i := 0) rfl rfl d_M_needsNumber_14 rfl ?_
    refine MM.getI 9 tg_261 lays_9 gq_9_8 ww_1366 d_M_needsNumber_15 rfl ?_
    refine MM.iload_n (i := 1) rfl rfl d_M_needsNumber_18 rfl ?_
    refine MM.iload_n (i := 2) rfl rfl d_M_needsNumber_19 rfl ?_
    obtain ⟨v2, e1, hf⟩ := mm_bind hf
    refine MM.callS1 (T_M_within V l (h.1 261 8) x1 x2 h _ e1) (fun _ _ q => q) cal_M_within rfl ww_1669 ww_1668 (by decide) (by simp [Value.category]) d_M_needsNumber_20 rfl ⟨rfl, rfl⟩ rfl ?_
    obtain ⟨m12, m13⟩ := mm_ifE hf
    refine MM.if_ne (tgt := 32) d_M_needsNumber_23 rfl rfl (fun c11 => ?_) (fun c11 => ?_)
    · replace hf := m13 c11
      refine MM.aload_n (i := 0) rfl rfl d_M_needsNumber_32 rfl ?_
      refine MM.aload_n (i := 0) rfl rfl d_M_needsNumber_33 rfl ?_
      refine MM.getI 9 tg_261 lays_9 gq_9_8 ww_1366 d_M_needsNumber_34 rfl ?_
      obtain ⟨h3, e4, hf⟩ := mm_letE hf
      refine MM.putI e4 9 tg_261 lays_9 toks_9 pq_9_41 ww_1399 d_M_needsNumber_37 rfl ?_
      refine MM.aload_n (i := 0) rfl rfl d_M_needsNumber_40 rfl ?_
      obtain ⟨v6, e5, hf⟩ := mm_bind hf
      refine MM.callV0 (T_M_nextToken V l  h3 _ e5) (fun _ _ q => q) cal_M_nextToken rfl tg_261 ct_9 ww_39 ww_1593 ww_1591 (by decide) (by simp [Value.category]) d_M_needsNumber_41 rfl ⟨rfl, rfl⟩ rfl ?_
      refine MM.iconst ic_1 d_M_needsNumber_44 rfl ?_
      obtain rfl := Option.some.inj hf
      subst hZ
      exact MM.zret (Or.inr rfl) rfl d_M_needsNumber_45 ⟨rfl, rfl⟩
    · replace hf := m12 c11
      refine MM.aload_n (i := 0) rfl rfl d_M_needsNumber_26 rfl ?_
      refine MM.iconst ic_4 d_M_needsNumber_27 rfl ?_
      obtain ⟨v8, e7, hf⟩ := mm_bind hf
      refine MM.callV1 (T_M_fails V l 4 h _ e7) (fun _ _ q => q) cal_M_fails rfl tg_261 ct_9 ww_43 ww_1612 ww_1610 (by decide) (by simp [Value.category]) d_M_needsNumber_28 rfl ⟨rfl, rfl⟩ rfl ?_
      obtain ⟨b9, e10, hf⟩ := mm_bind hf
      obtain ⟨ob9, e10⟩ := mm_boE e10
      subst e10
      obtain rfl := Option.some.inj hf
      subst hZ
      exact MM.zret ob9 rfl d_M_needsNumber_31 ⟨rfl, rfl⟩
  · replace hf := m20 c18
    refine MM.aload_n (i := 0) rfl rfl d_M_needsNumber_8 rfl ?_
    refine MM.iconst ic_1 d_M_needsNumber_9 rfl ?_
    obtain ⟨v15, e14, hf⟩ := mm_bind hf
    refine MM.callV1 (T_M_fails V l 1 h _ e14) (fun _ _ q => q) cal_M_fails rfl tg_261 ct_9 ww_43 ww_1612 ww_1610 (by decide) (by simp [Value.category]) d_M_needsNumber_10 rfl ⟨rfl, rfl⟩ rfl ?_
    obtain ⟨b16, e17, hf⟩ := mm_bind hf
    obtain ⟨ob16, e17⟩ := mm_boE e17
    subst e17
    obtain rfl := Option.some.inj hf
    subst hZ
    exact MM.zret ob16 rfl d_M_needsNumber_13 ⟨rfl, rfl⟩
theorem d_M_needsWord_0 : decode cX12_needsWord 0 = .ok (.aload_n 0, 1) := by decide +kernel
theorem d_M_needsWord_1 : decode cX12_needsWord 1 = .ok (.lload_n 1, 1) := by decide +kernel
theorem d_M_needsWord_2 : decode cX12_needsWord 2 = .ok (.invokevirtual 231, 3) := by decide +kernel
theorem d_M_needsWord_5 : decode cX12_needsWord 5 = .ok (.ifCond .ne 9, 3) := by decide +kernel
theorem d_M_needsWord_8 : decode cX12_needsWord 8 = .ok (.aload_n 0, 1) := by decide +kernel
theorem d_M_needsWord_9 : decode cX12_needsWord 9 = .ok (.iconst 1, 1) := by decide +kernel
theorem d_M_needsWord_10 : decode cX12_needsWord 10 = .ok (.invokevirtual 239, 3) := by decide +kernel
theorem d_M_needsWord_13 : decode cX12_needsWord 13 = .ok (.ireturn, 1) := by decide +kernel
theorem d_M_needsWord_14 : decode cX12_needsWord 14 = .ok (.aload_n 0, 1) := by decide +kernel
theorem d_M_needsWord_15 : decode cX12_needsWord 15 = .ok (.invokevirtual 246, 3) := by decide +kernel
theorem d_M_needsWord_18 : decode cX12_needsWord 18 = .ok (.iconst 1, 1) := by decide +kernel
theorem d_M_needsWord_19 : decode cX12_needsWord 19 = .ok (.ireturn, 1) := by decide +kernel
noncomputable def f_M_needsWord (x1 : Int64) (h : mm_H) : Option (Int32 × mm_H) := (f_M_isWord x1 h).bind fun v2 => if v2 = 0 then ((f_M_fails 1 h).bind fun v6 => (mm_bo v6.1).bind fun b7 => some (b7, v6.2)) else ((f_M_nextToken h).bind fun v4 => some (1, v4))
theorem T_M_needsWord (V : mm_V) (l : Launch) (x1 : Int64) (h : mm_H) (r : (Int32 × mm_H)) (hf : f_M_needsWord x1 h = some r) : MT V l Y_M_needsWord 3 [.ref 261, .long x1] (fun r1 h1 => r1 = some (.int r.1) ∧ h1 = r.2) h := by
  unfold f_M_needsWord at hf
  refine MT.intro (pn_M rfl) [(0, .ref 261), (1, .long x1)] rfl (Nat.le_of_ble_eq_true rfl) ?_
  generalize hZ : mm_Z V _ = Z0
  refine MM.aload_n (i := 0) rfl rfl d_M_needsWord_0 rfl ?_
  refine MM.lload_n (i := 1) rfl rfl d_M_needsWord_1 rfl ?_
  obtain ⟨v2, e1, hf⟩ := mm_bind hf
  refine MM.callV1 (T_M_isWord V l x1 h _ e1) (fun _ _ q => q) cal_M_isWord rfl tg_261 ct_9 ww_41 ww_1604 ww_1602 (by decide) (by simp [Value.category]) d_M_needsWord_2 rfl ⟨rfl, rfl⟩ rfl ?_
  obtain ⟨m10, m11⟩ := mm_ifE hf
  refine MM.if_ne (tgt := 14) d_M_needsWord_5 rfl rfl (fun c9 => ?_) (fun c9 => ?_)
  · replace hf := m11 c9
    refine MM.aload_n (i := 0) rfl rfl d_M_needsWord_14 rfl ?_
    obtain ⟨v4, e3, hf⟩ := mm_bind hf
    refine MM.callV0 (T_M_nextToken V l  h _ e3) (fun _ _ q => q) cal_M_nextToken rfl tg_261 ct_9 ww_39 ww_1593 ww_1591 (by decide) (by simp [Value.category]) d_M_needsWord_15 rfl ⟨rfl, rfl⟩ rfl ?_
    refine MM.iconst ic_1 d_M_needsWord_18 rfl ?_
    obtain rfl := Option.some.inj hf
    subst hZ
    exact MM.zret (Or.inr rfl) rfl d_M_needsWord_19 ⟨rfl, rfl⟩
  · replace hf := m10 c9
    refine MM.aload_n (i := 0) rfl rfl d_M_needsWord_8 rfl ?_
    refine MM.iconst ic_1 d_M_needsWord_9 rfl ?_
    obtain ⟨v6, e5, hf⟩ := mm_bind hf
    refine MM.callV1 (T_M_fails V l 1 h _ e5) (fun _ _ q => q) cal_M_fails rfl tg_261 ct_9 ww_43 ww_1612 ww_1610 (by decide) (by simp [Value.category]) d_M_needsWord_10 rfl ⟨rfl, rfl⟩ rfl ?_
    obtain ⟨b7, e8, hf⟩ := mm_bind hf
    obtain ⟨ob7, e8⟩ := mm_boE e8
    subst e8
    obtain rfl := Option.some.inj hf
    subst hZ
    exact MM.zret ob7 rfl d_M_needsWord_13 ⟨rfl, rfl⟩
theorem d_M_needsBoth_0 : decode cX12_needsBoth 0 = .ok (.aload_n 0, 1) := by decide +kernel
theorem d_M_needsBoth_1 : decode cX12_needsBoth 1 = .ok (.lload_n 1, 1) := by decide +kernel
theorem d_M_needsBoth_2 : decode cX12_needsBoth 2 = .ok (.invokevirtual 315, 3) := by decide +kernel
theorem d_M_needsBoth_5 : decode cX12_needsBoth 5 = .ok (.ifCond .eq 17, 3) := by decide +kernel
theorem d_M_needsBoth_8 : decode cX12_needsBoth 8 = .ok (.aload_n 0, 1) := by decide +kernel
theorem d_M_needsBoth_9 : decode cX12_needsBoth 9 = .ok (.iload_n 3, 1) := by decide +kernel
theorem d_M_needsBoth_10 : decode cX12_needsBoth 10 = .ok (.iload 4, 2) := by decide +kernel
theorem d_M_needsBoth_12 : decode cX12_needsBoth 12 = .ok (.invokevirtual 318, 3) := by decide +kernel
theorem d_M_needsBoth_15 : decode cX12_needsBoth 15 = .ok (.ifCond .eq 7, 3) := by decide +kernel
theorem d_M_needsBoth_18 : decode cX12_needsBoth 18 = .ok (.iconst 1, 1) := by decide +kernel
theorem d_M_needsBoth_19 : decode cX12_needsBoth 19 = .ok (.goto 4, 3) := by decide +kernel
theorem d_M_needsBoth_22 : decode cX12_needsBoth 22 = .ok (.iconst 0, 1) := by decide +kernel
theorem d_M_needsBoth_23 : decode cX12_needsBoth 23 = .ok (.ireturn, 1) := by decide +kernel
noncomputable def f_M_needsBoth (x1 : Int64) (x3 : Int32) (x4 : Int32) (h : mm_H) : Option (Int32 × mm_H) := (f_M_needsWord x1 h).bind fun v2 => if v2.1 = 0 then (some (0, v2.2)) else ((f_M_needsNumber x3 x4 v2.2).bind fun v4 => if v4.1 = 0 then (some (0, v4.2)) else (some (1, v4.2)))
theorem T_M_needsBoth (V : mm_V) (l : Launch) (x1 : Int64) (x3 : Int32) (x4 : Int32) (h : mm_H) (r : (Int32 × mm_H)) (hf : f_M_needsBoth x1 x3 x4 h = some r) : MT V l Y_M_needsBoth 4 [.ref 261, .long x1, .int x3, .int x4] (fun r1 h1 => r1 = some (.int r.1) ∧ h1 = r.2) h := by
  unfold f_M_needsBoth at hf
  refine MT.intro (pn_M rfl) [(0, .ref 261), (1, .long x1), (3, .int x3), (4, .int x4)] rfl (Nat.le_of_ble_eq_true rfl) ?_
  generalize hZ : mm_Z V _ = Z0
  refine MM.aload_n (i := 0) rfl rfl d_M_needsBoth_0 rfl ?_
  refine MM.lload_n (i := 1) rfl rfl d_M_needsBoth_1 rfl ?_
  obtain ⟨v2, e1, hf⟩ := mm_bind hf
  refine MM.callV1 (T_M_needsWord V l x1 h _ e1) (fun _ _ q => q) cal_M_needsWord rfl tg_261 ct_9 ww_49 ww_1662 ww_1660 (by decide) (by simp [Value.category]) d_M_needsBoth_2 rfl ⟨rfl, rfl⟩ rfl ?_
  obtain ⟨m9, m10⟩ := mm_ifE hf
  refine MM.if_eq (tgt := 22) d_M_needsBoth_5 rfl rfl (fun c8 => ?_) (fun c8 => ?_)
  · replace hf := m9 c8
    refine MM.iconst ic_0 d_M_needsBoth_22 rfl ?_
    obtain rfl := Option.some.inj hf
    subst hZ
    exact MM.zret (Or.inl rfl) rfl d_M_needsBoth_23 ⟨rfl, rfl⟩
  · replace hf := m10 c8
    refine MM.aload_n (i := 0) rfl rfl d_M_needsBoth_8 rfl ?_
    refine MM.iload_n (i := 3) rfl rfl d_M_needsBoth_9 rfl ?_
    refine MM.iload rfl d_M_needsBoth_10 rfl ?_
    obtain ⟨v4, e3, hf⟩ := mm_bind hf
    refine MM.callV1 (T_M_needsNumber V l x3 x4 v2.2 _ e3) (fun _ _ q => q) cal_M_needsNumber rfl tg_261 ct_9 ww_50 ww_1666 ww_1664 (by decide) (by simp [Value.category]) d_M_needsBoth_12 rfl ⟨rfl, rfl⟩ rfl ?_
    obtain ⟨m6, m7⟩ := mm_ifE hf
    refine MM.if_eq (tgt := 22) d_M_needsBoth_15 rfl rfl (fun c5 => ?_) (fun c5 => ?_)
    · replace hf := m6 c5
      refine MM.iconst ic_0 d_M_needsBoth_22 rfl ?_
      obtain rfl := Option.some.inj hf
      subst hZ
      exact MM.zret (Or.inl rfl) rfl d_M_needsBoth_23 ⟨rfl, rfl⟩
    · replace hf := m7 c5
      refine MM.iconst ic_1 d_M_needsBoth_18 rfl ?_
      refine MM.goto (tgt := 23) d_M_needsBoth_19 rfl ?_
      obtain rfl := Option.some.inj hf
      subst hZ
      exact MM.zret (Or.inr rfl) rfl d_M_needsBoth_23 ⟨rfl, rfl⟩
theorem d_M_closes_0 : decode cX12_closes 0 = .ok (.aload_n 0, 1) := by decide +kernel
theorem d_M_closes_1 : decode cX12_closes 1 = .ok (.bipush 59, 2) := by decide +kernel
theorem d_M_closes_3 : decode cX12_closes 3 = .ok (.invokevirtual 235, 3) := by decide +kernel
theorem d_M_closes_6 : decode cX12_closes 6 = .ok (.ifCond .ne 9, 3) := by decide +kernel
theorem d_M_closes_9 : decode cX12_closes 9 = .ok (.aload_n 0, 1) := by decide +kernel
theorem d_M_closes_10 : decode cX12_closes 10 = .ok (.iconst 1, 1) := by decide +kernel
theorem d_M_closes_11 : decode cX12_closes 11 = .ok (.invokevirtual 239, 3) := by decide +kernel
theorem d_M_closes_14 : decode cX12_closes 14 = .ok (.ireturn, 1) := by decide +kernel
theorem d_M_closes_15 : decode cX12_closes 15 = .ok (.aload_n 0, 1) := by decide +kernel
theorem d_M_closes_16 : decode cX12_closes 16 = .ok (.invokevirtual 246, 3) := by decide +kernel
theorem d_M_closes_19 : decode cX12_closes 19 = .ok (.iconst 1, 1) := by decide +kernel
theorem d_M_closes_20 : decode cX12_closes 20 = .ok (.ireturn, 1) := by decide +kernel
noncomputable def f_M_closes (h : mm_H) : Option (Int32 × mm_H) := (f_M_isSign 59 h).bind fun v2 => if v2 = 0 then ((f_M_fails 1 h).bind fun v6 => (mm_bo v6.1).bind fun b7 => some (b7, v6.2)) else ((f_M_nextToken h).bind fun v4 => some (1, v4))
theorem T_M_closes (V : mm_V) (l : Launch) (h : mm_H) (r : (Int32 × mm_H)) (hf : f_M_closes h = some r) : MT V l Y_M_closes 3 [.ref 261] (fun r1 h1 => r1 = some (.int r.1) ∧ h1 = r.2) h := by
  unfold f_M_closes at hf
  refine MT.intro (pn_M rfl) [(0, .ref 261)] rfl (Nat.le_of_ble_eq_true rfl) ?_
  generalize hZ : mm_Z V _ = Z0
  refine MM.aload_n (i := 0) rfl rfl d_M_closes_0 rfl ?_
  refine MM.bipush bp_59 d_M_closes_1 rfl ?_
  obtain ⟨v2, e1, hf⟩ := mm_bind hf
  refine MM.callV1 (T_M_isSign V l 59 h _ e1) (fun _ _ q => q) cal_M_isSign rfl tg_261 ct_9 ww_52 ww_1677 ww_1675 (by decide) (by simp [Value.category]) d_M_closes_3 rfl ⟨rfl, rfl⟩ rfl ?_
  obtain ⟨m10, m11⟩ := mm_ifE hf
  refine MM.if_ne (tgt := 15) d_M_closes_6 rfl rfl (fun c9 => ?_) (fun c9 => ?_)
  · replace hf := m11 c9
    refine MM.aload_n (i := 0) rfl rfl d_M_closes_15 rfl ?_
    obtain ⟨v4, e3, hf⟩ := mm_bind hf
    refine MM.callV0 (T_M_nextToken V l  h _ e3) (fun _ _ q => q) cal_M_nextToken rfl tg_261 ct_9 ww_39 ww_1593 ww_1591 (by decide) (by simp [Value.category]) d_M_closes_16 rfl ⟨rfl, rfl⟩ rfl ?_
    refine MM.iconst ic_1 d_M_closes_19 rfl ?_
    obtain rfl := Option.some.inj hf
    subst hZ
    exact MM.zret (Or.inr rfl) rfl d_M_closes_20 ⟨rfl, rfl⟩
  · replace hf := m10 c9
    refine MM.aload_n (i := 0) rfl rfl d_M_closes_9 rfl ?_
    refine MM.iconst ic_1 d_M_closes_10 rfl ?_
    obtain ⟨v6, e5, hf⟩ := mm_bind hf
    refine MM.callV1 (T_M_fails V l 1 h _ e5) (fun _ _ q => q) cal_M_fails rfl tg_261 ct_9 ww_43 ww_1612 ww_1610 (by decide) (by simp [Value.category]) d_M_closes_11 rfl ⟨rfl, rfl⟩ rfl ?_
    obtain ⟨b7, e8, hf⟩ := mm_bind hf
    obtain ⟨ob7, e8⟩ := mm_boE e8
    subst e8
    obtain rfl := Option.some.inj hf
    subst hZ
    exact MM.zret ob7 rfl d_M_closes_14 ⟨rfl, rfl⟩
theorem d_M_isNew_0 : decode cX12_isNew 0 = .ok (.aload_n 0, 1) := by decide +kernel
theorem d_M_isNew_1 : decode cX12_isNew 1 = .ok (.invokevirtual 322, 3) := by decide +kernel
theorem d_M_isNew_4 : decode cX12_isNew 4 = .ok (.ifCond .eq 9, 3) := by decide +kernel
theorem d_M_isNew_7 : decode cX12_isNew 7 = .ok (.aload_n 0, 1) := by decide +kernel
theorem d_M_isNew_8 : decode cX12_isNew 8 = .ok (.iconst 1, 1) := by decide +kernel
theorem d_M_isNew_9 : decode cX12_isNew 9 = .ok (.invokevirtual 239, 3) := by decide +kernel
theorem d_M_isNew_12 : decode cX12_isNew 12 = .ok (.ireturn, 1) := by decide +kernel
theorem d_M_isNew_13 : decode cX12_isNew 13 = .ok (.aload_n 0, 1) := by decide +kernel
theorem d_M_isNew_14 : decode cX12_isNew 14 = .ok (.iconst 1, 1) := by decide +kernel
theorem d_M_isNew_15 : decode cX12_isNew 15 = .ok (.invokevirtual 326, 3) := by decide +kernel
theorem d_M_isNew_18 : decode cX12_isNew 18 = .ok (.ifCond .ge 11, 3) := by decide +kernel
theorem d_M_isNew_21 : decode cX12_isNew 21 = .ok (.aload_n 0, 1) := by decide +kernel
theorem d_M_isNew_22 : decode cX12_isNew 22 = .ok (.iconst 1, 1) := by decide +kernel
theorem d_M_isNew_23 : decode cX12_isNew 23 = .ok (.invokevirtual 329, 3) := by decide +kernel
theorem d_M_isNew_26 : decode cX12_isNew 26 = .ok (.ifCond .lt 11, 3) := by decide +kernel
theorem d_M_isNew_29 : decode cX12_isNew 29 = .ok (.aload_n 0, 1) := by decide +kernel
theorem d_M_isNew_30 : decode cX12_isNew 30 = .ok (.iconst 3, 1) := by decide +kernel
theorem d_M_isNew_31 : decode cX12_isNew 31 = .ok (.invokevirtual 239, 3) := by decide +kernel
theorem d_M_isNew_34 : decode cX12_isNew 34 = .ok (.ifCond .eq 7, 3) := by decide +kernel
theorem d_M_isNew_37 : decode cX12_isNew 37 = .ok (.iconst 1, 1) := by decide +kernel
theorem d_M_isNew_38 : decode cX12_isNew 38 = .ok (.goto 4, 3) := by decide +kernel
theorem d_M_isNew_41 : decode cX12_isNew 41 = .ok (.iconst 0, 1) := by decide +kernel
theorem d_M_isNew_42 : decode cX12_isNew 42 = .ok (.ireturn, 1) := by decide +kernel
noncomputable def f_M_isNew (h : mm_H) : Option (Int32 × mm_H) := (f_M_isKept h).bind fun v2 => if v2 = 0 then ((f_M_personNamed 1 h).bind fun v4 => mm_jp (fun (j5 : Unit) => ((f_M_fails 3 h).bind fun v9 => if v9.1 = 0 then (some (0, v9.2)) else (some (1, v9.2)))) fun k7 => if 0 ≤ v4 then (k7 ()) else ((f_M_secretNamed 1 h).bind fun v14 => if v14 < 0 then (some (1, h)) else (k7 ()))) else ((f_M_fails 1 h).bind fun v23 => (mm_bo v23.1).bind fun b24 => some (b24, v23.2))
theorem T_M_isNew (V : mm_V) (l : Launch) (h : mm_H) (r : (Int32 × mm_H)) (hf : f_M_isNew h = some r) : MT V l Y_M_isNew 3 [.ref 261] (fun r1 h1 => r1 = some (.int r.1) ∧ h1 = r.2) h := by
  unfold f_M_isNew at hf
  refine MT.intro (pn_M rfl) [(0, .ref 261)] rfl (Nat.le_of_ble_eq_true rfl) ?_
  generalize hZ : mm_Z V _ = Z0
  refine MM.aload_n (i := 0) rfl rfl d_M_isNew_0 rfl ?_
  obtain ⟨v2, e1, hf⟩ := mm_bind hf
  refine MM.callV1 (T_M_isKept V l  h _ e1) (fun _ _ q => q) cal_M_isKept rfl tg_261 ct_9 ww_45 ww_1620 ww_1618 (by decide) (by simp [Value.category]) d_M_isNew_1 rfl ⟨rfl, rfl⟩ rfl ?_
  obtain ⟨m27, m28⟩ := mm_ifE hf
  refine MM.if_eq (tgt := 13) d_M_isNew_4 rfl rfl (fun c26 => ?_) (fun c26 => ?_)
  · replace hf := m27 c26
    refine MM.aload_n (i := 0) rfl rfl d_M_isNew_13 rfl ?_
    refine MM.iconst ic_1 d_M_isNew_14 rfl ?_
    obtain ⟨v4, e3, hf⟩ := mm_bind hf
    refine MM.callV1 (T_M_personNamed V l 1 h _ e3) (fun _ _ q => q) cal_M_personNamed rfl tg_261 ct_9 ww_46 ww_1647 ww_1645 (by decide) (by simp [Value.category]) d_M_isNew_15 rfl ⟨rfl, rfl⟩ rfl ?_
    obtain ⟨k7, e21, hf⟩ := mm_jpE hf
    have K6 : ∀ j5, k7 j5 = some r → MM V l Y_M_isNew 3 0 0 Z0 29 [(0, .ref 261)] [] h := by
      intro j5 hf
      rw [e21] at hf
      refine MM.aload_n (i := 0) rfl rfl d_M_isNew_29 rfl ?_
      refine MM.iconst ic_3 d_M_isNew_30 rfl ?_
      obtain ⟨v9, e8, hf⟩ := mm_bind hf
      refine MM.callV1 (T_M_fails V l 3 h _ e8) (fun _ _ q => q) cal_M_fails rfl tg_261 ct_9 ww_43 ww_1612 ww_1610 (by decide) (by simp [Value.category]) d_M_isNew_31 rfl ⟨rfl, rfl⟩ rfl ?_
      obtain ⟨m11, m12⟩ := mm_ifE hf
      refine MM.if_eq (tgt := 41) d_M_isNew_34 rfl rfl (fun c10 => ?_) (fun c10 => ?_)
      · replace hf := m11 c10
        refine MM.iconst ic_0 d_M_isNew_41 rfl ?_
        obtain rfl := Option.some.inj hf
        subst hZ
        exact MM.zret (Or.inl rfl) rfl d_M_isNew_42 ⟨rfl, rfl⟩
      · replace hf := m12 c10
        refine MM.iconst ic_1 d_M_isNew_37 rfl ?_
        refine MM.goto (tgt := 42) d_M_isNew_38 rfl ?_
        obtain rfl := Option.some.inj hf
        subst hZ
        exact MM.zret (Or.inr rfl) rfl d_M_isNew_42 ⟨rfl, rfl⟩
    clear e21
    obtain ⟨m19, m20⟩ := mm_ifE hf
    refine MM.if_ge (tgt := 29) d_M_isNew_18 rfl rfl (fun c18 => ?_) (fun c18 => ?_)
    · replace hf := m19 c18
      exact MM.sub [0] (by rfl) (K6 _ hf)
    · replace hf := m20 c18
      refine MM.aload_n (i := 0) rfl rfl d_M_isNew_21 rfl ?_
      refine MM.iconst ic_1 d_M_isNew_22 rfl ?_
      obtain ⟨v14, e13, hf⟩ := mm_bind hf
      refine MM.callV1 (T_M_secretNamed V l 1 h _ e13) (fun _ _ q => q) cal_M_secretNamed rfl tg_261 ct_9 ww_47 ww_1654 ww_1652 (by decide) (by simp [Value.category]) d_M_isNew_23 rfl ⟨rfl, rfl⟩ rfl ?_
      obtain ⟨m16, m17⟩ := mm_ifE hf
      refine MM.if_lt (tgt := 37) d_M_isNew_26 rfl rfl (fun c15 => ?_) (fun c15 => ?_)
      · replace hf := m16 c15
        refine MM.iconst ic_1 d_M_isNew_37 rfl ?_
        refine MM.goto (tgt := 42) d_M_isNew_38 rfl ?_
        obtain rfl := Option.some.inj hf
        subst hZ
        exact MM.zret (Or.inr rfl) rfl d_M_isNew_42 ⟨rfl, rfl⟩
      · replace hf := m17 c15
        exact MM.sub [0] (by rfl) (K6 _ hf)
  · replace hf := m28 c26
    refine MM.aload_n (i := 0) rfl rfl d_M_isNew_7 rfl ?_
    refine MM.iconst ic_1 d_M_isNew_8 rfl ?_
    obtain ⟨v23, e22, hf⟩ := mm_bind hf
    refine MM.callV1 (T_M_fails V l 1 h _ e22) (fun _ _ q => q) cal_M_fails rfl tg_261 ct_9 ww_43 ww_1612 ww_1610 (by decide) (by simp [Value.category]) d_M_isNew_9 rfl ⟨rfl, rfl⟩ rfl ?_
    obtain ⟨b24, e25, hf⟩ := mm_bind hf
    obtain ⟨ob24, e25⟩ := mm_boE e25
    subst e25
    obtain rfl := Option.some.inj hf
    subst hZ
    exact MM.zret ob24 rfl d_M_isNew_12 ⟨rfl, rfl⟩
