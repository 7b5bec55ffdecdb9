/-! plot -/
theorem mk_M.Mp {A : mk_A} {E : mk_E} {r : Nat → Nat} {u : mk_U} {h v : mm_H} (q : mk_M A E r u h) (k : mk_Mp h v) (n : mk_MR r v) : mk_M A E r u v ∧ mk_fX h v := by
  have k1 : mk_ch (fun c => c = 301) h (fun c => if c = 301 then v.1 301 else h.1 c, fun c => if c = 301 then v.2.1 301 else h.2.1 c, h.2.2) := ⟨fun c hc => ⟨if_neg hc, if_neg hc⟩, rfl⟩
  have n1 : mk_MR r (fun c => if c = 301 then v.1 301 else h.1 c, fun c => if c = 301 then v.2.1 301 else h.2.1 c, h.2.2) := fun j hj => by
    show (if 301 = 301 then v.1 301 else h.1 301) j = _
    rw [if_pos rfl]; exact n j hj
  have q1 := q.row k1 n1
  have k2 : mk_s2m (fun c => if c = 301 then v.1 301 else h.1 c, fun c => if c = 301 then v.2.1 301 else h.2.1 c, h.2.2) v := by
    refine ⟨⟨fun c hc => ?_, k.1.2⟩, ?_, ?_⟩
    · show v.1 c = (if c = 301 then v.1 301 else h.1 c) ∧ v.2.1 c = (if c = 301 then v.2.1 301 else h.2.1 c)
      by_cases e : c = 301
      · rw [e, if_pos rfl, if_pos rfl]; exact ⟨rfl, rfl⟩
      · rw [if_neg e, if_neg e]
        exact k.1.1 c (fun z => hc (by unfold mk_DP3 at z; unfold mk_sm; omega))
    · show v.1 261 1 = (if 261 = 301 then v.1 301 else h.1 261) 1
      rw [if_neg (by omega)]; exact k.2 1 (by omega) (by omega)
    · show v.1 261 55 = (if 261 = 301 then v.1 301 else h.1 261) 55
      rw [if_neg (by omega)]; exact k.2 55 (by omega) (by omega)
  exact ⟨q1.s2 k2, (mk_fX.of k1 (fun c z => by omega)).tr (mk_fX.s2 k2)⟩
theorem mc_plot (x1 x2 x3 x4 : Int32) : mk_callT (t_X_plot x1 x2 x3 x4) (f_X_plot x1 x2 x3 x4) (f_M_plot x1 x2 x3 x4) := by
  refine mk_callTof (fun A E t r u hw => ?_)
  have hT := hw.1
  have hW := hw.2.1
  have hP := hT.1.1
  have hS1 := hT.1.2.1
  by_cases hs : mk_two A x1 x2
  · by_cases hr : (0 ≤ x3 ∧ x3 ≤ 2) ∧ (0 ≤ x4 ∧ x4 ≤ 3)
    · right
      obtain ⟨⟨p, hp, rfl⟩, ⟨q, hq, rfl⟩, hne⟩ := id hs
      obtain ⟨m, hm, rfl⟩ := mk_upto (n := 2) (by omega) hr.1
      obtain ⟨j, hj, rfl⟩ := mk_upto (n := 3) (by omega) hr.2
      obtain ⟨b, b0, bb⟩ := mk_bst_ex (P := mk_pv A r p m) (K := mk_pK A E r p q) (s0 := 0) (Or.inl rfl)
      have uni : ∀ {c}, mk_bst (mk_pv A r p m) (mk_pK A E r p q) c → c = b := fun hc => hc.uniq bb (fun x y hx hy e => by
        have := mk_pv_lt hx
        have := mk_pv_lt hy
        exact mk_pK_inj hT (by omega) (by omega) e)
      refine ⟨if j = 0 then mk_pg A E r p q (b - 1) else if j = 1 then Int32.ofNat (mk_pm (b - 1)) else if j = 2 then mk_pa (b - 1) else mk_pb (b - 1), fun h hX => ⟨?_, ?_⟩, fun h hM => ?_⟩
      · intro ⟨t', v, e1, e2, e3⟩
        rw [mx_gT hX.1.1 hX.2.1.1] at e1
        obtain rfl := Option.some.inj e1
        rw [mx_hasPair hT hX.2.1, if_pos hs] at e2
        obtain rfl := Option.some.inj e2
        rcases e3 with e3 | ⟨_, e3 | e3 | e3 | e3⟩
        · exact absurd e3 (by decide)
        · exact absurd e3 (Int32.not_lt.mpr hr.1.1)
        · exact absurd e3 (Int32.not_lt.mpr hr.1.2)
        · exact absurd e3 (Int32.not_lt.mpr hr.2.1)
        · exact absurd e3 (Int32.not_lt.mpr hr.2.2)
      · unfold f_X_plot
        have ht := hX.2.1.1
        refine mk_ok.bs (mx_gT hX.1.1 ht) ?_
        rw [mx_hasPair hT hX.2.1, if_pos hs]
        refine mk_ok.bs rfl ?_
        rw [if_neg (show ¬ (1 : Int32) = 0 by decide), if_neg (Int32.not_lt.mpr hr.1.1), if_neg (Int32.not_lt.mpr hr.1.2), if_neg (Int32.not_lt.mpr hr.2.1), if_pos hr.2.2]
        refine mk_ok.bind (mx_scheme hT hW hp hq hm hX.1.1 hX.2.1 hX.2.2.1) (fun v6 ⟨a1, c, c0, cb, cp⟩ => ?_)
        obtain rfl := uni cb
        refine mk_ok.bs (mn_ix (show j < 4 by omega) (by omega)) ?_
        refine mk_ok.ret ⟨?_, hX.ch hw a1 (fun c z => by unfold mk_sx; omega), mk_fM.of a1 (fun c z => by omega)⟩
        have hj' : j = 0 ∨ j = 1 ∨ j = 2 ∨ j = 3 := by omega
        rcases hj' with rfl | rfl | rfl | rfl
        · rw [if_pos rfl]; exact cp.1
        · rw [if_neg (by omega), if_pos rfl]; exact cp.2.1
        · rw [if_neg (by omega), if_neg (by omega), if_pos rfl]; exact cp.2.2.1
        · rw [if_neg (by omega), if_neg (by omega), if_neg (by omega)]; exact cp.2.2.2
      · unfold f_M_plot
        rw [mi_areTwo hT hM.1, if_pos hs]
        refine mk_ok.bs rfl ?_
        refine mk_ok.bs (v := 0) ?_ ?_
        · rw [if_neg (show ¬ (1 : Int32) = 0 by decide), mp_within, if_pos hr.1]
          refine (mk_bs rfl).trans ?_
          rw [if_neg (show ¬ (1 : Int32) = 0 by decide), mp_within, if_pos hr.2]
          rfl
        refine mi_thrown hM (fun h1 hM1 g1 g2 g3 => ?_)
        rw [g1, if_neg (show ¬ (0 : Int32) = 1 by decide)]
        refine mk_ok.let ?_
        have p0 : mk_Mp h1 (mm_pI h1 261 61 (-1)) := mk_Mp.p (Or.inr rfl)
        have R0 : mk_MR r (mm_pI h1 261 61 (-1)) := fun k hk => by rw [mp_I1, if_neg (by omega)]; exact hM1.2.1 k hk
        refine mk_ok.bind (mi_plots (E := E) hT hW (hM1.1.Mp p0) hp hq hm R0 (by rw [mp_I1, if_pos ⟨rfl, rfl⟩])) (fun v23 ⟨a1, a2, c, cb, cm, _⟩ => ?_)
        obtain rfl := uni cb
        obtain ⟨f1, f2, f3, f4⟩ := cm.2 b0
        have pp := p0.tr a1
        obtain ⟨d1, d2⟩ := hM1.Mp pp a2
        have fin : ∀ a : Int32, mk_ok (some (a, v23)) (fun v : Int32 × mm_H => v.1 = a ∧ v.2.1 261 0 = 0 ∧ v.2.2.1 316 0 = h.2.1 316 0 ∧ mk_M A E r u v.2 ∧ mk_fX h v.2) := fun a => mk_ok.ret ⟨rfl, by rw [pp.2 0 (by omega) (by omega)]; exact g1, by rw [pp.1.e2 (c := 316) (fun z => by unfold mk_DP3 at z; omega), g2], d1, g3.tr d2⟩
        have hj' : j = 0 ∨ j = 1 ∨ j = 2 ∨ j = 3 := by omega
        rcases hj' with rfl | rfl | rfl | rfl
        · rw [if_pos (show Int32.ofNat 0 = 0 from rfl), if_pos rfl, ← f1]
          exact fin _
        · rw [if_neg (show ¬ Int32.ofNat 1 = 0 by decide), if_pos (show Int32.ofNat 1 = 1 from rfl), if_neg (by omega), if_pos rfl, ← f2]
          exact fin _
        · rw [if_neg (show ¬ Int32.ofNat 2 = 0 by decide), if_neg (show ¬ Int32.ofNat 2 = 1 by decide), if_neg (by omega), if_neg (by omega), if_pos rfl, ← f3]
          exact mk_ok.bs (show mm_ix (Int32.ofNat 2 - 2) 2 = some 0 by decide) (fin _)
        · rw [if_neg (show ¬ Int32.ofNat 3 = 0 by decide), if_neg (show ¬ Int32.ofNat 3 = 1 by decide), if_neg (by omega), if_neg (by omega), if_neg (by omega), ← f4]
          exact mk_ok.bs (show mm_ix (Int32.ofNat 3 - 2) 2 = some 1 by decide) (fin _)
    · left
      refine ⟨fun h hX => ⟨t, 1, mx_gT hX.1.1 hX.2.1.1, by rw [mx_hasPair hT hX.2.1, if_pos hs], Or.inr ⟨by decide, ?_⟩⟩, fun h hM => ?_⟩
      · by_cases h0 : x3 < 0
        · exact Or.inl h0
        · by_cases h1 : 2 < x3
          · exact Or.inr (Or.inl h1)
          · by_cases h2 : x4 < 0
            · exact Or.inr (Or.inr (Or.inl h2))
            · exact Or.inr (Or.inr (Or.inr (Int32.not_le.mp (fun z => hr ⟨⟨Int32.not_lt.mp h0, Int32.not_lt.mp h1⟩, Int32.not_lt.mp h2, z⟩))))
      · unfold f_M_plot
        rw [mi_areTwo hT hM.1, if_pos hs]
        refine mk_ok.bs rfl ?_
        refine mk_ok.bs (v := 1) ?_ ?_
        · rw [if_neg (show ¬ (1 : Int32) = 0 by decide), mp_within]
          by_cases c : 0 ≤ x3 ∧ x3 ≤ 2
          · rw [if_pos c]
            refine (mk_bs rfl).trans ?_
            rw [if_neg (show ¬ (1 : Int32) = 0 by decide), mp_within, if_neg (fun z => hr ⟨c, z⟩)]
            rfl
          · rw [if_neg c]; rfl
        refine mi_thrown hM (fun h1 hM1 g1 g2 g3 => ?_)
        rw [g1, if_pos rfl]
        exact mk_ok.ret ⟨g1, hM1, g3⟩
  · left
    refine ⟨fun h hX => ⟨t, 0, mx_gT hX.1.1 hX.2.1.1, by rw [mx_hasPair hT hX.2.1, if_neg hs], Or.inl rfl⟩, fun h hM => ?_⟩
    unfold f_M_plot
    rw [mi_areTwo hT hM.1, if_neg hs]
    refine mk_ok.bs rfl ?_
    refine mk_ok.bs (v := 1) ?_ ?_
    · rw [if_pos (show (0 : Int32) = 0 from rfl)]
    refine mi_thrown hM (fun h1 hM1 g1 g2 g3 => ?_)
    rw [g1, if_pos rfl]
    exact mk_ok.ret ⟨g1, hM1, g3⟩
