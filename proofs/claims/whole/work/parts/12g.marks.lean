/-! see, mark -/
theorem mk_TM.sl {u : mk_U} {i : Nat} {h h' : mm_H} (hw : u (30 + 10 * i) 0 ≤ 30 ∧ u (30 + 10 * i) 1 ≤ 10) (q : mk_TM u i h) (e0 : h'.1 293 i = h.1 293 i ∧ h'.1 298 i = h.1 298 i) (e1 : ∀ c k, 294 ≤ c → c ≤ 297 → k < 30 → h'.1 c (30 * i + k) = h.1 c (30 * i + k)) (e2 : ∀ c k, 299 ≤ c → c ≤ 300 → k < 10 → h'.1 c (10 * i + k) = h.1 c (10 * i + k)) : mk_TM u i h' := by
  obtain ⟨q1, q2, q3, q4⟩ := q
  refine ⟨e0.1.trans q1, e0.2.trans q2, fun k hk => ?_, fun k hk => ?_⟩
  · rw [e1 294 k (by omega) (by omega) (by omega), e1 295 k (by omega) (by omega) (by omega), e1 296 k (by omega) (by omega) (by omega), e1 297 k (by omega) (by omega) (by omega)]
    exact q3 k hk
  · rw [e2 299 k (by omega) (by omega) (by omega), e2 300 k (by omega) (by omega) (by omega)]
    exact q4 k hk
def mk_see (u : mk_U) (k b : Nat) : mk_U := fun c => if c = 30 then (fun j => if j = 1 then u 30 1 + 1 else u 30 j) else if c = 35 then (fun j => if j = u 30 1 then k else u 35 j) else if c = 36 then (fun j => if j = u 30 1 then b else u 36 j) else u c
theorem mk_ttag : mm_tg 47 = 5 ∧ (∀ k, k < 4 → mm_tg (215 + 13 * k) = 5) := by decide +kernel
theorem mc_see (x1 x2 : Int32) (hx : x2 = 0 ∨ x2 = 1) : mk_call (f_X_see x1 x2) (f_M_see x1 x2) := by
  refine mk_callof (fun A E t r u hw => ?_)
  have hT := hw.1
  have hS1 := hT.1.2.1
  obtain ⟨ta, tb, tc, td⟩ := hw.2.2.2.2.1
  replace ta : u 30 0 ≤ 30 := ta
  replace tb : u 30 1 ≤ 10 := tb
  obtain ⟨b, hb, hbx⟩ : ∃ b : Nat, b ≤ 1 ∧ x2 = Int32.ofNat b := by
    rcases hx with rfl | rfl
    · exact ⟨0, by omega, rfl⟩
    · exact ⟨1, by omega, rfl⟩
  have noM : ∀ h1, mk_M A E r u h1 → mk_is (A 263 1) x1 → u 30 1 = 10 → mk_ok (f_M_see x1 x2 h1) (fun v => v.1 = 0 ∧ mk_M A E r u v.2 ∧ mk_fX h1 v.2) := by
    intro h hM hs h10
    unfold f_M_see
    refine mk_ok.let ?_
    have p0 : mk_s2m h (mm_pI h 261 0 0) := mk_s2m.pI ⟨by decide, by decide⟩
    have hM1 := hM.s2 p0
    revert p0 hM1
    generalize mm_pI h 261 0 0 = h1
    intro p0 hM1
    rw [mi_isSecret hT hM1.1, if_pos hs]
    refine mk_ok.bs rfl ?_
    rw [if_neg (by decide)]
    have e : h1.1 298 0 = Int32.ofNat (u 30 1) := hM1.2.2.2.2.1.2.1
    rw [e, h10, if_pos (by decide)]
    exact mk_ok.ret ⟨rfl, hM1, mk_fX.s2 p0⟩
  by_cases hs : mk_is (A 263 1) x1
  · by_cases h10 : u 30 1 = 10
    · refine ⟨0, r, u, t, hw, fun h hX => ?_, fun h hM => noM h hM hs h10⟩
      unfold f_X_see
      refine mk_ok.bs (mx_gT hX.1.1 hX.2.1.1) (mk_ok.bs (mx_hasSecret hT hX.2.1 x1) ?_)
      rw [if_pos hs, if_neg (by decide)]
      unfold f_Tk_addSeen
      have e : h.1 47 5 = Int32.ofNat (u 30 1) := hX.2.2.2.2.2.1.2.1
      rw [if_pos mk_ttag.1, e, h10, if_neg (by decide)]
      refine mk_ok.bs rfl ?_
      rw [if_pos rfl]
      exact mk_ok.ret ⟨rfl, hX, mk_fM.rf⟩
    · obtain ⟨k, hk, rfl⟩ := id hs
      have v30 : ∀ j, mk_see u k b 30 j = if j = 1 then u 30 1 + 1 else u 30 j := fun j => rfl
      have v35 : ∀ j, mk_see u k b 35 j = if j = u 30 1 then k else u 35 j := fun j => rfl
      have v36 : ∀ j, mk_see u k b 36 j = if j = u 30 1 then b else u 36 j := fun j => rfl
      have vo : ∀ c, ¬ c = 30 → ¬ c = 35 → ¬ c = 36 → mk_see u k b c = u c := fun c h1 h2 h3 => by unfold mk_see; rw [if_neg h1, if_neg h2, if_neg h3]
      have hwu : mk_wf A r (mk_see u k b) := by
        obtain ⟨v1, v2, ⟨v3, v4, v5⟩, ⟨v6, v7⟩, v8, v9, v10, v11⟩ := hw
        refine ⟨v1, v2, ⟨by rw [vo _ (by omega) (by omega) (by omega)]; exact v3, by rw [vo _ (by omega) (by omega) (by omega)]; exact v4, fun i hi => ?_⟩, ⟨by rw [vo _ (by omega) (by omega) (by omega)]; exact v6, fun m hm hb => ?_⟩, ⟨?_, ?_, ?_, ?_⟩, ?_, ?_, ?_⟩
        · rw [vo _ (by omega) (by omega) (by omega)] at hi
          rw [vo _ (by omega) (by omega) (by omega)]
          exact v5 i hi
        · rw [vo _ (by omega) (by omega) (by omega)] at hb
          have := v7 m hm hb
          refine ⟨by rw [vo _ (by omega) (by omega) (by omega)]; exact this.1, ?_⟩
          have z := this.2
          unfold mk_TW at z ⊢
          rw [vo _ (by omega) (by omega) (by omega), vo _ (by omega) (by omega) (by omega), vo _ (by omega) (by omega) (by omega), vo _ (by omega) (by omega) (by omega), vo _ (by omega) (by omega) (by omega), vo _ (by omega) (by omega) (by omega), vo _ (by omega) (by omega) (by omega)]
          exact z
        · show mk_see u k b 30 0 ≤ 30
          rw [v30, if_neg (by omega)]; exact ta
        · show mk_see u k b 30 1 ≤ 10
          rw [v30, if_pos rfl]; omega
        · intro j hj
          replace hj : j < mk_see u k b 30 0 := hj
          rw [v30, if_neg (by omega)] at hj
          have := tc j hj
          show mk_see u k b 31 j ≤ 3 ∧ (¬ mk_see u k b 31 j = 3 → mk_see u k b 32 j < A 263 0) ∧ (mk_see u k b 31 j = 0 → mk_see u k b 33 j < A 263 0 ∧ ¬ mk_see u k b 32 j = mk_see u k b 33 j ∧ mk_see u k b 34 j < A 263 1) ∧ (mk_see u k b 31 j = 1 → 0 < mk_see u k b 34 j ∧ mk_see u k b 34 j < 2 ^ A 263 1)
          rw [vo 31 (by omega) (by omega) (by omega), vo 32 (by omega) (by omega) (by omega), vo 33 (by omega) (by omega) (by omega), vo 34 (by omega) (by omega) (by omega)]
          exact this
        · intro j hj
          replace hj : j < mk_see u k b 30 1 := hj
          rw [v30, if_pos rfl] at hj
          show mk_see u k b 35 j < A 263 1 ∧ mk_see u k b 36 j ≤ 1
          rw [v35, v36]
          by_cases e : j = u 30 1
          · rw [if_pos e, if_pos e]; exact ⟨hk, hb⟩
          · rw [if_neg e, if_neg e]; exact td j (show j < u 30 1 by omega)
        · rw [vo _ (by omega) (by omega) (by omega), vo _ (by omega) (by omega) (by omega)]; exact v9
        · intro p hp
          rw [vo _ (by omega) (by omega) (by omega)]; exact v10 p hp
        · intro p hp
          rw [vo _ (by omega) (by omega) (by omega)]; exact v11 p hp
      refine ⟨1, r, mk_see u k b, t, hwu, fun h hX => ?_, fun h hM => ?_⟩
      · obtain ⟨⟨x0, x0'⟩, x1, x2', ⟨x3, x4, x5⟩, ⟨x6, x7⟩, ⟨y1, y2, y3, y4⟩, x9, x10⟩ := hX
        have ht := x1.1
        replace y2 : h.1 47 5 = Int32.ofNat (u 30 1) := y2
        unfold f_X_see
        refine mk_ok.bs (mx_gT x0 ht) (mk_ok.bs (mx_hasSecret hT x1 _) ?_)
        rw [if_pos hs, if_neg (by decide)]
        unfold f_Tk_addSeen
        have ix : mm_ix (Int32.ofNat (u 30 1)) 10 = some (u 30 1) := mn_ix (by omega) (by omega)
        have eb : (if x2 = 0 then some 0 else some 1 : Option Int32) = some (Int32.ofNat b) := by
          rcases hx with rfl | rfl
          · rw [if_pos rfl, ← hbx]
          · rw [if_neg (by decide), ← hbx]
        rw [if_pos mk_ttag.1, y2, if_pos ((mn_ltl (b := 10) (show u 30 1 < 2147483648 by omega) (by decide)).mpr (show u 30 1 < 10 by omega)), eb, ix]
        simp only [Option.bind_some, mm_let, mp_I1, show ¬ (47 = 47 + 5) by omega, show ¬ (47 = 47 + 6) by omega, false_and, if_false, y2, ix]
        rw [if_neg (by decide)]
        have k9 : mk_ch (fun c => c = 47 ∨ c = 52 ∨ c = 53) h (mm_pI (mm_pI (mm_pI h (47 + 5) (u 30 1) (Int32.ofNat k)) (47 + 6) (u 30 1) (Int32.ofNat b)) 47 5 (Int32.ofNat (u 30 1) + 1)) := ((mk_ch.pI (D := fun c => c = 47 ∨ c = 52 ∨ c = 53) (Or.inr (Or.inl rfl))).tr (mk_ch.pI (D := fun c => c = 47 ∨ c = 52 ∨ c = 53) (Or.inr (Or.inr rfl))) (fun _ q => q) (fun _ q => q)).tr (mk_ch.pI (D := fun c => c = 47 ∨ c = 52 ∨ c = 53) (Or.inl rfl)) (fun _ q => q) (fun _ q => q)
        have w : ∀ c j, (mm_pI (mm_pI (mm_pI h (47 + 5) (u 30 1) (Int32.ofNat k)) (47 + 6) (u 30 1) (Int32.ofNat b)) 47 5 (Int32.ofNat (u 30 1) + 1)).1 c j = if c = 47 ∧ j = 5 then Int32.ofNat (u 30 1) + 1 else if c = 53 ∧ j = u 30 1 then Int32.ofNat b else if c = 52 ∧ j = u 30 1 then Int32.ofNat k else h.1 c j := fun c j => rfl
        generalize mm_pI (mm_pI (mm_pI h (47 + 5) (u 30 1) (Int32.ofNat k)) (47 + 6) (u 30 1) (Int32.ofNat b)) 47 5 (Int32.ofNat (u 30 1) + 1) = v at k9 w ⊢
        refine mk_ok.ret ⟨rfl, ⟨⟨by rw [k9.2]; exact x0, by rw [k9.2]; exact x0'⟩, x1.ch k9 (fun j q => by omega), x2'.ch k9 (fun j q => by omega), ⟨?_, ?_, fun i hi2 => ?_⟩, ⟨?_, fun m hm hb => ?_⟩, ⟨?_, ?_, fun j hj => ?_, fun j hj => ?_⟩, ?_, ?_⟩, mk_fM.of k9 (fun c q => by omega)⟩
        · rw [k9.e1 (by omega), vo 0 (by omega) (by omega) (by omega)]; exact x3
        · rw [k9.e1 (by omega), vo 0 (by omega) (by omega) (by omega)]; exact x4
        · have hi3 := hi2
          rw [vo 0 (by omega) (by omega) (by omega)] at hi3
          rw [vo (1 + i) (by have := hw.2.2.1.1; omega) (by have := hw.2.2.1.1; omega) (by have := hw.2.2.1.1; omega), vo 0 (by omega) (by omega) (by omega)]
          have := Nat.mod_lt (u 0 1 + 16 - u 0 0 + i) (show 0 < 16 by omega)
          exact (x5 i hi3).ch k9 (fun c q => by omega)
        · rw [k9.e1 (by omega), vo 0 (by omega) (by omega) (by omega)]; exact x6
        · rw [vo 0 (by omega) (by omega) (by omega)] at hb
          rw [vo (20 + m) (by omega) (by omega) (by omega)]
          refine ⟨(x7 m hm hb).1.ch k9 (fun j q => by omega), ?_⟩
          have z := (x7 m hm hb).2.ch k9 (fun j q => by omega)
          unfold mk_TX at z ⊢
          rw [vo _ (by omega) (by omega) (by omega), vo _ (by omega) (by omega) (by omega), vo _ (by omega) (by omega) (by omega), vo _ (by omega) (by omega) (by omega), vo _ (by omega) (by omega) (by omega), vo _ (by omega) (by omega) (by omega), vo _ (by omega) (by omega) (by omega)]
          exact z
        · show v.1 47 0 = Int32.ofNat (mk_see u k b 30 0)
          rw [v30, if_neg (by omega), w, if_neg (by omega), if_neg (by omega), if_neg (by omega)]; exact y1
        · show v.1 47 5 = Int32.ofNat (mk_see u k b 30 1)
          rw [v30, if_pos rfl, w, if_pos ⟨rfl, rfl⟩]; exact mn_addl 1 _
        · replace hj : j < mk_see u k b 30 0 := hj
          rw [v30, if_neg (by omega)] at hj
          have := y3 j hj
          show v.1 48 j = Int32.ofNat (mk_see u k b 31 j) ∧ (¬ mk_see u k b 31 j = 3 → v.1 49 j = Int32.ofNat (mk_see u k b 32 j)) ∧ (mk_see u k b 31 j = 0 → v.1 50 j = Int32.ofNat (mk_see u k b 33 j)) ∧ (mk_see u k b 31 j ≤ 1 → v.1 51 j = Int32.ofNat (mk_see u k b 34 j))
          rw [vo 31 (by omega) (by omega) (by omega), vo 32 (by omega) (by omega) (by omega), vo 33 (by omega) (by omega) (by omega), vo 34 (by omega) (by omega) (by omega), k9.e1 (c := 48) (by omega), k9.e1 (c := 49) (by omega), k9.e1 (c := 50) (by omega), k9.e1 (c := 51) (by omega)]
          exact this
        · replace hj : j < mk_see u k b 30 1 := hj
          rw [v30, if_pos rfl] at hj
          show v.1 52 j = Int32.ofNat (mk_see u k b 35 j) ∧ v.1 53 j = Int32.ofNat (mk_see u k b 36 j)
          have wa : v.1 52 j = if j = u 30 1 then Int32.ofNat k else h.1 52 j := by
            rw [w, if_neg (by omega), if_neg (by omega)]
            by_cases e : j = u 30 1
            · rw [if_pos e, if_pos ⟨rfl, by omega⟩]
            · rw [if_neg e, if_neg (by omega)]
          have wb : v.1 53 j = if j = u 30 1 then Int32.ofNat b else h.1 53 j := by
            rw [w, if_neg (by omega)]
            by_cases e : j = u 30 1
            · rw [if_pos e, if_pos ⟨rfl, by omega⟩]
            · rw [if_neg e, if_neg (by omega), if_neg (by omega)]
          rw [v35, v36, wa, wb]
          by_cases e : j = u 30 1
          · rw [if_pos e, if_pos e, if_pos e, if_pos e]; exact ⟨rfl, rfl⟩
          · rw [if_neg e, if_neg e, if_neg e, if_neg e]
            exact y4 j (show j < u 30 1 by omega)
        · unfold mk_PX
          rw [vo 90 (by omega) (by omega) (by omega), vo 91 (by omega) (by omega) (by omega)]
          exact x9.ch k9 ⟨by omega, by omega⟩
        · have := x10.ch k9 ⟨by omega, by omega⟩
          exact ⟨fun p hp => by rw [vo _ (by omega) (by omega) (by omega)]; exact this.1 p hp, fun p hp => by rw [vo _ (by omega) (by omega) (by omega)]; exact this.2 p hp⟩
      · unfold f_M_see
        refine mk_ok.let ?_
        have p0 : mk_s2m h (mm_pI h 261 0 0) := mk_s2m.pI ⟨by decide, by decide⟩
        have hM1 := hM.s2 p0
        revert p0 hM1
        generalize mm_pI h 261 0 0 = h1
        intro p0 hM1
        rw [mi_isSecret hT hM1.1, if_pos hs]
        refine mk_ok.bs rfl ?_
        rw [if_neg (by decide)]
        obtain ⟨m1, m2, ⟨m3, m4⟩, m5, ⟨y1, y2, y3, y4⟩, m7, m8⟩ := hM1
        replace y2 : h1.1 298 0 = Int32.ofNat (u 30 1) := y2
        have ix : mm_ix (Int32.ofNat (u 30 1)) 50 = some (u 30 1) := mn_ix (by omega) (by omega)
        have eb : x2 &&& 1 = Int32.ofNat b := by
          rcases hx with rfl | rfl
          · rw [← hbx]; rfl
          · rw [← hbx]; rfl
        rw [y2, if_neg (fun z => h10 ((mn_eql (b := 10) (show u 30 1 < 4294967296 by omega) (by decide)).mp z)), ix, eb]
        simp only [Option.bind_some, mm_let, mp_I1, show ¬ (298 = 299) by omega, show ¬ (298 = 300) by omega, false_and, if_false, y2, ix]
        have k9 : mk_ch (fun c => 298 ≤ c ∧ c ≤ 300) h1 (mm_pI (mm_pI (mm_pI h1 299 (u 30 1) (Int32.ofNat k)) 300 (u 30 1) (Int32.ofNat b)) 298 0 (Int32.ofNat (u 30 1) + 1)) := ((mk_ch.pI (D := fun c => 298 ≤ c ∧ c ≤ 300) ⟨by omega, by omega⟩).tr (mk_ch.pI (D := fun c => 298 ≤ c ∧ c ≤ 300) ⟨by omega, by omega⟩) (fun _ q => q) (fun _ q => q)).tr (mk_ch.pI (D := fun c => 298 ≤ c ∧ c ≤ 300) ⟨by omega, by omega⟩) (fun _ q => q) (fun _ q => q)
        have w : ∀ c j, (mm_pI (mm_pI (mm_pI h1 299 (u 30 1) (Int32.ofNat k)) 300 (u 30 1) (Int32.ofNat b)) 298 0 (Int32.ofNat (u 30 1) + 1)).1 c j = if c = 298 ∧ j = 0 then Int32.ofNat (u 30 1) + 1 else if c = 300 ∧ j = u 30 1 then Int32.ofNat b else if c = 299 ∧ j = u 30 1 then Int32.ofNat k else h1.1 c j := fun c j => rfl
        generalize mm_pI (mm_pI (mm_pI h1 299 (u 30 1) (Int32.ofNat k)) 300 (u 30 1) (Int32.ofNat b)) 298 0 (Int32.ofNat (u 30 1) + 1) = v at k9 w ⊢
        refine mk_ok.ret ⟨rfl, ⟨m1.ch k9 (fun j q => by omega), m2.ch k9 (by omega), ⟨?_, fun i hi2 j hj => ?_⟩, fun m hm => ?_, ⟨?_, ?_, fun j hj => ?_, fun j hj => ?_⟩, ?_, ?_⟩, (mk_fX.s2 p0).tr (mk_fX.of k9 (fun c q => by omega))⟩
        · rw [k9.e1 (by omega), vo 0 (by omega) (by omega) (by omega)]; exact m3
        · have hi3 := hi2
          rw [vo 0 (by omega) (by omega) (by omega)] at hi3
          rw [vo (1 + i) (by have := hw.2.2.1.1; omega) (by have := hw.2.2.1.1; omega) (by have := hw.2.2.1.1; omega), k9.e1 (by omega)]
          exact m4 i hi3 j hj
        · rw [vo 0 (by omega) (by omega) (by omega), k9.e1 (c := 305) (by omega), k9.e1 (c := 303) (by omega), vo (20 + m) (by omega) (by omega) (by omega)]
          have := m5 m hm
          refine ⟨this.1, fun hb => ⟨(this.2 hb).1, ?_⟩⟩
          have wf1 := (hw.2.2.2.1.2 m hm hb).2
          have z : mk_TM u (1 + m) v := mk_TM.sl ⟨wf1.1, wf1.2.1⟩ (this.2 hb).2 ⟨by rw [k9.e1 (by omega)], by rw [w, if_neg (by omega), if_neg (by omega), if_neg (by omega)]⟩ (fun c j h1 h2 h3 => by rw [k9.e1 (by omega)]) (fun c j h1 h2 h3 => by rw [w, if_neg (by omega), if_neg (by omega), if_neg (by omega)])
          unfold mk_TM at z ⊢
          rw [vo _ (by omega) (by omega) (by omega), vo _ (by omega) (by omega) (by omega), vo _ (by omega) (by omega) (by omega), vo _ (by omega) (by omega) (by omega), vo _ (by omega) (by omega) (by omega), vo _ (by omega) (by omega) (by omega), vo _ (by omega) (by omega) (by omega)]
          exact z
        · show v.1 293 0 = Int32.ofNat (mk_see u k b 30 0)
          rw [v30, if_neg (by omega), k9.e1 (by omega)]; exact y1
        · show v.1 298 0 = Int32.ofNat (mk_see u k b 30 1)
          rw [v30, if_pos rfl, w, if_pos ⟨rfl, rfl⟩]; exact mn_addl 1 _
        · replace hj : j < mk_see u k b 30 0 := hj
          rw [v30, if_neg (by omega)] at hj
          have := y3 j hj
          show v.1 294 (30 * 0 + j) = Int32.ofNat (mk_see u k b 31 j) ∧ (¬ mk_see u k b 31 j = 3 → v.1 295 (30 * 0 + j) = Int32.ofNat (mk_see u k b 32 j)) ∧ (mk_see u k b 31 j = 0 → v.1 296 (30 * 0 + j) = Int32.ofNat (mk_see u k b 33 j)) ∧ (mk_see u k b 31 j ≤ 1 → v.1 297 (30 * 0 + j) = Int32.ofNat (mk_see u k b 34 j))
          rw [vo 31 (by omega) (by omega) (by omega), vo 32 (by omega) (by omega) (by omega), vo 33 (by omega) (by omega) (by omega), vo 34 (by omega) (by omega) (by omega), k9.e1 (c := 294) (by omega), k9.e1 (c := 295) (by omega), k9.e1 (c := 296) (by omega), k9.e1 (c := 297) (by omega)]
          exact this
        · replace hj : j < mk_see u k b 30 1 := hj
          rw [v30, if_pos rfl] at hj
          show v.1 299 (10 * 0 + j) = Int32.ofNat (mk_see u k b 35 j) ∧ v.1 300 (10 * 0 + j) = Int32.ofNat (mk_see u k b 36 j)
          have wa : v.1 299 (10 * 0 + j) = if j = u 30 1 then Int32.ofNat k else h1.1 299 (10 * 0 + j) := by
            rw [w, if_neg (by omega), if_neg (by omega)]
            by_cases e : j = u 30 1
            · rw [if_pos e, if_pos ⟨rfl, by omega⟩]
            · rw [if_neg e, if_neg (by omega)]
          have wb : v.1 300 (10 * 0 + j) = if j = u 30 1 then Int32.ofNat b else h1.1 300 (10 * 0 + j) := by
            rw [w, if_neg (by omega)]
            by_cases e : j = u 30 1
            · rw [if_pos e, if_pos ⟨rfl, by omega⟩]
            · rw [if_neg e, if_neg (by omega), if_neg (by omega)]
          rw [v35, v36, wa, wb]
          by_cases e : j = u 30 1
          · rw [if_pos e, if_pos e, if_pos e, if_pos e]; exact ⟨rfl, rfl⟩
          · rw [if_neg e, if_neg e, if_neg e, if_neg e]
            exact y4 j (show j < u 30 1 by omega)
        · unfold mk_PM
          rw [vo 90 (by omega) (by omega) (by omega), vo 91 (by omega) (by omega) (by omega), k9.e1 (c := 261) (by omega), k9.e1 (c := 262) (by omega)]
          exact m7
        · have := m8.ch k9 ⟨by omega, by omega⟩
          exact ⟨fun p hp => by rw [vo _ (by omega) (by omega) (by omega)]; exact this.1 p hp, fun p hp => by rw [vo _ (by omega) (by omega) (by omega)]; exact this.2 p hp⟩
  · refine ⟨0, r, u, t, hw, fun h hX => ?_, fun h hM => ?_⟩
    · unfold f_X_see
      refine mk_ok.bs (mx_gT hX.1.1 hX.2.1.1) (mk_ok.bs (mx_hasSecret hT hX.2.1 x1) ?_)
      rw [if_neg hs, if_pos rfl]
      exact mk_ok.ret ⟨rfl, hX, mk_fM.rf⟩
    · unfold f_M_see
      refine mk_ok.let ?_
      have p0 : mk_s2m h (mm_pI h 261 0 0) := mk_s2m.pI ⟨by decide, by decide⟩
      have hM1 := hM.s2 p0
      revert p0 hM1
      generalize mm_pI h 261 0 0 = h1
      intro p0 hM1
      rw [mi_isSecret hT hM1.1, if_neg hs]
      refine mk_ok.bs rfl ?_
      rw [if_pos rfl]
      exact mk_ok.ret ⟨rfl, hM1, mk_fX.s2 p0⟩
