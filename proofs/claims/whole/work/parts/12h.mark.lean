/-! mark -/
theorem mx_talkCopy {u : mk_U} {a b i : Nat} {h : mm_H} (q : mk_TX u b i h) (hn : u (30 + 10 * i) 0 ≤ 30 ∧ u (30 + 10 * i) 1 ≤ 10) (ta : mm_tg a = 5) (tb : mm_tg b = 5) (hab : a + 6 < b ∨ b + 6 < a) : mk_ok (f_Tk_copyFrom a b h) (fun v => mk_ch (fun c => a ≤ c ∧ c ≤ a + 6) h v ∧ ∀ (u' : mk_U) (i' : Nat), (∀ f, f ≤ 6 → u' (30 + 10 * i' + f) = u (30 + 10 * i + f)) → mk_TX u' a i' v) := by
  obtain ⟨q1, q2, q3, q4⟩ := q
  unfold f_Tk_copyFrom f_Tk_copyLines
  rw [if_pos ⟨ta, tb⟩, if_pos ⟨ta, tb⟩]
  simp only [mm_let, Option.bind_some]
  generalize hg : mm_cpI (mm_cpI (mm_cpI (mm_cpI (mm_pI h a 0 (h.1 b 0)) (b + 1) (a + 1) 30) (b + 2) (a + 2) 30) (b + 3) (a + 3) 30) (b + 4) (a + 4) 30 = g
  have g1 : ∀ c j, g.1 c j = if c = a ∧ j = 0 then h.1 b 0 else if a + 1 ≤ c ∧ c ≤ a + 4 ∧ j < 30 then h.1 (b + (c - a)) j else h.1 c j := by
    intro c j
    rw [← hg]
    simp only [mp_c1, mp_I1]
    by_cases c0 : c = a
    · subst c0
      simp only [show ¬ c = c + 4 by omega, show ¬ c = c + 3 by omega, show ¬ c = c + 2 by omega, show ¬ c = c + 1 by omega, false_and, if_false]
      by_cases j0 : j = 0
      · rw [if_pos ⟨trivial, j0⟩, if_pos ⟨trivial, j0⟩]
      · rw [if_neg (fun e => j0 e.2), if_neg (fun e => j0 e.2), if_neg (by omega)]
    · rw [if_neg (fun (e : c = a ∧ j = 0) => c0 e.1)]
      by_cases c4 : c = a + 4
      · subst c4
        simp only [show ¬ b + 4 = a + 3 by omega, show ¬ b + 4 = a + 2 by omega, show ¬ b + 4 = a + 1 by omega, show ¬ b + 4 = a by omega, show ¬ a + 4 = a + 3 by omega, show ¬ a + 4 = a + 2 by omega, show ¬ a + 4 = a + 1 by omega, show ¬ a + 4 = a by omega, false_and, if_false, true_and]
        by_cases j30 : j < 30
        · rw [if_pos j30, if_pos ⟨by omega, by omega, j30⟩, show b + (a + 4 - a) = b + 4 by omega]
        · rw [if_neg j30, if_neg (fun e => j30 e.2.2)]
      · by_cases c3 : c = a + 3
        · subst c3
          simp only [show ¬ b + 3 = a + 2 by omega, show ¬ b + 3 = a + 1 by omega, show ¬ b + 3 = a by omega, show ¬ a + 3 = a + 4 by omega, show ¬ a + 3 = a + 2 by omega, show ¬ a + 3 = a + 1 by omega, show ¬ a + 3 = a by omega, false_and, if_false, true_and]
          by_cases j30 : j < 30
          · rw [if_pos j30, if_pos ⟨by omega, by omega, j30⟩, show b + (a + 3 - a) = b + 3 by omega]
          · rw [if_neg j30, if_neg (fun e => j30 e.2.2)]
        · by_cases c2 : c = a + 2
          · subst c2
            simp only [show ¬ b + 2 = a + 1 by omega, show ¬ b + 2 = a by omega, show ¬ a + 2 = a + 4 by omega, show ¬ a + 2 = a + 3 by omega, show ¬ a + 2 = a + 1 by omega, show ¬ a + 2 = a by omega, false_and, if_false, true_and]
            by_cases j30 : j < 30
            · rw [if_pos j30, if_pos ⟨by omega, by omega, j30⟩, show b + (a + 2 - a) = b + 2 by omega]
            · rw [if_neg j30, if_neg (fun e => j30 e.2.2)]
          · by_cases c1 : c = a + 1
            · subst c1
              simp only [show ¬ b + 1 = a by omega, show ¬ a + 1 = a + 4 by omega, show ¬ a + 1 = a + 3 by omega, show ¬ a + 1 = a + 2 by omega, show ¬ a + 1 = a by omega, false_and, if_false, true_and]
              by_cases j30 : j < 30
              · rw [if_pos j30, if_pos ⟨by omega, by omega, j30⟩, show b + (a + 1 - a) = b + 1 by omega]
              · rw [if_neg j30, if_neg (fun e => j30 e.2.2)]
            · simp only [c4, c3, c2, c1, c0, false_and, if_false]
              rw [if_neg (by omega)]
  have g2 : g.2 = h.2 := by rw [← hg]; rfl
  have w : ∀ c j, (mm_cpI (mm_cpI (mm_pI g a 5 (g.1 b 5)) (b + 5) (a + 5) 10) (b + 6) (a + 6) 10).1 c j = if c = a ∧ j = 5 then h.1 b 5 else if a + 5 ≤ c ∧ c ≤ a + 6 ∧ j < 10 then h.1 (b + (c - a)) j else g.1 c j := by
    intro c j
    have gb : ∀ k j, k ≤ 6 → g.1 (b + k) j = h.1 (b + k) j := fun k j hk => by rw [g1, if_neg (by omega), if_neg (by omega)]
    simp only [mp_c1, mp_I1]
    by_cases c6 : c = a + 6
    · subst c6
      simp only [show ¬ b + 6 = a + 5 by omega, show ¬ b + 6 = a by omega, show ¬ a + 6 = a + 5 by omega, show ¬ a + 6 = a by omega, false_and, if_false, true_and]
      by_cases j10 : j < 10
      · rw [if_pos j10, if_pos ⟨by omega, by omega, j10⟩, show b + (a + 6 - a) = b + 6 by omega, gb 6 j (by omega)]
      · rw [if_neg j10, if_neg (fun e => j10 e.2.2)]
    · by_cases c5 : c = a + 5
      · subst c5
        simp only [show ¬ b + 5 = a by omega, show ¬ a + 5 = a + 6 by omega, show ¬ a + 5 = a by omega, false_and, if_false, true_and]
        by_cases j10 : j < 10
        · rw [if_pos j10, if_pos ⟨by omega, by omega, j10⟩, show b + (a + 5 - a) = b + 5 by omega, gb 5 j (by omega)]
        · rw [if_neg j10, if_neg (fun e => j10 e.2.2)]
      · simp only [c6, c5, false_and, if_false]
        rw [if_neg (show ¬ (a + 5 ≤ c ∧ c ≤ a + 6 ∧ j < 10) by omega)]
        by_cases c0 : c = a ∧ j = 5
        · rw [if_pos c0, if_pos c0]
          exact gb 0 5 (by omega)
        · rw [if_neg c0, if_neg c0]
  refine mk_ok.ret ⟨⟨fun c hc => ⟨funext fun j => ?_, ?_⟩, ?_⟩, fun u' i' hu => ⟨?_, ?_, fun k hk => ?_, fun k hk => ?_⟩⟩
  · rw [w, if_neg (by omega), if_neg (by omega), g1, if_neg (by omega), if_neg (by omega)]
  · show g.2.1 c = _
    rw [g2]
  · show g.2.2 = _
    rw [g2]
  · have := hu 0 (by omega)
    simp only [Nat.add_zero] at this
    rw [this, w, if_neg (by omega), if_neg (by omega), g1, if_pos ⟨rfl, rfl⟩]; exact q1
  · have := hu 0 (by omega)
    simp only [Nat.add_zero] at this
    rw [this, w, if_pos ⟨rfl, rfl⟩]; exact q2
  · have h0 := hu 0 (by omega)
    simp only [Nat.add_zero] at h0
    have h1 := hu 1 (by omega)
    have h2 := hu 2 (by omega)
    have h3 := hu 3 (by omega)
    have h4 := hu 4 (by omega)
    rw [show 30 + 10 * i' + 1 = 31 + 10 * i' by omega, show 30 + 10 * i + 1 = 31 + 10 * i by omega] at h1
    rw [show 30 + 10 * i' + 2 = 32 + 10 * i' by omega, show 30 + 10 * i + 2 = 32 + 10 * i by omega] at h2
    rw [show 30 + 10 * i' + 3 = 33 + 10 * i' by omega, show 30 + 10 * i + 3 = 33 + 10 * i by omega] at h3
    rw [show 30 + 10 * i' + 4 = 34 + 10 * i' by omega, show 30 + 10 * i + 4 = 34 + 10 * i by omega] at h4
    rw [h0] at hk
    have z := q3 k hk
    have ww : ∀ f, 1 ≤ f → f ≤ 4 → (mm_cpI (mm_cpI (mm_pI g a 5 (g.1 b 5)) (b + 5) (a + 5) 10) (b + 6) (a + 6) 10).1 (a + f) k = h.1 (b + f) k := fun f f1 f2 => by
      rw [w, if_neg (by omega), if_neg (by omega), g1, if_neg (by omega), if_pos ⟨by omega, by omega, by omega⟩, show b + (a + f - a) = b + f by omega]
    rw [h1, h2, h3, h4, ww 1 (by omega) (by omega), ww 2 (by omega) (by omega), ww 3 (by omega) (by omega), ww 4 (by omega) (by omega)]
    exact z
  · have h0 := hu 0 (by omega)
    simp only [Nat.add_zero] at h0
    have h5 := hu 5 (by omega)
    have h6 := hu 6 (by omega)
    rw [show 30 + 10 * i' + 5 = 35 + 10 * i' by omega, show 30 + 10 * i + 5 = 35 + 10 * i by omega] at h5
    rw [show 30 + 10 * i' + 6 = 36 + 10 * i' by omega, show 30 + 10 * i + 6 = 36 + 10 * i by omega] at h6
    rw [h0] at hk
    have z := q4 k hk
    have ww : ∀ f, 5 ≤ f → f ≤ 6 → (mm_cpI (mm_cpI (mm_pI g a 5 (g.1 b 5)) (b + 5) (a + 5) 10) (b + 6) (a + 6) 10).1 (a + f) k = h.1 (b + f) k := fun f f1 f2 => by
      rw [w, if_neg (by omega), if_pos ⟨by omega, by omega, by omega⟩, show b + (a + f - a) = b + f by omega]
    rw [h5, h6, ww 5 (by omega) (by omega), ww 6 (by omega) (by omega)]
    exact z
theorem mi_laysLines {i k : Nat} {h : mm_H} (hi : i < 6) (hk : k < 6) (hik : ¬ i = k) : mk_ok (f_M_laysLines (Int32.ofNat i) (Int32.ofNat k) h) (fun v => v.2 = h.2 ∧ ∀ c j, v.1 c j = if c = 293 ∧ j = k then h.1 293 i else if 294 ≤ c ∧ c ≤ 297 ∧ 30 * k ≤ j ∧ j < 30 * k + 30 then h.1 c (30 * i + (j - 30 * k)) else h.1 c j) := by
  unfold f_M_laysLines
  refine mk_ok.bs (mn_ix hi (by omega)) ?_
  refine mk_ok.bs (mn_ix hk (by omega)) ?_
  simp only [mm_let]
  refine mk_ok.bind (mk_ok.for 30 (fun n z => z.1 = Int32.ofNat n ∧ z.2.2 = h.2 ∧ ∀ c j, z.2.1 c j = if c = 293 ∧ j = k then h.1 293 i else if 294 ≤ c ∧ c ≤ 297 ∧ 30 * k ≤ j ∧ j < 30 * k + n then h.1 c (30 * i + (j - 30 * k)) else h.1 c j) (Q := fun v : mm_H => v.2 = h.2 ∧ ∀ c j, v.1 c j = if c = 293 ∧ j = k then h.1 293 i else if 294 ≤ c ∧ c ≤ 297 ∧ 30 * k ≤ j ∧ j < 30 * k + 30 then h.1 c (30 * i + (j - 30 * k)) else h.1 c j) ⟨rfl, rfl, fun c j => ?_⟩ (fun n z hn hz => ?_) (fun z hz => ?_)) (fun v hv => mk_ok.ret hv)
  · show (mm_pI h 293 k (h.1 293 i)).1 c j = _
    rw [mp_I1]
    by_cases e : c = 293 ∧ j = k
    · rw [if_pos e, if_pos e]
    · rw [if_neg e, if_neg e, if_neg (by omega)]
  · obtain ⟨z1, z2⟩ := z
    obtain ⟨q1, q2, q3⟩ := hz
    replace q1 : z1 = Int32.ofNat n := q1
    replace q3 : ∀ c j, z2.1 c j = if c = 293 ∧ j = k then h.1 293 i else if 294 ≤ c ∧ c ≤ 297 ∧ 30 * k ≤ j ∧ j < 30 * k + n then h.1 c (30 * i + (j - 30 * k)) else h.1 c j := q3
    subst q1
    simp (disch := omega) only [mn_lle, mn_lmul, mn_add, mn_ix, Option.bind_some, mn_addl]
    rw [if_neg (by omega)]
    refine mk_ok.inl ⟨rfl, q2, fun c j => ?_⟩
    have src : ∀ c, 294 ≤ c → c ≤ 297 → z2.1 c (30 * i + n) = h.1 c (30 * i + n) := fun c h1 h2 => by rw [q3, if_neg (by omega), if_neg (by omega)]
    show (mm_pI (mm_pI (mm_pI (mm_pI z2 294 (30 * k + n) (z2.1 294 (30 * i + n))) 295 (30 * k + n) _) 296 (30 * k + n) _) 297 (30 * k + n) _).1 c j = _
    simp only [mp_I1]
    simp only [show ¬ (295 = 294) by omega, show ¬ (296 = 294) by omega, show ¬ (296 = 295) by omega, show ¬ (297 = 294) by omega, show ¬ (297 = 295) by omega, show ¬ (297 = 296) by omega, false_and, if_false]
    rw [src 294 (by omega) (by omega), src 295 (by omega) (by omega), src 296 (by omega) (by omega), src 297 (by omega) (by omega), q3]
    by_cases jn : j = 30 * k + n
    · subst jn
      have e : 30 * k + n - 30 * k = n := by omega
      by_cases c7 : c = 297
      · subst c7; rw [if_pos ⟨rfl, rfl⟩, if_neg (by omega), if_pos (by omega), e]
      · rw [if_neg (fun z => c7 z.1)]
        by_cases c6 : c = 296
        · subst c6; rw [if_pos ⟨rfl, rfl⟩, if_neg (by omega), if_pos (by omega), e]
        · rw [if_neg (fun z => c6 z.1)]
          by_cases c5 : c = 295
          · subst c5; rw [if_pos ⟨rfl, rfl⟩, if_neg (by omega), if_pos (by omega), e]
          · rw [if_neg (fun z => c5 z.1)]
            by_cases c4 : c = 294
            · subst c4; rw [if_pos ⟨rfl, rfl⟩, if_neg (by omega), if_pos (by omega), e]
            · rw [if_neg (fun z => c4 z.1)]
              by_cases c3 : c = 293 ∧ 30 * k + n = k
              · rw [if_pos c3, if_pos c3]
              · rw [if_neg c3, if_neg c3, if_neg (by omega), if_neg (by omega)]
    · rw [if_neg (fun z => jn z.2), if_neg (fun z => jn z.2), if_neg (fun z => jn z.2), if_neg (fun z => jn z.2)]
      by_cases c3 : c = 293 ∧ j = k
      · rw [if_pos c3, if_pos c3]
      · rw [if_neg c3, if_neg c3]
        by_cases c4 : 294 ≤ c ∧ c ≤ 297 ∧ 30 * k ≤ j ∧ j < 30 * k + n
        · rw [if_pos c4, if_pos (by omega)]
        · rw [if_neg c4, if_neg (by omega)]
  · obtain ⟨z1, z2⟩ := z
    obtain ⟨q1, q2, q3⟩ := hz
    replace q1 : z1 = _ := q1
    subst q1
    exact mk_ok.inr ⟨q2, q3⟩
theorem mi_laysSeen {i k : Nat} {h : mm_H} (hi : i < 5) (hk : k < 5) (hik : ¬ i = k) : mk_ok (f_M_laysSeen (Int32.ofNat i) (Int32.ofNat k) h) (fun v => v.2 = h.2 ∧ ∀ c j, v.1 c j = if c = 298 ∧ j = k then h.1 298 i else if c = 299 ∧ 10 * k ≤ j ∧ j < 10 * k + 10 then h.1 299 (10 * i + (j - 10 * k)) else if c = 300 ∧ 10 * k ≤ j ∧ j < 10 * k + 10 then h.1 300 (10 * i + (j - 10 * k)) &&& 1 else h.1 c j) := by
  unfold f_M_laysSeen
  refine mk_ok.bs (mn_ix hi (by omega)) ?_
  refine mk_ok.bs (mn_ix hk (by omega)) ?_
  simp only [mm_let]
  refine mk_ok.bind (mk_ok.for 10 (fun n z => z.1 = Int32.ofNat n ∧ z.2.2 = h.2 ∧ ∀ c j, z.2.1 c j = if c = 298 ∧ j = k then h.1 298 i else if c = 299 ∧ 10 * k ≤ j ∧ j < 10 * k + n then h.1 299 (10 * i + (j - 10 * k)) else if c = 300 ∧ 10 * k ≤ j ∧ j < 10 * k + n then h.1 300 (10 * i + (j - 10 * k)) &&& 1 else h.1 c j) (Q := fun v : mm_H => v.2 = h.2 ∧ ∀ c j, v.1 c j = if c = 298 ∧ j = k then h.1 298 i else if c = 299 ∧ 10 * k ≤ j ∧ j < 10 * k + 10 then h.1 299 (10 * i + (j - 10 * k)) else if c = 300 ∧ 10 * k ≤ j ∧ j < 10 * k + 10 then h.1 300 (10 * i + (j - 10 * k)) &&& 1 else h.1 c j) ⟨rfl, rfl, fun c j => ?_⟩ (fun n z hn hz => ?_) (fun z hz => ?_)) (fun v hv => mk_ok.ret hv)
  · show (mm_pI h 298 k (h.1 298 i)).1 c j = _
    rw [mp_I1]
    by_cases e : c = 298 ∧ j = k
    · rw [if_pos e, if_pos e]
    · rw [if_neg e, if_neg e, if_neg (by omega), if_neg (by omega)]
  · obtain ⟨z1, z2⟩ := z
    obtain ⟨q1, q2, q3⟩ := hz
    replace q1 : z1 = Int32.ofNat n := q1
    replace q3 : ∀ c j, z2.1 c j = if c = 298 ∧ j = k then h.1 298 i else if c = 299 ∧ 10 * k ≤ j ∧ j < 10 * k + n then h.1 299 (10 * i + (j - 10 * k)) else if c = 300 ∧ 10 * k ≤ j ∧ j < 10 * k + n then h.1 300 (10 * i + (j - 10 * k)) &&& 1 else h.1 c j := q3
    subst q1
    simp (disch := omega) only [mn_lle, mn_lmul, mn_add, mn_ix, Option.bind_some, mn_addl]
    rw [if_neg (by omega)]
    refine mk_ok.inl ⟨rfl, q2, fun c j => ?_⟩
    have s9 : z2.1 299 (10 * i + n) = h.1 299 (10 * i + n) := by rw [q3, if_neg (by omega), if_neg (by omega), if_neg (by omega)]
    have s0 : z2.1 300 (10 * i + n) = h.1 300 (10 * i + n) := by rw [q3, if_neg (by omega), if_neg (by omega), if_neg (by omega)]
    show (mm_pI (mm_pI z2 299 (10 * k + n) (z2.1 299 (10 * i + n))) 300 (10 * k + n) ((mm_pI z2 299 (10 * k + n) (z2.1 299 (10 * i + n))).1 300 (10 * i + n) &&& 1)).1 c j = _
    simp only [mp_I1]
    simp only [show ¬ (300 = 299) by omega, false_and, if_false]
    rw [s9, s0, q3]
    by_cases jn : j = 10 * k + n
    · subst jn
      have e : 10 * k + n - 10 * k = n := by omega
      by_cases c0 : c = 300
      · subst c0; rw [if_pos ⟨rfl, rfl⟩, if_neg (by omega), if_neg (by omega), if_pos (by omega), e]
      · rw [if_neg (fun z => c0 z.1)]
        by_cases c9 : c = 299
        · subst c9; rw [if_pos ⟨rfl, rfl⟩, if_neg (by omega), if_pos (by omega), e]
        · rw [if_neg (fun z => c9 z.1)]
          by_cases c8 : c = 298 ∧ 10 * k + n = k
          · rw [if_pos c8, if_pos c8]
          · rw [if_neg c8, if_neg c8, if_neg (by omega), if_neg (by omega), if_neg (by omega), if_neg (by omega)]
    · rw [if_neg (fun z => jn z.2), if_neg (fun z => jn z.2)]
      by_cases c8 : c = 298 ∧ j = k
      · rw [if_pos c8, if_pos c8]
      · rw [if_neg c8, if_neg c8]
        by_cases c9 : c = 299 ∧ 10 * k ≤ j ∧ j < 10 * k + n
        · rw [if_pos c9, if_pos (by omega)]
        · rw [if_neg c9, if_neg (show ¬ (c = 299 ∧ 10 * k ≤ j ∧ j < 10 * k + (n + 1)) by omega)]
          by_cases c0 : c = 300 ∧ 10 * k ≤ j ∧ j < 10 * k + n
          · rw [if_pos c0, if_pos (by omega)]
          · rw [if_neg c0, if_neg (by omega)]
  · obtain ⟨z1, z2⟩ := z
    obtain ⟨q1, q2, q3⟩ := hz
    replace q1 : z1 = _ := q1
    subst q1
    exact mk_ok.inr ⟨q2, q3⟩
