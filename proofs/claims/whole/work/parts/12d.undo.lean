/-! WHAT IS REMEMBERED, UNDONE -/
def mk_rem (u : mk_U) (r : Nat → Nat) : mk_U := fun c => if c = 0 then (fun j => if j = 0 then min (u 0 0 + 1) 16 else if j = 1 then (u 0 1 + 1) % 16 else u 0 j) else if c ≤ 16 then (if u 0 0 = 16 then (if c = 16 then r else u (c + 1)) else if c = 1 + u 0 0 then r else u c) else u c
theorem mk_rem_hi {u : mk_U} {r : Nat → Nat} {c : Nat} (h : 17 ≤ c) : mk_rem u r c = u c := by
  unfold mk_rem
  rw [if_neg (by omega), if_neg (by omega)]
theorem mk_rem_0 {u : mk_U} {r : Nat → Nat} : mk_rem u r 0 0 = min (u 0 0 + 1) 16 := rfl
theorem mk_rem_1 {u : mk_U} {r : Nat → Nat} : mk_rem u r 0 1 = (u 0 1 + 1) % 16 := rfl
theorem mk_rem_2 {u : mk_U} {r : Nat → Nat} : mk_rem u r 0 2 = u 0 2 := rfl
/-- the i-th row then: the row remembered, or one from before -/
theorem mk_rem_row {u : mk_U} {r : Nat → Nat} (hd : u 0 0 ≤ 16) {i : Nat} (hi : i < mk_rem u r 0 0) : (i + 1 = mk_rem u r 0 0 ∧ mk_rem u r (1 + i) = r) ∨ (i + 1 < mk_rem u r 0 0 ∧ ∃ k, k < u 0 0 ∧ k = i + (u 0 0 + 1 - mk_rem u r 0 0) ∧ mk_rem u r (1 + i) = u (1 + k)) := by
  rw [mk_rem_0] at hi ⊢
  unfold mk_rem
  by_cases e : u 0 0 = 16
  · by_cases l : i = 15
    · refine Or.inl ⟨by omega, ?_⟩
      rw [if_neg (by omega), if_pos (by omega), if_pos e, if_pos (by omega)]
    · refine Or.inr ⟨by omega, i + 1, by omega, by omega, ?_⟩
      rw [if_neg (by omega), if_pos (by omega), if_pos e, if_neg (by omega)]
      rfl
  · by_cases l : i = u 0 0
    · refine Or.inl ⟨by omega, ?_⟩
      rw [if_neg (by omega), if_pos (by omega), if_neg e, if_pos (by omega)]
    · refine Or.inr ⟨by omega, i, by omega, by omega, ?_⟩
      rw [if_neg (by omega), if_pos (by omega), if_neg e, if_neg (by omega)]
theorem mk_TW.to {A : mk_A} {u u' : mk_U} {i : Nat} (h : mk_TW A u i) (e : ∀ c, 30 ≤ c → u' c = u c) : mk_TW A u' i := by
  unfold mk_TW
  rw [e _ (by omega), e _ (by omega), e _ (by omega), e _ (by omega), e _ (by omega), e _ (by omega), e _ (by omega)]
  exact h
theorem mk_rem_wf {A : mk_A} {r : Nat → Nat} {u : mk_U} (hw : mk_wf A r u) : mk_wf A r (mk_rem u r) := by
  obtain ⟨w1, w2, ⟨w3, w4, w5⟩, ⟨w6, w7⟩, w8, w9, w10, w11⟩ := hw
  have hi : ∀ c, 30 ≤ c → mk_rem u r c = u c := fun c hc => mk_rem_hi (by omega)
  refine ⟨w1, w2, ⟨by rw [mk_rem_0]; omega, by rw [mk_rem_1]; omega, fun i hi => ?_⟩, ⟨w6, fun m hm hb => ?_⟩, w8.to hi, ?_, ?_, ?_⟩
  · rcases mk_rem_row (r := r) w3 hi with ⟨-, e⟩ | ⟨-, k, hk, -, e⟩
    · rw [e]; exact w2
    · rw [e]; exact w5 k hk
  · rw [mk_rem_hi (by omega)]
    exact ⟨(w7 m hm hb).1, (w7 m hm hb).2.to hi⟩
  · rw [mk_rem_hi (by omega), mk_rem_hi (by omega)]; exact w9
  · intro p hp
    rw [mk_rem_hi (by omega)]; exact w10 p hp
  · intro p hp
    rw [mk_rem_hi (by omega)]; exact w11 p hp
theorem mk_TX.to {u u' : mk_U} {c i : Nat} {h : mm_H} (q : mk_TX u c i h) (e : ∀ c, 30 ≤ c → u' c = u c) : mk_TX u' c i h := by
  unfold mk_TX
  rw [e _ (by omega), e _ (by omega), e _ (by omega), e _ (by omega), e _ (by omega), e _ (by omega), e _ (by omega)]
  exact q
theorem mk_TM.to {u u' : mk_U} {i : Nat} {h : mm_H} (q : mk_TM u i h) (e : ∀ c, 30 ≤ c → u' c = u c) : mk_TM u' i h := by
  unfold mk_TM
  rw [e _ (by omega), e _ (by omega), e _ (by omega), e _ (by omega), e _ (by omega), e _ (by omega), e _ (by omega)]
  exact q
theorem mk_ptag : (∀ k, k < 16 → mm_tg (113 + 6 * k) = 4) ∧ (∀ k, k < 4 → mm_tg (209 + 13 * k) = 4) ∧ (mm_tg 301 = 20 ∧ mm_ln 301 = 123) ∧ (mm_tg 302 = 20 ∧ mm_ln 302 = 246) ∧ (mm_tg 303 = 20 ∧ mm_ln 303 = 492) ∧ (mm_tg 304 = 20 ∧ mm_ln 304 = 1968) := by decide +kernel
theorem mx_remember {A : mk_A} {E : mk_E} {t : Nat} {r : Nat → Nat} {u : mk_U} {h : mm_H} (hw : mk_wf A r u) (hX : mk_X A E t r u h) : mk_ok (f_X_remember h) (fun v => mk_X A E t r (mk_rem u r) v ∧ mk_ch (fun c => c = 32 ∨ (113 ≤ c ∧ c ≤ 208)) h v) := by
  obtain ⟨⟨x0, x0'⟩, x1, x2, ⟨x3, x4, x5⟩, ⟨x6, x7⟩, x8, x9, x10⟩ := hX
  obtain ⟨w3, w4, w5⟩ := hw.2.2.1
  have ht := x1.1
  have hi : ∀ c, 30 ≤ c → mk_rem u r c = u c := fun c hc => mk_rem_hi (by omega)
  unfold f_X_remember
  rw [x4]
  refine mk_ok.bs (mn_ix w4 (by omega)) ?_
  refine mk_ok.bind (mx_copyFrom hw.1 x2 (mk_ptag.1 _ w4) (by omega)) (fun v6 ⟨c1, c2⟩ => ?_)
  have d1 : v6.1 32 = h.1 32 := c1.e1 (by omega)
  have n1 : Int32.ofNat (u 0 1) + 1 - (Int32.ofNat (u 0 1) + 1) / 16 * 16 = Int32.ofNat ((u 0 1 + 1) % 16) := by
    rw [mn_addl 1]
    exact mn_reml (b := 16) (show u 0 1 + 1 < 2147483648 by omega) (by decide)
  have n2 : f_JM_min (Int32.ofNat (u 0 0) + 1) 16 = some (Int32.ofNat (min (u 0 0 + 1) 16)) := by
    rw [mn_addl 1]
    exact mn_min (b := 16) (show u 0 0 + 1 < 2147483648 by omega) (by omega)
  simp only [mm_let]
  have e1 : (mm_pI v6 32 17 (v6.1 32 17 + 1 - (v6.1 32 17 + 1) / 16 * 16)) = mm_pI v6 32 17 (Int32.ofNat ((u 0 1 + 1) % 16)) := by rw [d1, x4, n1]
  rw [e1]
  have e2 : (mm_pI v6 32 17 (Int32.ofNat ((u 0 1 + 1) % 16))).1 32 16 = Int32.ofNat (u 0 0) := by
    rw [mp_I1, if_neg (by omega), d1, x3]
  rw [e2, n2]
  refine mk_ok.bs rfl ?_
  have c3 : mk_ch (fun c => c = 32) v6 (mm_pI (mm_pI v6 32 17 (Int32.ofNat ((u 0 1 + 1) % 16))) 32 16 (Int32.ofNat (min (u 0 0 + 1) 16))) := (mk_ch.pI (D := fun c => c = 32) rfl).tr (mk_ch.pI (D := fun c => c = 32) rfl) (fun _ q => q) (fun _ q => q)
  generalize hv : mm_pI (mm_pI v6 32 17 (Int32.ofNat ((u 0 1 + 1) % 16))) 32 16 (Int32.ofNat (min (u 0 0 + 1) 16)) = v at c3 ⊢
  have v16 : v.1 32 16 = Int32.ofNat (min (u 0 0 + 1) 16) := by rw [← hv, mp_I1, if_pos ⟨rfl, rfl⟩]
  have v17 : v.1 32 17 = Int32.ofNat ((u 0 1 + 1) % 16) := by rw [← hv, mp_I1, if_neg (by omega), mp_I1, if_pos ⟨rfl, rfl⟩]
  have v18 : v.1 32 18 = Int32.ofNat (u 0 2) := by rw [← hv, mp_I1, if_neg (by omega), mp_I1, if_neg (by omega), d1, x6]
  have k : mk_ch (fun c => c = 32 ∨ (113 ≤ c ∧ c ≤ 208)) h v := c1.tr c3 (fun c q => by omega) (fun c q => Or.inl q)
  refine mk_ok.ret ⟨⟨⟨by rw [k.2]; exact x0, by rw [k.2]; exact x0'⟩, x1.ch k (fun j q => by omega), x2.ch k (fun j q => by omega), ⟨v16, v17, fun i hi => ?_⟩, ⟨v18, fun m hm hb => ?_⟩, ?_, ?_, ?_⟩, k⟩
  · rcases mk_rem_row (r := r) w3 hi with ⟨e, er⟩ | ⟨e, j, hj, ej, er⟩
    · rw [er]
      have ei : (mk_rem u r 0 1 + 16 - mk_rem u r 0 0 + i) % 16 = u 0 1 := by
        rw [mk_rem_1]
        rw [mk_rem_0] at e ⊢
        omega
      rw [ei]
      exact c2.ch c3 (fun j q => by omega)
    · rw [er]
      have ei : (mk_rem u r 0 1 + 16 - mk_rem u r 0 0 + i) % 16 = (u 0 1 + 16 - u 0 0 + j) % 16 ∧ ¬ (u 0 1 + 16 - u 0 0 + j) % 16 = u 0 1 := by
        rw [mk_rem_1]
        rw [mk_rem_0] at e ej ⊢
        omega
      rw [ei.1]
      have := ei.2
      exact ((x5 j hj).ch c1 (fun c q => by omega)).ch c3 (fun c q => by omega)
  · rw [mk_rem_2] at hb
    rw [mk_rem_hi (by omega)]
    exact ⟨(x7 m hm hb).1.ch k (fun j q => by omega), ((x7 m hm hb).2.ch k (fun j q => by omega)).to hi⟩
  · exact (x8.ch k (fun j q => by omega)).to hi
  · unfold mk_PX
    rw [mk_rem_hi (by omega), mk_rem_hi (by omega)]
    exact x9.ch k ⟨by omega, by omega⟩
  · have := x10.ch k ⟨by omega, by omega⟩
    exact ⟨fun p hp => by rw [mk_rem_hi (by omega)]; exact this.1 p hp, fun p hp => by rw [mk_rem_hi (by omega)]; exact this.2 p hp⟩
theorem mi_keeps {A : mk_A} {E : mk_E} {r : Nat → Nat} {u : mk_U} {h : mm_H} (hw : mk_wf A r u) (hM : mk_M A E r u h) : mk_ok (f_M_keeps h) (fun v => mk_M A E r (mk_rem u r) v ∧ mk_fX h v) := by
  obtain ⟨m1, m2, ⟨m3, m4⟩, m5, m6, m7, m8⟩ := hM
  obtain ⟨w3, w4, w5⟩ := hw.2.2.1
  have hi : ∀ c, 30 ≤ c → mk_rem u r c = u c := fun c hc => mk_rem_hi (by omega)
  unfold f_M_keeps
  -- the shift
  refine mk_ok.bind (Q := fun j1 => j1.2 = h.2 ∧ j1.1 261 55 = Int32.ofNat (mk_rem u r 0 0 - 1) ∧ (∀ c j, ¬ c = 304 → ¬ (c = 261 ∧ j = 55) → j1.1 c j = h.1 c j) ∧ ∀ i, i + 1 < mk_rem u r 0 0 → ∀ j, j < 123 → j1.1 304 (123 * i + j) = Int32.ofNat (mk_rem u r (1 + i) j)) ?_ (fun j1 ⟨q1, q2, q3, q4⟩ => ?_)
  · by_cases e : u 0 0 = 16
    · rw [m3, e, if_pos (show Int32.ofNat 16 = 16 from rfl)]
      refine mk_ok.bind (mk_ok.for 1845 (fun i z => z.1 = Int32.ofNat i ∧ z.2.2 = h.2 ∧ ∀ c j, z.2.1 c j = if c = 304 ∧ j < i then h.1 304 (j + 123) else h.1 c j) (Q := fun v : mm_H => v.2 = h.2 ∧ ∀ c j, v.1 c j = if c = 304 ∧ j < 1845 then h.1 304 (j + 123) else h.1 c j) ⟨rfl, rfl, fun c j => by rw [if_neg (by omega)]⟩ (fun i z hi hz => ?_) (fun z hz => ?_)) (fun v6 ⟨y1, y2⟩ => ?_)
      · obtain ⟨z1, z2⟩ := z
        obtain ⟨s1, s2, s3⟩ := hz
        replace s1 : z1 = Int32.ofNat i := s1
        replace s3 : ∀ c j, z2.1 c j = if c = 304 ∧ j < i then h.1 304 (j + 123) else h.1 c j := s3
        subst s1
        simp (disch := omega) only [mn_lle, mn_addl, mn_ix, Option.bind_some, mm_let]
        rw [if_neg (by omega)]
        refine mk_ok.inl ⟨rfl, s2, fun c j => ?_⟩
        show (mm_pI z2 304 i (z2.1 304 (i + 123))).1 c j = _
        rw [mp_I1, s3, s3, if_neg (show ¬ (304 = 304 ∧ i + 123 < i) by omega)]
        by_cases c1 : c = 304
        · by_cases c2 : j = i
          · rw [if_pos ⟨c1, c2⟩, if_pos ⟨c1, by omega⟩, c2]
          · rw [if_neg (fun e => c2 e.2)]
            by_cases c3 : j < i
            · rw [if_pos ⟨c1, c3⟩, if_pos ⟨c1, by omega⟩]
            · rw [if_neg (fun e => c3 e.2), if_neg (by omega)]
        · rw [if_neg (fun e => c1 e.1), if_neg (fun e => c1 e.1), if_neg (fun e => c1 e.1)]
      · obtain ⟨z1, z2⟩ := z
        obtain ⟨s1, s2, s3⟩ := hz
        replace s1 : z1 = _ := s1
        subst s1
        exact mk_ok.inr ⟨s2, s3⟩
      · simp only [mm_let]
        have ed : mk_rem u r 0 0 = 16 := by rw [mk_rem_0, e]; rfl
        refine mk_ok.ret ⟨y1, ?_, fun c j h1 h2 => ?_, fun i hi j hj => ?_⟩
        · rw [mp_I1, if_pos ⟨rfl, rfl⟩, y2, if_neg (by omega), m3, e, ed]; rfl
        · rw [mp_I1, if_neg h2, y2, if_neg (fun q => h1 q.1)]
        · rw [mp_I1, if_neg (by omega), y2, if_pos ⟨rfl, by omega⟩]
          rw [show 123 * i + j + 123 = 123 * (i + 1) + j by omega, m4 (i + 1) (by omega) j hj]
          rcases mk_rem_row (r := r) w3 (i := i) (by omega) with ⟨e1, er⟩ | ⟨e1, k, hk, ek, er⟩
          · omega
          · rw [er]
            have : k = i + 1 := by omega
            rw [this]
    · rw [m3, if_neg (fun z => e ((mn_eql (b := 16) (by omega) (by decide)).mp z))]
      have ed : mk_rem u r 0 0 = u 0 0 + 1 := by rw [mk_rem_0]; omega
      refine mk_ok.ret ⟨rfl, ?_, fun _ _ _ _ => rfl, fun i hi j hj => ?_⟩
      · rw [m3, ed]; rfl
      · rcases mk_rem_row (r := r) w3 (i := i) (by omega) with ⟨e1, er⟩ | ⟨e1, k, hk, ek, er⟩
        · omega
        · rw [er]
          have : k = i := by omega
          rw [this]
          exact m4 i (by omega) j hj
  · have dl : mk_rem u r 0 0 ≤ 16 ∧ 1 ≤ mk_rem u r 0 0 := by rw [mk_rem_0]; omega
    rw [q2, mn_lmul]
    show mk_ok ((f_M_copies 301 (Int32.ofNat 0) 304 (Int32.ofNat (123 * (mk_rem u r 0 0 - 1))) j1).bind _) _
    refine mk_ok.bind (mi_copies mk_ptag.2.2.1 mk_ptag.2.2.2.2.2 (by decide) (by omega) (by omega) (by omega)) (fun v26 ⟨y1, y2⟩ => ?_)
    simp only [mm_let]
    have v55 : v26.1 261 55 = Int32.ofNat (mk_rem u r 0 0 - 1) := by rw [y2, if_neg (by omega), q2]
    rw [v55]
    have n55 : Int32.ofNat (mk_rem u r 0 0 - 1) + 1 = Int32.ofNat (mk_rem u r 0 0) := by
      rw [mn_addl 1]
      congr 1
      show mk_rem u r 0 0 - 1 + 1 = _
      omega
    rw [n55]
    have w : ∀ c j, ¬ c = 304 → ¬ (c = 261 ∧ j = 55) → (mm_pI v26 261 55 (Int32.ofNat (mk_rem u r 0 0))).1 c j = h.1 c j := fun c j h1 h2 => by
      rw [mp_I1, if_neg h2, y2, if_neg (fun q => h1 q.1), q3 c j h1 h2]
    have w2 : (mm_pI v26 261 55 (Int32.ofNat (mk_rem u r 0 0))).2 = h.2 := by
      show v26.2 = h.2
      rw [y1, q1]
    have w304 : ∀ j, (mm_pI v26 261 55 (Int32.ofNat (mk_rem u r 0 0))).1 304 j = v26.1 304 j := fun j => by rw [mp_I1, if_neg (by omega)]
    have w55 : (mm_pI v26 261 55 (Int32.ofNat (mk_rem u r 0 0))).1 261 55 = Int32.ofNat (mk_rem u r 0 0) := by rw [mp_I1, if_pos ⟨rfl, rfl⟩]
    generalize mm_pI v26 261 55 (Int32.ofNat (mk_rem u r 0 0)) = v at w w2 w304 w55 ⊢
    have k : mk_ch (fun c => c = 304 ∨ c = 261) h v := ⟨fun c hc => ⟨funext fun j => w c j (fun q => hc (Or.inl q)) (fun q => hc (Or.inr q.1)), by rw [w2]⟩, by rw [w2]⟩
    refine mk_ok.ret ⟨⟨m1.ch k (fun j q => by omega), m2.ch k (by omega), ⟨w55, fun i hi j hj => ?_⟩, ?_, ?_, ?_, ?_⟩, mk_fX.of k (fun c q => by omega)⟩
    · rw [w304, y2]
      by_cases e : i + 1 = mk_rem u r 0 0
      · rw [if_pos ⟨rfl, by omega, by omega⟩]
        rcases mk_rem_row (r := r) w3 hi with ⟨e1, er⟩ | ⟨e1, -⟩
        · rw [er, q3 _ _ (by omega) (by omega)]
          have : 0 + (123 * i + j - 123 * (mk_rem u r 0 0 - 1)) = j := by omega
          rw [this]
          exact m2 j hj
        · omega
      · rw [if_neg (by omega)]
        exact q4 i (by omega) j hj
    · intro m hm
      have := (m5.ch k (fun j q => by omega)) m hm
      rw [mk_rem_2]
      refine ⟨this.1, fun hb => ⟨?_, (this.2 hb).2.to hi⟩⟩
      rw [mk_rem_hi (by omega)]
      exact (this.2 hb).1
    · exact (m6.ch k (fun j q => by omega)).to hi
    · unfold mk_PM
      rw [mk_rem_hi (by omega), mk_rem_hi (by omega), w 261 1 (by omega) (by omega), k.e1 (c := 262) (by omega)]
      exact m7
    · have := m8.ch k ⟨by omega, by omega⟩
      exact ⟨fun p hp => by rw [mk_rem_hi (by omega)]; exact this.1 p hp, fun p hp => by rw [mk_rem_hi (by omega)]; exact this.2 p hp⟩
/-- the row now changes -/
theorem mk_X.row {A : mk_A} {E : mk_E} {t : Nat} {r r' : Nat → Nat} {u : mk_U} {h h' : mm_H} (hw : mk_wf A r u) (q : mk_X A E t r u h) (k : mk_ch (fun c => 35 ≤ c ∧ c ≤ 40) h h') (n : mk_XR A 35 r' h') : mk_X A E t r' u h' := by
  obtain ⟨q0, q1, q2, q3, q4, q5, q6, q7⟩ := q
  have ht := q1.1
  exact ⟨by rw [k.2]; exact q0, q1.ch k (fun j z => by omega), n, q3.ch hw.2.2.1.1 k (by omega) (fun j z => by omega), q4.ch k (by omega) (fun j z => by omega), q5.ch k (fun j z => by omega), q6.ch k ⟨by omega, by omega⟩, q7.ch k ⟨by omega, by omega⟩⟩
theorem mk_M.row {A : mk_A} {E : mk_E} {r r' : Nat → Nat} {u : mk_U} {h h' : mm_H} (q : mk_M A E r u h) (k : mk_ch (fun c => c = 301) h h') (n : mk_MR r' h') : mk_M A E r' u h' := by
  obtain ⟨q1, q2, q3, q4, q5, q6, q7⟩ := q
  exact ⟨q1.ch k (fun j z => by omega), n, q3.ch k (by rw [k.e1 (by omega)]) (by omega), q4.ch k (fun j z => by omega), q5.ch k (fun j z => by omega), q6.ch k (by rw [k.e1 (by omega)]) (by omega), q7.ch k ⟨by omega, by omega⟩⟩
theorem mk_wf.row {A : mk_A} {r r' : Nat → Nat} {u : mk_U} (hw : mk_wf A r u) (h : mk_W A r') : mk_wf A r' u := ⟨hw.1, h, hw.2.2⟩
theorem mk_net_congr {r r' : Nat → Nat} {p : Nat} (hp : p < 6) (h : ∀ j, 86 ≤ j → j < 122 → r' j = r j) : mk_net r' p = mk_net r p := by
  have : ∀ n, n ≤ 6 → mk_netN r' p n = mk_netN r p n := by
    intro n
    induction n with
    | zero => intro _; rfl
    | succ n ih =>
      intro hn
      simp only [mk_netN]
      rw [ih (by omega), h _ (by omega) (by omega), h _ (by omega) (by omega)]
  exact this 6 (Nat.le_refl _)
