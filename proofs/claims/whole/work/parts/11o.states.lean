/-! A STATE WHOLE (with who is aware, and the nets): copied, begun; the reference's rows copied -/
def mk_netN (r : Nat → Nat) (p : Nat) : Nat → Int32
  | 0 => 0
  | i + 1 => mk_netN r p i + (Int32.ofNat (r (86 + 6 * i + p)) - Int32.ofNat (r (86 + 6 * p + i)))
def mk_net (r : Nat → Nat) (p : Nat) : Int32 := mk_netN r p 6
def mk_XN (A : mk_A) (a : Nat) (r : Nat → Nat) (h : mm_H) : Prop := ∀ p, p < A 263 0 → h.1 (a + 5) p = mk_net r p
def mk_XR (A : mk_A) (a : Nat) (r : Nat → Nat) (h : mm_H) : Prop := mk_XS A a r h ∧ mk_XA A a r h ∧ mk_XN A a r h
theorem mk_XA.ch {D : Nat → Prop} {A : mk_A} {a : Nat} {r : Nat → Nat} {h h' : mm_H} (q : mk_XA A a r h) (c : mk_ch D h h') (hD : ¬ D (a + 2)) : mk_XA A a r h' := by
  unfold mk_XA
  rw [c.e2 hD]
  exact q
theorem mk_XN.ch {D : Nat → Prop} {A : mk_A} {a : Nat} {r : Nat → Nat} {h h' : mm_H} (q : mk_XN A a r h) (c : mk_ch D h h') (hD : ¬ D (a + 5)) : mk_XN A a r h' := by
  unfold mk_XN
  rw [c.e1 hD]
  exact q
theorem mk_XR.ch {D : Nat → Prop} {A : mk_A} {a : Nat} {r : Nat → Nat} {h h' : mm_H} (q : mk_XR A a r h) (c : mk_ch D h h') (hD : ∀ j, D j → j < a ∨ a + 5 < j) : mk_XR A a r h' :=
  ⟨q.1.ch c (fun j z => by have := hD j z; omega), q.2.1.ch c (fun z => by have := hD _ z; omega), q.2.2.ch c (fun z => by have := hD _ z; omega)⟩
theorem mi_net {r : Nat → Nat} {h : mm_H} (hR : mk_MR r h) {p : Nat} (hp : p < 6) : f_M_net (Int32.ofNat p) h = some (mk_net r p) := by
  unfold f_M_net
  refine (mk_bs (mm_while_for (g := fun i => (mk_netN r p i, Int32.ofNat i)) 6 (fun i hi => ?_) ?_)).trans rfl
  · have e1 := hR (86 + 6 * i + p) (by omega)
    have e2 := hR (86 + 6 * p + i) (by omega)
    simp (disch := omega) only [mn_lle, mn_lmul, mn_ladd, mn_add, mn_ix, Option.bind_some, e1, e2, mm_let, mn_addl]
    rw [if_neg (by omega)]
    rfl
  · rfl
/-- a state copied -/
theorem mx_copyFrom {A : mk_A} {a b : Nat} {r : Nat → Nat} {h : mm_H} (hT : mk_T A) (hR : mk_XR A b r h) (ha : mm_tg a = 4) (hab : a + 5 < b ∨ b + 5 < a) : mk_ok (f_St_copyFrom a b h) (fun v => mk_ch (fun c => a ≤ c ∧ c ≤ a + 5) h v ∧ mk_XR A a r v) := by
  have hP := hT.1.1
  have hS1 := hT.1.2.1
  obtain ⟨⟨s0, s1, s2, s3, s4, s5, s6, s7⟩, sA, sN⟩ := hR
  unfold f_St_copyFrom
  rw [if_pos ⟨ha, s0⟩]
  simp only [mm_let]
  generalize hg : mm_cpI (mm_cpI (mm_cpI (mm_cpL (mm_cpI h (b + 1) (a + 1) 10) (b + 2) (a + 2) 6) (b + 3) (a + 3) 6) (b + 4) (a + 4) 6) (b + 5) (a + 5) 6 = g
  have g1 : ∀ c j, g.1 c j = if c = a + 1 ∧ j < 10 then h.1 (b + 1) j else if c = a + 3 ∧ j < 6 then h.1 (b + 3) j else if c = a + 4 ∧ j < 6 then h.1 (b + 4) j else if c = a + 5 ∧ j < 6 then h.1 (b + 5) j else h.1 c j := by
    intro c j
    rw [← hg]
    simp only [mp_c1, mp_d1]
    by_cases c5 : c = a + 5
    · subst c5
      simp only [show ¬ a + 5 = a + 1 by omega, show ¬ a + 5 = a + 3 by omega, show ¬ a + 5 = a + 4 by omega, show ¬ b + 5 = a + 1 by omega, show ¬ b + 5 = a + 3 by omega, show ¬ b + 5 = a + 4 by omega, false_and, if_false]
    · by_cases c4 : c = a + 4
      · subst c4
        simp only [show ¬ a + 4 = a + 1 by omega, show ¬ a + 4 = a + 3 by omega, show ¬ a + 4 = a + 5 by omega, show ¬ b + 4 = a + 1 by omega, show ¬ b + 4 = a + 3 by omega, false_and, if_false]
      · by_cases c3 : c = a + 3
        · subst c3
          simp only [show ¬ a + 3 = a + 1 by omega, show ¬ a + 3 = a + 4 by omega, show ¬ a + 3 = a + 5 by omega, show ¬ b + 3 = a + 1 by omega, false_and, if_false]
        · simp only [c3, c4, c5, false_and, if_false]
  have g2 : ∀ c j, g.2.1 c j = if c = a + 2 ∧ j < 6 then h.2.1 (b + 2) j else h.2.1 c j := by
    intro c j
    rw [← hg]
    simp only [mp_c2, mp_d2]
  have g3 : g.2.2 = h.2.2 := by rw [← hg]; rfl
  have w : ∀ c j, (mm_pI (mm_pI (mm_pI (mm_pI (mm_pI g a 5 (g.1 b 5)) a 6 ((mm_pI g a 5 (g.1 b 5)).1 b 6)) a 7 ((mm_pI (mm_pI g a 5 (g.1 b 5)) a 6 ((mm_pI g a 5 (g.1 b 5)).1 b 6)).1 b 7)) a 8 ((mm_pI (mm_pI (mm_pI g a 5 (g.1 b 5)) a 6 ((mm_pI g a 5 (g.1 b 5)).1 b 6)) a 7 ((mm_pI (mm_pI g a 5 (g.1 b 5)) a 6 ((mm_pI g a 5 (g.1 b 5)).1 b 6)).1 b 7)).1 b 8)) a 9 ((mm_pI (mm_pI (mm_pI (mm_pI g a 5 (g.1 b 5)) a 6 ((mm_pI g a 5 (g.1 b 5)).1 b 6)) a 7 ((mm_pI (mm_pI g a 5 (g.1 b 5)) a 6 ((mm_pI g a 5 (g.1 b 5)).1 b 6)).1 b 7)) a 8 ((mm_pI (mm_pI (mm_pI g a 5 (g.1 b 5)) a 6 ((mm_pI g a 5 (g.1 b 5)).1 b 6)) a 7 ((mm_pI (mm_pI g a 5 (g.1 b 5)) a 6 ((mm_pI g a 5 (g.1 b 5)).1 b 6)).1 b 7)).1 b 8)).1 b 9)).1 c j = if c = a ∧ 5 ≤ j ∧ j ≤ 9 then h.1 b j else g.1 c j := by
    intro c j
    simp only [mp_I1, show ¬ b = a by omega, false_and, if_false]
    have gb : ∀ j, g.1 b j = h.1 b j := fun j => by rw [g1, if_neg (by omega), if_neg (by omega), if_neg (by omega), if_neg (by omega)]
    rw [gb, gb, gb, gb, gb]
    by_cases ca : c = a
    · simp only [ca, true_and]
      by_cases j9 : j = 9
      · subst j9; simp
      · by_cases j8 : j = 8
        · subst j8; simp
        · by_cases j7 : j = 7
          · subst j7; simp
          · by_cases j6 : j = 6
            · subst j6; simp
            · by_cases j5 : j = 5
              · subst j5; simp
              · rw [if_neg j9, if_neg j8, if_neg j7, if_neg j6, if_neg j5, if_neg (by omega)]
    · simp only [ca, false_and, if_false]
  have ga : ∀ j, g.1 a j = h.1 a j := fun j => by rw [g1, if_neg (by omega), if_neg (by omega), if_neg (by omega), if_neg (by omega)]
  refine mk_ok.ret ⟨⟨fun c hc => ⟨?_, ?_⟩, g3⟩, ⟨ha, fun i hi => ?_, fun i hi => ?_, ?_, ?_, ?_, ?_, ?_⟩, fun p q k hp hq hk => ?_, fun p hp => ?_⟩
  · funext j
    rw [w, if_neg (by omega), g1, if_neg (by omega), if_neg (by omega), if_neg (by omega), if_neg (by omega)]
  · funext j
    show g.2.1 c j = _
    rw [g2, if_neg (by omega)]
  · rw [w, if_neg (by omega), g1, if_pos ⟨rfl, by omega⟩]; exact s1 i hi
  · rw [w, w, if_neg (by omega), if_neg (by omega), g1, g1, if_neg (by omega), if_pos ⟨rfl, by omega⟩, if_neg (by omega), if_neg (by omega), if_pos ⟨rfl, by omega⟩]; exact s2 i hi
  · rw [w, if_pos ⟨rfl, by omega, by omega⟩]; exact s3
  · rw [w, if_pos ⟨rfl, by omega, by omega⟩]; exact s4
  · rw [w, if_pos ⟨rfl, by omega, by omega⟩]; exact s5
  · rw [w, if_pos ⟨rfl, by omega, by omega⟩]; exact s6
  · rw [w, if_pos ⟨rfl, by omega, by omega⟩]; exact s7
  · show (g.2.1 (a + 2) p).toBitVec.getLsbD _ = _
    rw [g2, if_pos ⟨rfl, by omega⟩]
    exact sA p q k hp hq hk
  · rw [w, if_neg (by omega), g1, if_neg (by omega), if_neg (by omega), if_neg (by omega), if_pos ⟨rfl, by omega⟩]
    exact sN p hp
/-- Arrays.fill, of ints and of longs -/
theorem mx_fillI {a n : Nat} {x : Int32} {h : mm_H} (ht : mm_tg a = 20 ∧ mm_ln a = n) (hn : n < 2147483648) : mk_ok (f_JA_fill_AIIV a x h) (fun v => v.2 = h.2 ∧ ∀ c j, v.1 c j = if c = a ∧ j < n then x else h.1 c j) := by
  unfold f_JA_fill_AIIV
  rw [if_pos ht.1, ht.2]
  simp only [mm_let]
  refine mk_ok.bind (mk_ok.for n (fun i z => z.1 = Int32.ofNat i ∧ z.2.2 = h.2 ∧ ∀ c j, z.2.1 c j = if c = a ∧ j < i then x else h.1 c j) (Q := fun v => v.2 = h.2 ∧ ∀ c j, v.1 c j = if c = a ∧ j < n then x else h.1 c j) ⟨rfl, rfl, fun c j => by rw [if_neg (by omega)]⟩ (fun i z hi hz => ?_) (fun z hz => ?_)) (fun v hv => mk_ok.ret hv)
  · obtain ⟨z1, z2⟩ := z
    obtain ⟨q1, q2, q3⟩ := hz
    replace q1 : z1 = Int32.ofNat i := q1
    replace q2 : z2.2 = h.2 := q2
    replace q3 : ∀ c j, z2.1 c j = if c = a ∧ j < i then x else h.1 c j := q3
    subst q1
    simp (disch := omega) only [mn_le, mn_ix, Option.bind_some, mn_addl]
    rw [if_neg (by omega)]
    refine mk_ok.inl ⟨rfl, q2, fun c j => ?_⟩
    show (mm_pI z2 a i x).1 c j = _
    rw [mp_I1, q3]
    by_cases c1 : c = a
    · by_cases c2 : j = i
      · rw [if_pos ⟨c1, c2⟩, if_pos ⟨c1, by omega⟩]
      · rw [if_neg (fun e => c2 e.2)]
        by_cases c3 : j < i
        · rw [if_pos ⟨c1, c3⟩, if_pos ⟨c1, by omega⟩]
        · rw [if_neg (fun e => c3 e.2), if_neg (by omega)]
    · rw [if_neg (fun e => c1 e.1), if_neg (fun e => c1 e.1), if_neg (fun e => c1 e.1)]
  · obtain ⟨z1, z2⟩ := z
    obtain ⟨q1, q2, q3⟩ := hz
    replace q1 : z1 = _ := q1
    subst q1
    simp (disch := omega) only [mn_le]
    rw [if_pos (Nat.le_refl _)]
    exact mk_ok.inr ⟨q2, q3⟩
theorem mx_fillL {a n : Nat} {x : Int64} {h : mm_H} (ht : mm_tg a = 21 ∧ mm_ln a = n) (hn : n < 2147483648) : mk_ok (f_JA_fill_AJJV a x h) (fun v => v.1 = h.1 ∧ v.2.2 = h.2.2 ∧ ∀ c j, v.2.1 c j = if c = a ∧ j < n then x else h.2.1 c j) := by
  unfold f_JA_fill_AJJV
  rw [if_pos ht.1, ht.2]
  simp only [mm_let]
  refine mk_ok.bind (mk_ok.for n (fun i z => z.1 = Int32.ofNat i ∧ z.2.1 = h.1 ∧ z.2.2.2 = h.2.2 ∧ ∀ c j, z.2.2.1 c j = if c = a ∧ j < i then x else h.2.1 c j) (Q := fun v => v.1 = h.1 ∧ v.2.2 = h.2.2 ∧ ∀ c j, v.2.1 c j = if c = a ∧ j < n then x else h.2.1 c j) ⟨rfl, rfl, rfl, fun c j => by rw [if_neg (by omega)]⟩ (fun i z hi hz => ?_) (fun z hz => ?_)) (fun v hv => mk_ok.ret hv)
  · obtain ⟨z1, z2⟩ := z
    obtain ⟨q1, q2, q3, q4⟩ := hz
    replace q1 : z1 = Int32.ofNat i := q1
    replace q4 : ∀ c j, z2.2.1 c j = if c = a ∧ j < i then x else h.2.1 c j := q4
    subst q1
    simp (disch := omega) only [mn_le, mn_ix, Option.bind_some, mn_addl]
    rw [if_neg (by omega)]
    refine mk_ok.inl ⟨rfl, q2, q3, fun c j => ?_⟩
    show (mm_pL z2 a i x).2.1 c j = _
    rw [mp_L2, q4]
    by_cases c1 : c = a
    · by_cases c2 : j = i
      · rw [if_pos ⟨c1, c2⟩, if_pos ⟨c1, by omega⟩]
      · rw [if_neg (fun e => c2 e.2)]
        by_cases c3 : j < i
        · rw [if_pos ⟨c1, c3⟩, if_pos ⟨c1, by omega⟩]
        · rw [if_neg (fun e => c3 e.2), if_neg (by omega)]
    · rw [if_neg (fun e => c1 e.1), if_neg (fun e => c1 e.1), if_neg (fun e => c1 e.1)]
  · obtain ⟨z1, z2⟩ := z
    obtain ⟨q1, q2, q3, q4⟩ := hz
    replace q1 : z1 = _ := q1
    subst q1
    simp (disch := omega) only [mn_le]
    rw [if_pos (Nat.le_refl _)]
    exact mk_ok.inr ⟨q2, q3, q4⟩
/-- the row as a town begins -/
def mk_fresh (A : mk_A) : Nat → Nat := fun j => if j < A 263 1 then A 273 j else if 70 ≤ j ∧ j < 70 + A 263 0 then A 267 (j - 70) else 0
theorem mk_fresh_W {A : mk_A} (hT : mk_T A) : mk_W A (mk_fresh A) := by
  have hP := hT.1.1
  have hS := hT.1.2.1
  have z : ∀ j, 10 ≤ j → (j < 70 ∨ 76 ≤ j) → mk_fresh A j = 0 := fun j h1 h2 => by unfold mk_fresh; rw [if_neg (by omega), if_neg (by omega)]
  refine ⟨fun j hj => ?_, fun i hi => ?_, ?_, ?_, ?_, ?_, fun i j hi hj => ?_, fun i j hi hj hij => ?_⟩
  · unfold mk_fresh; rw [if_pos hj]; exact (hT.2.2.1 j hj).2.2.2.2.2.1
  · unfold mk_fresh; rw [if_neg (by omega), if_pos ⟨by omega, by omega⟩, show 70 + i - 70 = i by omega]; exact (hT.2.1 i hi).2.1
  · rw [z 76 (by omega) (by omega)]; exact Nat.two_pow_pos _
  · rw [z 77 (by omega) (by omega)]; exact Nat.two_pow_pos _
  · rw [z 78 (by omega) (by omega)]; exact Nat.two_pow_pos _
  · rw [z 122 (by omega) (by omega)]; omega
  · rw [z _ (by omega) (by omega)]; exact Nat.two_pow_pos _
  · exact z _ (by omega) (by omega)
theorem mk_net0 {r : Nat → Nat} (h : ∀ j, 86 ≤ j → r j = 0) (p : Nat) : mk_net r p = 0 := by
  have : ∀ n, mk_netN r p n = 0 := by
    intro n
    induction n with
    | zero => rfl
    | succ n ih =>
      simp only [mk_netN]
      rw [ih, h _ (by omega), h _ (by omega)]
      rfl
  exact this 6
theorem mk_ftags : (mm_tg 37 = 21 ∧ mm_ln 37 = 6) ∧ (mm_tg 39 = 20 ∧ mm_ln 39 = 6) ∧ (mm_tg 40 = 20 ∧ mm_ln 40 = 6) ∧ (mm_tg 43 = 21 ∧ mm_ln 43 = 6) ∧ (mm_tg 45 = 20 ∧ mm_ln 45 = 6) ∧ (mm_tg 46 = 20 ∧ mm_ln 46 = 6) ∧ mm_tg 35 = 4 ∧ mm_tg 41 = 4 := by decide +kernel
theorem mx_begin {A : mk_A} {E : mk_E} {t a : Nat} {h : mm_H} (hT : mk_T A) (hX : mk_XT A E t h) (ha : mk_sa a) : mk_ok (f_St_begin a t h) (fun v => mk_ch (fun c => a ≤ c ∧ c ≤ a + 5) h v ∧ mk_XR A a (mk_fresh A) v) := by
  have hP := hT.1.1
  have hS1 := hT.1.2.1
  have hat := hX.1
  have tg : (mm_tg (a + 2) = 21 ∧ mm_ln (a + 2) = 6) ∧ (mm_tg (a + 4) = 20 ∧ mm_ln (a + 4) = 6) ∧ (mm_tg (a + 5) = 20 ∧ mm_ln (a + 5) = 6) ∧ mm_tg a = 4 := by
    rcases ha with rfl | rfl
    · exact ⟨mk_ftags.1, mk_ftags.2.1, mk_ftags.2.2.1, mk_ftags.2.2.2.2.2.2.1⟩
    · exact ⟨mk_ftags.2.2.2.1, mk_ftags.2.2.2.2.1, mk_ftags.2.2.2.2.2.1, mk_ftags.2.2.2.2.2.2.2⟩
  unfold mk_sa at ha
  unfold f_St_begin
  rw [if_pos ⟨tg.2.2.2, (mk_tt hX.1).1⟩]
  simp only [mm_let]
  refine mk_ok.bind (mx_fillL tg.1 (by omega)) (fun v6 ⟨f1, f2, f3⟩ => ?_)
  refine mk_ok.bind (mx_fillI tg.2.1 (by omega)) (fun v8 ⟨g1, g2⟩ => ?_)
  refine mk_ok.bind (mx_fillI tg.2.2.1 (by omega)) (fun v10 ⟨k1, k2⟩ => ?_)
  have c0 : ∀ c j, v10.1 c j = if c = a + 5 ∧ j < 6 then 0 else if c = a + 4 ∧ j < 6 then 0 else if c = a + 3 ∧ j < 6 then h.1 (t + 3) j else if c = a + 1 ∧ j < 10 then h.1 (t + 9) j else h.1 c j := by
    intro c j
    rw [k2, g2, f1]
    simp only [mp_c1]
    rw [if_neg (show ¬ (t + 3 = a + 1 ∧ j < 10) by omega)]
  have c2 : ∀ c j, v10.2.1 c j = if c = a + 2 ∧ j < 6 then 0 else h.2.1 c j := by
    intro c j
    rw [k1, g1, f3]
    rfl
  have c3 : v10.2.2 = h.2.2 := by rw [k1, g1, f2]; rfl
  have w : ∀ c j, (mm_pI (mm_pI (mm_pI (mm_pI (mm_pI v10 a 5 0) a 6 0) a 7 0) a 8 0) a 9 0).1 c j = if c = a ∧ 5 ≤ j ∧ j ≤ 9 then 0 else v10.1 c j := by
    intro c j
    simp only [mp_I1]
    by_cases ca : c = a
    · simp only [ca, true_and]
      by_cases j9 : j = 9
      · subst j9; simp
      · by_cases j8 : j = 8
        · subst j8; simp
        · by_cases j7 : j = 7
          · subst j7; simp
          · by_cases j6 : j = 6
            · subst j6; simp
            · by_cases j5 : j = 5
              · subst j5; simp
              · rw [if_neg j9, if_neg j8, if_neg j7, if_neg j6, if_neg j5, if_neg (by omega)]
    · simp only [ca, false_and, if_false]
  have fz : ∀ j, 10 ≤ j → (j < 70 ∨ 76 ≤ j) → mk_fresh A j = 0 := fun j h1 h2 => by unfold mk_fresh; rw [if_neg (by omega), if_neg (by omega)]
  refine mk_ok.ret ⟨⟨fun c hc => ⟨?_, ?_⟩, c3⟩, ⟨tg.2.2.2, fun i hi => ?_, fun i hi => ?_, ?_, ?_, ?_, ?_, ?_⟩, fun p q k hp hq hk => ?_, fun p hp => ?_⟩
  · funext j
    rw [w, if_neg (by omega), c0, if_neg (by omega), if_neg (by omega), if_neg (by omega), if_neg (by omega)]
  · funext j
    show v10.2.1 c j = _
    rw [c2, if_neg (by omega)]
  · rw [w, if_neg (by omega), c0, if_neg (by omega), if_neg (by omega), if_neg (by omega), if_pos ⟨rfl, by omega⟩, (hX.2.2.2.1 i hi).2.2.2.1]
    unfold mk_fresh; rw [if_pos hi]
  · rw [w, w, if_neg (by omega), if_neg (by omega), c0, c0, if_neg (by omega), if_neg (by omega), if_pos ⟨rfl, by omega⟩, if_neg (by omega), if_pos ⟨rfl, by omega⟩, (hX.2.2.1 i hi).2.1, fz (79 + i) (by omega) (by omega)]
    refine ⟨?_, rfl⟩
    unfold mk_fresh
    rw [if_neg (by omega), if_pos ⟨by omega, by omega⟩, show 70 + i - 70 = i by omega]
  · rw [w, if_pos ⟨rfl, by omega, by omega⟩, fz _ (by omega) (by omega)]; rfl
  · rw [w, if_pos ⟨rfl, by omega, by omega⟩, fz _ (by omega) (by omega)]; rfl
  · rw [w, if_pos ⟨rfl, by omega, by omega⟩, fz _ (by omega) (by omega)]; rfl
  · rw [w, if_pos ⟨rfl, by omega, by omega⟩, fz _ (by omega) (by omega)]; rfl
  · rw [w, if_pos ⟨rfl, by omega, by omega⟩, fz _ (by omega) (by omega)]; rfl
  · show (v10.2.1 (a + 2) p).toBitVec.getLsbD _ = _
    rw [c2, if_pos ⟨rfl, by omega⟩, fz _ (by omega) (by omega), Nat.zero_testBit]
    show (0#64).getLsbD _ = false
    simp
  · rw [w, if_neg (by omega), c0, if_pos ⟨rfl, by omega⟩, mk_net0 (fun j hj => fz j (by omega) (by omega))]
/-- the reference's rows -/
theorem mi_copies {ca cb na nb x y : Nat} {h : mm_H} (ha : mm_tg ca = 20 ∧ mm_ln ca = na) (hb : mm_tg cb = 20 ∧ mm_ln cb = nb) (hne : ¬ ca = cb) (hx : x + 123 ≤ na) (hy : y + 123 ≤ nb) (hn : na < 100000 ∧ nb < 100000) : mk_ok (f_M_copies ca (Int32.ofNat x) cb (Int32.ofNat y) h) (fun v => v.2 = h.2 ∧ ∀ c j, v.1 c j = if c = cb ∧ y ≤ j ∧ j < y + 123 then h.1 ca (x + (j - y)) else h.1 c j) := by
  unfold f_M_copies
  rw [if_pos ⟨ha.1, hb.1⟩, ha.2, hb.2]
  refine mk_ok.bind (mk_ok.for 123 (fun i z => z.1 = Int32.ofNat i ∧ z.2.2 = h.2 ∧ ∀ c j, z.2.1 c j = if c = cb ∧ y ≤ j ∧ j < y + i then h.1 ca (x + (j - y)) else h.1 c j) (Q := fun v => v.2 = h.2 ∧ ∀ c j, v.1 c j = if c = cb ∧ y ≤ j ∧ j < y + 123 then h.1 ca (x + (j - y)) else h.1 c j) ⟨rfl, rfl, fun c j => by rw [if_neg (by omega)]⟩ (fun i z hi hz => ?_) (fun z hz => ?_)) (fun v hv => mk_ok.ret hv)
  · obtain ⟨z1, z2⟩ := z
    obtain ⟨q1, q2, q3⟩ := hz
    replace q1 : z1 = Int32.ofNat i := q1
    replace q3 : ∀ c j, z2.1 c j = if c = cb ∧ y ≤ j ∧ j < y + i then h.1 ca (x + (j - y)) else h.1 c j := q3
    subst q1
    simp (disch := omega) only [mn_lle, mn_add, mn_ix, Option.bind_some, mm_let, mn_addl]
    rw [if_neg (by omega)]
    refine mk_ok.inl ⟨rfl, q2, fun c j => ?_⟩
    show (mm_pI z2 cb (y + i) (z2.1 ca (x + i))).1 c j = _
    rw [mp_I1, q3, q3, if_neg (show ¬ (ca = cb ∧ y ≤ x + i ∧ x + i < y + i) from fun e => hne e.1)]
    by_cases c1 : c = cb
    · by_cases c2 : j = y + i
      · rw [if_pos ⟨c1, c2⟩, if_pos ⟨c1, by omega, by omega⟩, c2, show y + i - y = i by omega]
      · rw [if_neg (fun e => c2 e.2)]
        by_cases c3 : y ≤ j ∧ j < y + i
        · rw [if_pos ⟨c1, c3⟩, if_pos ⟨c1, by omega, by omega⟩]
        · rw [if_neg (fun e => c3 e.2), if_neg (by omega)]
    · rw [if_neg (fun e => c1 e.1), if_neg (fun e => c1 e.1), if_neg (fun e => c1 e.1)]
  · obtain ⟨z1, z2⟩ := z
    obtain ⟨q1, q2, q3⟩ := hz
    replace q1 : z1 = _ := q1
    subst q1
    exact mk_ok.inr ⟨q2, q3⟩
