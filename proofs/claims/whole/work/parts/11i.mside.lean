/-! THE REFERENCE'S SMALL METHODS, and its worths -/
def mk_ok {α : Type} (o : Option α) (Q : α → Prop) : Prop := ∃ r, o = some r ∧ Q r
theorem mk_ok.ret {α : Type} {Q : α → Prop} {v : α} (h : Q v) : mk_ok (some v) Q := ⟨v, rfl, h⟩
theorem mk_ok.bind {α β : Type} {o : Option α} {k : α → Option β} {Q : α → Prop} {R : β → Prop} (h : mk_ok o Q) (hk : ∀ r, Q r → mk_ok (k r) R) : mk_ok (o.bind k) R := by
  obtain ⟨r, rfl, q⟩ := h
  exact hk r q
theorem mk_ok.cons {α : Type} {o : Option α} {Q R : α → Prop} (h : mk_ok o Q) (hk : ∀ r, Q r → R r) : mk_ok o R := by
  obtain ⟨r, e, q⟩ := h
  exact ⟨r, e, hk r q⟩
theorem mk_ok.let {α β : Type} {e : α} {k : α → Option β} {R : β → Prop} (h : mk_ok (k e) R) : mk_ok (mm_let e k) R := h
theorem mk_ok.eq {α : Type} {o : Option α} {v : α} (h : o = some v) : mk_ok o (fun r => r = v) := ⟨v, h, rfl⟩
theorem mk_ok.bs {α β : Type} {o : Option α} {v : α} {k : α → Option β} {R : β → Prop} (h : o = some v) (hk : mk_ok (k v) R) : mk_ok (o.bind k) R := by
  rw [h]; exact hk
theorem mk_ok.for {σ ρ : Type} {step : σ → Option (σ ⊕ ρ)} (n : Nat) (I : Nat → σ → Prop) {Q : ρ → Prop} {s0 : σ} (h0 : I 0 s0) (H : ∀ i s, i < n → I i s → mk_ok (step s) (fun x => ∃ s', x = .inl s' ∧ I (i + 1) s')) (E : ∀ s, I n s → mk_ok (step s) (fun x => ∃ r, x = .inr r ∧ Q r)) : mk_ok (mm_while step s0) Q := by
  have key : ∀ k, k ≤ n → ∀ s, I (n - k) s → mk_ok (mm_while step s) Q := by
    intro k
    induction k with
    | zero =>
      intro _ s hs
      obtain ⟨x, e, r, rfl, hr⟩ := E s hs
      exact ⟨r, mm_while_inr e, hr⟩
    | succ k ih =>
      intro hk s hs
      obtain ⟨x, e, s', rfl, hr⟩ := H _ s (by omega) hs
      obtain ⟨r, e2, hq⟩ := ih (by omega) s' (by rw [show n - k = n - (k + 1) + 1 by omega]; exact hr)
      exact ⟨r, (mm_while_inl e).trans e2, hq⟩
  exact key n (Nat.le_refl _) s0 (by rw [Nat.sub_self]; exact h0)
theorem mk_ok.inl {σ ρ : Type} {I : σ → Prop} {s : σ} (h : I s) : mk_ok (some (Sum.inl s : σ ⊕ ρ)) (fun x => ∃ s', x = .inl s' ∧ I s') := ⟨_, rfl, s, rfl, h⟩
theorem mk_ok.inr {σ ρ : Type} {I : ρ → Prop} {s : ρ} (h : I s) : mk_ok (some (Sum.inr s : σ ⊕ ρ)) (fun x => ∃ s', x = .inr s' ∧ I s') := ⟨_, rfl, s, rfl, h⟩
theorem mi_knowersOf {A : mk_A} {E : mk_E} {h : mm_H} (hT : mk_T A) (hM : mk_MT A E h) {s : Nat} (hs : s < 2147483648) : f_M_knowersOf (Int32.ofNat s) h = some (Int32.ofNat (mk_kn A s)) := by
  have hP := hT.1.1
  have e0 := hM.1 0 (by omega)
  unfold f_M_knowersOf
  refine (mk_bs (mm_while_for (g := fun i => (Int32.ofNat (mk_cnt (fun p => s.testBit p && !(decide (A 266 p = 3))) i), Int32.ofNat i)) (A 263 0) (fun i hi => ?_) ?_)).trans rfl
  · have e1 := (hM.2.1 i (by omega)).1
    have e2 := (hT.2.1 i hi).1
    simp (disch := omega) only [e0, mn_le, mn_bit, mn_ix, mn_b1, Option.bind_some, e1, mn_eql, mm_let, mn_addl]
    rw [if_neg (by omega)]
    cases hb : s.testBit i
    · simp [mk_cnt, hb]
    · by_cases hk : A 266 i = 3
      · simp [mk_cnt, hb, hk]
      · simp [mk_cnt, hb, hk]
  · simp (disch := omega) only [e0, mn_le]
    rw [if_pos (Nat.le_refl _)]
    rfl
def mk_sp (A : mk_A) (p : Nat) : Bool := !(decide (A 266 p = 2)) && !(decide (A 266 p = 3))
theorem mi_speaks {A : mk_A} {E : mk_E} {h : mm_H} (hT : mk_T A) (hM : mk_MT A E h) {p : Nat} (hp : p < A 263 0) : f_M_speaks (Int32.ofNat p) h = some (Int32.ofNat (mk_sp A p).toNat) := by
  have hP := hT.1.1
  have e1 := (hM.2.1 p (by omega)).1
  have e2 := (hT.2.1 p hp).1
  unfold f_M_speaks mk_sp
  simp (disch := omega) only [mn_ix, Option.bind_some, e1, mn_eql]
  by_cases h2 : A 266 p = 2
  · simp [h2]
  · by_cases h3 : A 266 p = 3
    · simp [h3]
    · simp [h2, h3]
def mk_ct (A : mk_A) (r : Nat → Nat) (a b k : Nat) : Bool := (r k).testBit a && mk_sp A a && !(r k).testBit b
theorem mi_canTell {A : mk_A} {E : mk_E} {r : Nat → Nat} {h : mm_H} (hT : mk_T A) (hM : mk_MT A E h) (hW : mk_W A r) (hR : mk_MR r h) {a b k : Nat} (ha : a < A 263 0) (hb : b < A 263 0) (hk : k < A 263 1) : f_M_canTell (Int32.ofNat a) (Int32.ofNat b) (Int32.ofNat k) h = some (Int32.ofNat (mk_ct A r a b k).toNat) := by
  have hP := hT.1.1
  have hS := hT.1.2.1
  have e1 := hR k (by omega)
  have e2 := mk_p2 hP (hW.1 k hk)
  unfold f_M_canTell mk_ct
  rw [mi_speaks hT hM ha]
  simp (disch := omega) only [mn_ix, Option.bind_some, e1, mn_bit, mn_b1, mn_b0]
  cases (r k).testBit a <;> cases mk_sp A a <;> cases (r k).testBit b <;> rfl
theorem mi_knownBy {A : mk_A} {E : mk_E} {r : Nat → Nat} {h : mm_H} (hT : mk_T A) (hM : mk_MT A E h) (hW : mk_W A r) (hR : mk_MR r h) {p : Nat} (hp : p < 31) : f_M_knownBy (Int32.ofNat p) h = some (Int32.ofNat (mk_kb A r p)) := by
  have hP := hT.1.1
  have hS := hT.1.2.1
  have e0 := hM.1 1 (by omega)
  unfold f_M_knownBy
  refine (mk_bs (mm_while_for (g := fun i => (Int32.ofNat (mk_set (fun k => (r k).testBit p) i), Int32.ofNat i)) (A 263 1) (fun i hi => ?_) ?_)).trans rfl
  · have e1 := hR i (by omega)
    have e2 := mk_p2 hP (hW.1 i hi)
    simp (disch := omega) only [e0, mn_le, mn_bit, mn_ix, Option.bind_some, e1, mm_let, mn_addl]
    rw [if_neg (by omega)]
    have e3 : Int32.ofNat ((r i).testBit p).toNat <<< (Int32.ofNat i &&& 31) = Int32.ofNat (((r i).testBit p).toNat <<< i) := by
      cases (r i).testBit p
      · exact (by decide +kernel : ∀ j : Nat, j < 32 → Int32.ofNat (false.toNat) <<< (Int32.ofNat j &&& 31) = Int32.ofNat (false.toNat <<< j)) i (by omega)
      · exact (by decide +kernel : ∀ j : Nat, j < 32 → Int32.ofNat (true.toNat) <<< (Int32.ofNat j &&& 31) = Int32.ofNat (true.toNat <<< j)) i (by omega)
    rw [e3, mn_or]
    rfl
  · simp (disch := omega) only [e0, mn_le]
    rw [if_pos (Nat.le_refl _)]
    rfl
theorem mn_between {x : Int32} : f_M_between x 0 999 = some (Int32.ofNat (min 999 x.toInt.toNat)) := by
  unfold f_M_between
  by_cases h0 : 0 ≤ x
  · rw [if_pos h0]
    obtain ⟨n, hn, rfl⟩ := mn_of h0
    rw [mp_ofNat_toInt (by omega)]
    simp (disch := omega) only [mn_lel, Int.toNat_natCast]
    by_cases h1 : n ≤ 999
    · rw [if_pos h1, Nat.min_eq_right h1]
    · rw [if_neg h1, Nat.min_eq_left (by omega)]; rfl
  · rw [if_neg h0]
    have h1 : x.toInt < 0 := by
      have := Int32.not_le.mp h0
      exact Int32.lt_iff_toInt_lt.mp this
    have h2 : x.toInt.toNat = 0 := by omega
    rw [h2]; rfl
theorem mi_baseOf {A : mk_A} {E : mk_E} {r : Nat → Nat} {h : mm_H} (hT : mk_T A) (hM : mk_MT A E h) (hR : mk_MR r h) {k s : Nat} (hk : k < A 263 1) (hs : s < 2147483648) : mk_ok (f_M_baseOf (Int32.ofNat k) (Int32.ofNat s) h) (fun v => v.1 = Int32.ofNat (mk_b A E r k (mk_kn A s)) ∧ mk_ch mk_DM h v.2) := by
  have hP := hT.1.1
  have hS := hT.1.2.1
  obtain ⟨t1, t2, t3, t4, t5, t6, t7⟩ := hT.2.2.1 k hk
  have k1 := mk_kn_le (A := A) (s := s)
  obtain ⟨e1, e2, e3, e4, e5, e6⟩ := hM.2.2.1 k (by omega)
  unfold f_M_baseOf
  refine mk_ok.bs (mi_knowersOf hT hM hs) ?_
  have hE := hM.2.2.2.2
  cases hE0 : E with
  | none =>
    rw [hE0] at hE
    have hE1 : h.1 279 0 = h.1 278 0 := hE
    rw [if_pos hE1]
    have m1 : f_JM_max 1 (Int32.ofNat (mk_kn A s)) = some (Int32.ofNat (max 1 (mk_kn A s))) := mn_max (a := 1) (by omega) (by omega)
    have m2 : mm_nzI (Int32.ofNat (max 1 (mk_kn A s))) = some () := by
      unfold mm_nzI
      simp (disch := omega) only [mn_eql]
      rw [if_neg (by omega)]
    simp (disch := omega) only [mn_lel, mn_ix, Option.bind_some, m1, m2, e3, mn_div]
    have eb : mk_b A none r k (mk_kn A s) = if mk_kn A s ≤ 4 then A 271 k / max 1 (mk_kn A s) else 0 := rfl
    rw [eb]
    by_cases h4 : mk_kn A s ≤ 4
    · rw [if_pos h4, if_pos h4]
      exact mk_ok.ret ⟨rfl, mk_ch.rf⟩
    · rw [if_neg h4, if_neg h4]
      exact mk_ok.ret ⟨rfl, mk_ch.rf⟩
  | some f =>
    rw [hE0] at hE
    obtain ⟨hE1, hE2⟩ := hE
    rw [if_neg hE1]
    have r1 := hR 85 (by omega)
    have r2 := hR (70 + A 270 k) (by omega)
    simp (disch := omega) only [mm_let, mn_ix, Option.bind_some, mp_I1]
    simp only [show ¬ (301 = 292) by decide, show ¬ (270 = 292) by decide, false_and, if_false, e2]
    simp (disch := omega) only [mn_ladd, mn_ix, Option.bind_some]
    obtain ⟨h2, w1, w2⟩ := hE2 (mm_pI (mm_pI (mm_pI (mm_pI h 292 1 (h.1 271 k)) 292 2 (Int32.ofNat (mk_kn A s))) 292 3 (h.1 301 85)) 292 4 (h.1 301 (70 + A 270 k))) rfl rfl (fun _ _ => rfl)
    simp only [mp_I1, e3, r1, r2] at w1
    simp (disch := decide) at w1
    simp only [e3, r1, r2]
    rw [w1]
    refine mk_ok.bs rfl ?_
    refine mk_ok.bs mn_between ?_
    refine mk_ok.ret ⟨rfl, ?_⟩
    simp only [e3, r1, r2] at w2
    refine mk_ch.tr ?_ w2 (fun c q => q) (fun c q => q)
    have d : mk_DM 292 := ⟨by omega, by omega⟩
    exact ((mk_ch.pI d).tr (mk_ch.pI d) (fun c q => q) (fun c q => q)).tr ((mk_ch.pI d).tr (mk_ch.pI d) (fun c q => q) (fun c q => q)) (fun c q => q) (fun c q => q)
theorem mk_DM1 : ∀ j, mk_DM j → j < 263 ∨ 280 < j := fun j q => by unfold mk_DM at q; omega
theorem mk_DM2 : ¬ mk_DM 301 := fun q => by unfold mk_DM at q; omega
theorem mn_on0 : ¬ (0 : Int32) ≤ Int32.ofNat 0 - 1 := by decide
theorem mn_on1 {x : Nat} (h : ¬ x = 0) : Int32.ofNat x - 1 = Int32.ofNat (x - 1) := mn_subl (b := 1) (show 1 ≤ x by omega)
theorem mi_worthOf_n {A : mk_A} {E : mk_E} {r : Nat → Nat} (hT : mk_T A) (hW : mk_W A r) : ∀ (n k : Nat), k < n → k < A 263 1 → ∀ h : mm_H, mk_MT A E h → mk_MR r h → mk_ok (f_M_worthOf_n n (Int32.ofNat k) h) (fun v => v.1 = Int32.ofNat (mk_w A E r k) ∧ mk_ch mk_DM h v.2) := by
  have hP := hT.1.1
  have hS := hT.1.2.1
  intro n
  induction n with
  | zero => intro k hk; omega
  | succ n ih =>
    intro k hk hkS h hM hR
    obtain ⟨t1, t2, t3, t4, t5, t6, t7⟩ := hT.2.2.1 k hkS
    show mk_ok (f_M_worthOf_b (f_M_worthOf_n n) (Int32.ofNat k) h) _
    unfold f_M_worthOf_b
    have e1 := hR 76 (by omega)
    have e2 := mk_s2 hS hW.2.2.1
    have e3 := hR k (by omega)
    have e4 := mk_p2 hP (hW.1 k hkS)
    rw [mk_w_eq t5]
    simp (disch := omega) only [e1, mn_bit, mn_b1, mn_ix, Option.bind_some, e3]
    by_cases hm : (r 76).testBit k = true
    · rw [if_pos hm, if_pos hm]
      exact mk_ok.ret ⟨rfl, mk_ch.rf⟩
    · rw [if_neg hm, if_neg hm]
      refine mk_ok.bind (mi_baseOf hT hM hR hkS (by omega)) (fun v4 ⟨v1, v2⟩ => ?_)
      have hM4 := hM.ch v2 mk_DM1
      have hR4 := hR.ch v2 mk_DM2
      have e5 := (hM4.2.2.1 k (by omega)).2.2.2.1
      simp only [e5, v1]
      by_cases ho : A 272 k = 0
      · simp only [ho, mn_on0, if_false, if_true, Option.bind_some]
        refine mk_ok.ret ⟨?_, v2⟩
        show _ + (0 : Int32) = _
        rw [Int32.add_zero, Nat.add_zero]
      · rw [mn_on1 ho, if_neg ho]
        simp (disch := omega) only [mn_lle]
        rw [if_pos (by omega)]
        refine mk_ok.bind (mk_ok.bind (ih (A 272 k - 1) (by omega) (by omega) v4.2 hM4 hR4) (fun v12 q => mk_ok.ret (Q := fun z : Int32 × mm_H => z.1 = Int32.ofNat (mk_w A E r (A 272 k - 1)) ∧ mk_ch mk_DM v4.2 z.2) q)) (fun j7 ⟨w1, w2⟩ => ?_)
        refine mk_ok.ret ⟨?_, v2.tr w2 (fun _ q => q) (fun _ q => q)⟩
        show _ + j7.1 = _
        rw [w1, mn_add]
theorem mi_worthOf {A : mk_A} {E : mk_E} {r : Nat → Nat} {h : mm_H} (hT : mk_T A) (hW : mk_W A r) (hM : mk_MT A E h) (hR : mk_MR r h) {k : Nat} (hk : k < A 263 1) : mk_ok (f_M_worthOf (Int32.ofNat k) h) (fun v => v.1 = Int32.ofNat (mk_w A E r k) ∧ mk_ch mk_DM h v.2) := by
  have hS := hT.1.2.1
  exact mi_worthOf_n hT hW 12 k (by omega) hk h hM hR
theorem mi_worthsOf {A : mk_A} {E : mk_E} {r : Nat → Nat} {h : mm_H} (hT : mk_T A) (hW : mk_W A r) (hM : mk_MT A E h) (hR : mk_MR r h) {s : Nat} (hs : s < 2147483648) : mk_ok (f_M_worthsOf (Int32.ofNat s) h) (fun v => v.1 = Int32.ofNat (mk_ws A E r s) ∧ mk_ch mk_DM h v.2) := by
  have hS := hT.1.2.1
  unfold f_M_worthsOf
  refine mk_ok.bind (mk_ok.for (A 263 1) (fun i z => z.2.1 = Int32.ofNat i ∧ z.1 = Int32.ofNat (mk_sum (fun k => if s.testBit k = true then mk_w A E r k else 0) i) ∧ mk_ch mk_DM h z.2.2) (Q := fun v => v.1 = Int32.ofNat (mk_ws A E r s) ∧ mk_ch mk_DM h v.2) ⟨rfl, rfl, mk_ch.rf⟩ (fun i z hi hz => ?_) (fun z hz => ?_)) (fun v hv => mk_ok.ret hv)
  · obtain ⟨z1, z2, z3⟩ := z
    obtain ⟨q1, q2, q3⟩ := hz
    replace q1 : z2 = Int32.ofNat i := q1
    replace q2 : z1 = _ := q2
    subst q1; subst q2
    replace q3 : mk_ch mk_DM h z3 := q3
    have hM3 := hM.ch q3 mk_DM1
    have hR3 := hR.ch q3 mk_DM2
    have e0 := hM3.1 1 (by omega)
    simp (disch := omega) only [e0, mn_le, mn_bit, mn_b1]
    rw [if_neg (by omega)]
    refine mk_ok.bind (Q := fun y => y.1 = Int32.ofNat (if s.testBit i = true then mk_w A E r i else 0) ∧ mk_ch mk_DM h y.2) ?_ (fun y ⟨y1, y2⟩ => ?_)
    · by_cases hb : s.testBit i = true
      · rw [if_pos hb, if_pos hb]
        exact mk_ok.bind (mi_worthOf hT hW hM3 hR3 hi) (fun v ⟨v1, v2⟩ => mk_ok.ret ⟨v1, q3.tr v2 (fun _ q => q) (fun _ q => q)⟩)
      · rw [if_neg hb, if_neg hb]
        exact mk_ok.ret ⟨rfl, q3⟩
    · simp only [mm_let, y1, mn_add, mn_addl]
      exact mk_ok.inl ⟨rfl, rfl, y2⟩
  · obtain ⟨z1, z2, z3⟩ := z
    obtain ⟨q1, q2, q3⟩ := hz
    replace q1 : z2 = _ := q1
    replace q2 : z1 = _ := q2
    subst q1; subst q2
    replace q3 : mk_ch mk_DM h z3 := q3
    have e0 := (hM.ch q3 mk_DM1).1 1 (by omega)
    simp (disch := omega) only [e0, mn_le]
    rw [if_pos (Nat.le_refl _)]
    exact mk_ok.inr ⟨rfl, q3⟩
theorem mi_purse {A : mk_A} {E : mk_E} {r : Nat → Nat} {h : mm_H} (hT : mk_T A) (hW : mk_W A r) (hM : mk_MT A E h) (hR : mk_MR r h) {p : Nat} (hp : p < 31) : mk_ok (f_M_purse (Int32.ofNat p) h) (fun v => v.1 = Int32.ofNat (mk_ws A E r (mk_kb A r p)) ∧ mk_ch mk_DM h v.2) := by
  have hS := hT.1.2.1
  have b := mk_s2 hS (mk_set_lt (fun k => (r k).testBit p) (A 263 1))
  have b2 : mk_kb A r p < 1024 := b
  unfold f_M_purse
  refine mk_ok.bs (mi_knownBy hT hM hW hR hp) ?_
  exact mk_ok.bind (mi_worthsOf hT hW hM hR (by omega)) (fun v hv => mk_ok.ret hv)
