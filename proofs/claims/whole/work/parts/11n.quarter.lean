/-! A QUARTER'S END, a fresh row, a state copied, on both sides -/
def mk_ow (A : mk_A) (r : Nat → Nat) (p : Nat) : Bool := decide (0 < A 268 p) && !(r 78).testBit p
def mk_pass (A : mk_A) (r : Nat → Nat) : Nat → Nat := fun j => if 79 ≤ j ∧ j < 79 + A 263 0 then r j + (mk_ow A r (j - 79)).toNat else if j = 77 ∨ j = 78 then 0 else if j = 85 then r 85 + 1 else r j
def mk_owes (A : mk_A) (r : Nat → Nat) : Nat := mk_set (mk_ow A r) (A 263 0)
theorem mk_pass_W {A : mk_A} {r : Nat → Nat} (hT : mk_T A) (hW : mk_W A r) : mk_W A (mk_pass A r) := by
  have hP := hT.1.1
  have hS := hT.1.2.1
  obtain ⟨w1, w2, w3, w4, w5, w6, w7, w8⟩ := hW
  have n : ∀ j, j < 77 ∨ 85 < j → mk_pass A r j = r j := fun j h1 => by unfold mk_pass; rw [if_neg (by omega), if_neg (by omega), if_neg (by omega)]
  refine ⟨fun j hj => ?_, fun i hi => ?_, ?_, ?_, ?_, ?_, fun i j hi hj => ?_, fun i j hi hj hij => ?_⟩
  · rw [n _ (by omega)]; exact w1 j hj
  · rw [n _ (by omega)]; exact w2 i hi
  · rw [n _ (by omega)]; exact w3
  · have : mk_pass A r 77 = 0 := by unfold mk_pass; rw [if_neg (by omega), if_pos (by omega)]
    rw [this]; exact Nat.two_pow_pos _
  · have : mk_pass A r 78 = 0 := by unfold mk_pass; rw [if_neg (by omega), if_pos (by omega)]
    rw [this]; exact Nat.two_pow_pos _
  · rw [n _ (by omega)]; exact w6
  · by_cases e : 10 + 10 * i + j < 77
    · rw [n _ (by omega)]; exact w7 i j hi hj
    · omega
  · rw [n _ (by omega)]; exact w8 i j hi hj hij
theorem mn_setp {s i : Nat} (b : Bool) (hi : i < 31) : Int32.ofNat (s ||| (b.toNat <<< i)) = if b = true then Int32.ofNat s ||| (1 : Int32) <<< (Int32.ofNat i &&& 31) else Int32.ofNat s := by
  cases b
  · simp
  · rw [if_pos rfl, mn_shl (by omega), mn_or, Bool.toNat_true, Nat.one_shiftLeft]
theorem mx_endQuarter {A : mk_A} {E : mk_E} {t a : Nat} {r : Nat → Nat} {h : mm_H} (hT : mk_T A) (hW : mk_W A r) (hX : mk_XT A E t h) (ha : mk_sa a) (hS : mk_XS A a r h) : mk_ok (f_St_endQuarter a t h) (fun v => v.1 = Int32.ofNat (mk_owes A r) ∧ mk_ch (fun c => c = a ∨ c = a + 4) h v.2 ∧ mk_XS A a (mk_pass A r) v.2 ∧ v.2.2 = h.2) := by
  have hP := hT.1.1
  have hS1 := hT.1.2.1
  have b78 := mk_p2 hP hW.2.2.2.2.1
  have hat := hX.1
  have ha0 := ha
  unfold mk_sa at ha0
  unfold f_St_endQuarter
  rw [if_pos ⟨hS.1, (mk_tt hX.1).1⟩]
  refine mk_ok.bind (mk_ok.for (A 263 0) (fun i z => z.2.1 = Int32.ofNat i ∧ z.1 = Int32.ofNat (mk_set (mk_ow A r) i) ∧ z.2.2.2 = h.2 ∧ ∀ c j, z.2.2.1 c j = if c = a + 4 ∧ j < i then h.1 c j + Int32.ofNat (mk_ow A r j).toNat else h.1 c j) (Q := fun v => v.1 = Int32.ofNat (mk_owes A r) ∧ v.2.2 = h.2 ∧ ∀ c j, v.2.1 c j = if c = a + 4 ∧ j < A 263 0 then h.1 c j + Int32.ofNat (mk_ow A r j).toNat else h.1 c j) ⟨rfl, rfl, rfl, fun c j => by rw [if_neg (by omega)]⟩ (fun i z hi hz => ?_) (fun z hz => ?_)) (fun v hv => ?_)
  · obtain ⟨z1, z2, z3⟩ := z
    obtain ⟨q1, q2, q3, q4⟩ := hz
    replace q1 : z2 = Int32.ofNat i := q1
    replace q2 : z1 = _ := q2
    replace q3 : z3.2 = h.2 := q3
    replace q4 : ∀ c j, z3.1 c j = if c = a + 4 ∧ j < i then h.1 c j + Int32.ofNat (mk_ow A r j).toNat else h.1 c j := q4
    subst q1; subst q2
    have e0 : z3.1 t 0 = Int32.ofNat (A 263 0) := by rw [q4, if_neg (by omega)]; exact hX.2.1.1
    have e4 : z3.1 (t + 4) i = Int32.ofNat (A 268 i) := by rw [q4, if_neg (by omega)]; exact (hX.2.2.1 i hi).2.2
    have b4 := (hT.2.1 i hi).2.2
    have e78 : z3.1 a 7 = Int32.ofNat (r 78) := by rw [q4, if_neg (by omega)]; exact hS.2.2.2.2.2.1
    simp (disch := omega) only [e0, mn_le, mn_ix, Option.bind_some, e4, mn_lel, e78, mn_xbit, mn_b0, mm_let]
    rw [if_neg (by omega)]
    have es : mk_set (mk_ow A r) (i + 1) = mk_set (mk_ow A r) i ||| ((mk_ow A r i).toNat <<< i) := rfl
    have step : ∀ v : mm_H, v.2 = h.2 → (∀ c j, v.1 c j = if c = a + 4 ∧ j = i then z3.1 c j + Int32.ofNat (mk_ow A r i).toNat else z3.1 c j) → v.2 = h.2 ∧ ∀ c j, v.1 c j = if c = a + 4 ∧ j < i + 1 then h.1 c j + Int32.ofNat (mk_ow A r j).toNat else h.1 c j := by
      intro v hv1 hv2
      refine ⟨hv1, fun c j => ?_⟩
      rw [hv2, q4]
      by_cases c1 : c = a + 4
      · by_cases c2 : j = i
        · rw [if_pos ⟨c1, c2⟩, if_neg (by omega), if_pos ⟨c1, by omega⟩, c2]
        · rw [if_neg (fun e => c2 e.2)]
          by_cases c3 : j < i
          · rw [if_pos ⟨c1, c3⟩, if_pos ⟨c1, by omega⟩]
          · rw [if_neg (fun e => c3 e.2), if_neg (by omega)]
      · rw [if_neg (fun e => c1 e.1), if_neg (fun e => c1 e.1), if_neg (fun e => c1 e.1)]
    have zero : ∀ x : Int32, x + Int32.ofNat (false.toNat) = x := fun x => Int32.add_zero x
    by_cases h0 : A 268 i ≤ 0
    · have ow : mk_ow A r i = false := by unfold mk_ow; rw [decide_eq_false (by omega)]; rfl
      rw [if_pos h0]
      simp only [Option.bind_some, mn_addl]
      refine mk_ok.inl ⟨rfl, ?_, step z3 q3 (fun c j => ?_)⟩
      · show _ = _
        rw [es, ow]; simp
      · rw [ow, zero]; simp
    · rw [if_neg h0]
      by_cases h1 : (r 78).testBit i = false
      · have ow : mk_ow A r i = true := by unfold mk_ow; rw [decide_eq_true (by omega), h1]; rfl
        rw [if_pos h1]
        simp only [Option.bind_some, mn_addl]
        refine mk_ok.inl ⟨rfl, ?_, step _ q3 (fun c j => ?_)⟩
        · show _ = Int32.ofNat (mk_set (mk_ow A r) (i + 1))
          rw [es, mn_setp _ (by omega), ow, if_pos rfl]
        · rw [mp_I1, ow]
          by_cases c1 : c = a + 4 ∧ j = i
          · rw [if_pos c1, if_pos c1, c1.1, c1.2]; rfl
          · rw [if_neg c1, if_neg c1]
      · have h1t : (r 78).testBit i = true := by simpa using h1
        have ow : mk_ow A r i = false := by unfold mk_ow; rw [h1t]; simp
        rw [if_neg h1]
        simp only [Option.bind_some, mn_addl]
        refine mk_ok.inl ⟨rfl, ?_, step z3 q3 (fun c j => ?_)⟩
        · show _ = _
          rw [es, ow]; simp
        · rw [ow, zero]; simp
  · obtain ⟨z1, z2, z3⟩ := z
    obtain ⟨q1, q2, q3, q4⟩ := hz
    replace q1 : z2 = _ := q1
    replace q2 : z1 = _ := q2
    replace q4 : ∀ c j, z3.1 c j = if c = a + 4 ∧ j < A 263 0 then h.1 c j + Int32.ofNat (mk_ow A r j).toNat else h.1 c j := q4
    subst q1; subst q2
    have e0 : z3.1 t 0 = Int32.ofNat (A 263 0) := by rw [q4, if_neg (by omega)]; exact hX.2.1.1
    simp (disch := omega) only [e0, mn_le]
    rw [if_pos (Nat.le_refl _)]
    exact mk_ok.inr ⟨rfl, q3, q4⟩
  · obtain ⟨v1, v2, v3⟩ := hv
    obtain ⟨s0, s1, s2, s3, s4, s5, s6, s7⟩ := hS
    have n : ∀ j, j < 77 ∨ 85 < j → mk_pass A r j = r j := fun j h1 => by unfold mk_pass; rw [if_neg (by omega), if_neg (by omega), if_neg (by omega)]
    have p79 : ∀ i, i < A 263 0 → mk_pass A r (79 + i) = r (79 + i) + (mk_ow A r i).toNat := fun i hi => by unfold mk_pass; rw [if_pos (by omega), show 79 + i - 79 = i by omega]
    simp only [mm_let]
    have w : ∀ c j, (mm_pI (mm_pI (mm_pI v.2 a 7 0) a 6 0) a 9 ((mm_pI (mm_pI v.2 a 7 0) a 6 0).1 a 9 + 1)).1 c j = if c = a ∧ j = 9 then v.2.1 a 9 + 1 else if c = a ∧ j = 6 then 0 else if c = a ∧ j = 7 then 0 else v.2.1 c j := fun c j => by
      simp only [mp_I1]
      rfl
    refine mk_ok.ret ⟨v1, ⟨fun c hc => ⟨?_, ?_⟩, ?_⟩, ⟨s0, fun i hi => ?_, fun i hi => ?_, ?_, ?_, ?_, ?_, ?_⟩, v2⟩
    · funext j
      have hc' : ¬ (c = a ∨ c = a + 4) := hc
      rw [w, if_neg (by omega), if_neg (by omega), if_neg (by omega), v3, if_neg (by omega)]
    · show v.2.2.1 c = h.2.1 c
      rw [v2]
    · show v.2.2.2 = h.2.2
      rw [v2]
    · rw [w, if_neg (by omega), if_neg (by omega), if_neg (by omega), v3, if_neg (by omega), n _ (by omega)]; exact s1 i hi
    · rw [w, w, if_neg (by omega), if_neg (by omega), if_neg (by omega), if_neg (by omega), if_neg (by omega), if_neg (by omega), v3, v3, if_neg (by omega), if_pos ⟨rfl, hi⟩, n _ (by omega), p79 i hi, (s2 i hi).2, mn_add]
      exact ⟨(s2 i hi).1, rfl⟩
    · rw [w, if_neg (by omega), if_neg (by omega), if_neg (by omega), v3, if_neg (by omega), n _ (by omega)]; exact s3
    · rw [w, if_neg (by omega), if_pos ⟨rfl, rfl⟩]
      have : mk_pass A r 77 = 0 := by unfold mk_pass; rw [if_neg (by omega), if_pos (by omega)]
      rw [this]; rfl
    · rw [w, if_neg (by omega), if_neg (by omega), if_pos ⟨rfl, rfl⟩]
      have : mk_pass A r 78 = 0 := by unfold mk_pass; rw [if_neg (by omega), if_pos (by omega)]
      rw [this]; rfl
    · rw [w, if_neg (by omega), if_neg (by omega), if_neg (by omega), v3, if_neg (by omega), n _ (by omega)]; exact s6
    · rw [w, if_pos ⟨rfl, rfl⟩, v3, if_neg (by omega), s7]
      have : mk_pass A r 85 = r 85 + 1 := by unfold mk_pass; rw [if_neg (by omega), if_neg (by omega), if_pos rfl]
      rw [this]; exact mn_addl 1 (r 85)
theorem mi_passes {A : mk_A} {E : mk_E} {r : Nat → Nat} {h : mm_H} (hT : mk_T A) (hW : mk_W A r) (hM : mk_MT A E h) (hR : mk_MR r h) : mk_ok (f_M_passes h) (fun v => v.1 = Int32.ofNat (mk_owes A r) ∧ mk_ch (fun c => c = 301) h v.2 ∧ mk_MR (mk_pass A r) v.2) := by
  have hP := hT.1.1
  have hS1 := hT.1.2.1
  have b78 := mk_p2 hP hW.2.2.2.2.1
  unfold f_M_passes
  refine mk_ok.bind (mk_ok.for (A 263 0) (fun i z => z.2.1 = Int32.ofNat i ∧ z.1 = Int32.ofNat (mk_set (mk_ow A r) i) ∧ z.2.2.2 = h.2 ∧ ∀ c j, z.2.2.1 c j = if c = 301 ∧ 79 ≤ j ∧ j < 79 + i then h.1 c j + Int32.ofNat (mk_ow A r (j - 79)).toNat else h.1 c j) (Q := fun v => v.1 = Int32.ofNat (mk_owes A r) ∧ v.2.2 = h.2 ∧ ∀ c j, v.2.1 c j = if c = 301 ∧ 79 ≤ j ∧ j < 79 + A 263 0 then h.1 c j + Int32.ofNat (mk_ow A r (j - 79)).toNat else h.1 c j) ⟨rfl, rfl, rfl, fun c j => by rw [if_neg (by omega)]⟩ (fun i z hi hz => ?_) (fun z hz => ?_)) (fun v hv => ?_)
  · obtain ⟨z1, z2, z3⟩ := z
    obtain ⟨q1, q2, q3, q4⟩ := hz
    replace q1 : z2 = Int32.ofNat i := q1
    replace q2 : z1 = _ := q2
    replace q3 : z3.2 = h.2 := q3
    replace q4 : ∀ c j, z3.1 c j = if c = 301 ∧ 79 ≤ j ∧ j < 79 + i then h.1 c j + Int32.ofNat (mk_ow A r (j - 79)).toNat else h.1 c j := q4
    subst q1; subst q2
    have e0 : z3.1 263 0 = Int32.ofNat (A 263 0) := by rw [q4, if_neg (by omega)]; exact hM.1 0 (by omega)
    have e4 : z3.1 268 i = Int32.ofNat (A 268 i) := by rw [q4, if_neg (by omega)]; exact (hM.2.1 i (by omega)).2.2
    have b4 := (hT.2.1 i hi).2.2
    have e78 : z3.1 301 78 = Int32.ofNat (r 78) := by rw [q4, if_neg (by omega)]; exact hR 78 (by omega)
    simp (disch := omega) only [e0, mn_le, mn_ix, Option.bind_some, e4, mn_eql, e78, mn_bit, mn_b1, mm_let, mn_ladd]
    rw [if_neg (by omega)]
    have es : mk_set (mk_ow A r) (i + 1) = mk_set (mk_ow A r) i ||| ((mk_ow A r i).toNat <<< i) := rfl
    have step : ∀ v : mm_H, v.2 = h.2 → (∀ c j, v.1 c j = if c = 301 ∧ j = 79 + i then z3.1 c j + Int32.ofNat (mk_ow A r i).toNat else z3.1 c j) → v.2 = h.2 ∧ ∀ c j, v.1 c j = if c = 301 ∧ 79 ≤ j ∧ j < 79 + (i + 1) then h.1 c j + Int32.ofNat (mk_ow A r (j - 79)).toNat else h.1 c j := by
      intro v hv1 hv2
      refine ⟨hv1, fun c j => ?_⟩
      rw [hv2, q4]
      by_cases c1 : c = 301
      · by_cases c2 : j = 79 + i
        · rw [if_pos ⟨c1, c2⟩, if_neg (by omega), if_pos ⟨c1, by omega⟩, c2, show 79 + i - 79 = i by omega]
        · rw [if_neg (fun e => c2 e.2)]
          by_cases c3 : 79 ≤ j ∧ j < 79 + i
          · rw [if_pos ⟨c1, c3⟩, if_pos ⟨c1, by omega⟩]
          · rw [if_neg (fun e => c3 e.2), if_neg (by omega)]
      · rw [if_neg (fun e => c1 e.1), if_neg (fun e => c1 e.1), if_neg (fun e => c1 e.1)]
    have zero : ∀ x : Int32, x + Int32.ofNat (false.toNat) = x := fun x => Int32.add_zero x
    by_cases h0 : A 268 i = 0
    · have ow : mk_ow A r i = false := by unfold mk_ow; rw [decide_eq_false (by omega)]; rfl
      rw [if_pos h0]
      simp only [Option.bind_some, mn_addl]
      refine mk_ok.inl ⟨rfl, ?_, step z3 q3 (fun c j => ?_)⟩
      · show _ = _
        rw [es, ow]; simp
      · rw [ow, zero]; simp
    · rw [if_neg h0]
      by_cases h1 : (r 78).testBit i = true
      · have ow : mk_ow A r i = false := by unfold mk_ow; rw [h1]; simp
        rw [if_pos h1]
        simp only [Option.bind_some, mn_addl]
        refine mk_ok.inl ⟨rfl, ?_, step z3 q3 (fun c j => ?_)⟩
        · show _ = _
          rw [es, ow]; simp
        · rw [ow, zero]; simp
      · have h1t : (r 78).testBit i = false := by simpa using h1
        have ow : mk_ow A r i = true := by unfold mk_ow; rw [decide_eq_true (by omega), h1t]; rfl
        rw [if_neg h1]
        simp only [Option.bind_some, mn_addl]
        refine mk_ok.inl ⟨rfl, ?_, step _ q3 (fun c j => ?_)⟩
        · show _ = Int32.ofNat (mk_set (mk_ow A r) (i + 1))
          rw [es, mn_setp _ (by omega), ow, if_pos rfl]
        · rw [mp_I1, ow]
          by_cases c1 : c = 301 ∧ j = 79 + i
          · rw [if_pos c1, if_pos c1, c1.1, c1.2]; rfl
          · rw [if_neg c1, if_neg c1]
  · obtain ⟨z1, z2, z3⟩ := z
    obtain ⟨q1, q2, q3, q4⟩ := hz
    replace q1 : z2 = _ := q1
    replace q2 : z1 = _ := q2
    replace q4 : ∀ c j, z3.1 c j = if c = 301 ∧ 79 ≤ j ∧ j < 79 + A 263 0 then h.1 c j + Int32.ofNat (mk_ow A r (j - 79)).toNat else h.1 c j := q4
    subst q1; subst q2
    have e0 : z3.1 263 0 = Int32.ofNat (A 263 0) := by rw [q4, if_neg (by omega)]; exact hM.1 0 (by omega)
    simp (disch := omega) only [e0, mn_le]
    rw [if_pos (Nat.le_refl _)]
    exact mk_ok.inr ⟨rfl, q3, q4⟩
  · obtain ⟨v1, v2, v3⟩ := hv
    simp only [mm_let]
    have w : ∀ c j, (mm_pI (mm_pI (mm_pI v.2 301 77 0) 301 78 0) 301 85 ((mm_pI (mm_pI v.2 301 77 0) 301 78 0).1 301 85 + 1)).1 c j = if c = 301 ∧ j = 85 then v.2.1 301 85 + 1 else if c = 301 ∧ j = 78 then 0 else if c = 301 ∧ j = 77 then 0 else v.2.1 c j := fun c j => by
      simp only [mp_I1]
      rfl
    refine mk_ok.ret ⟨v1, ⟨fun c hc => ⟨?_, ?_⟩, ?_⟩, fun j hj => ?_⟩
    · funext j
      rw [w, if_neg (fun e => hc e.1), if_neg (fun e => hc e.1), if_neg (fun e => hc e.1), v3, if_neg (fun e => hc e.1)]
    · show v.2.2.1 c = h.2.1 c
      rw [v2]
    · show v.2.2.2 = h.2.2
      rw [v2]
    · have rj := hR j hj
      rw [w, v3, v3]
      unfold mk_pass
      by_cases j85 : j = 85
      · subst j85
        rw [if_pos ⟨rfl, rfl⟩, if_neg (by omega), if_neg (by omega), if_neg (by omega), if_pos rfl, rj]
        exact mn_addl 1 (r 85)
      · rw [if_neg (fun e => j85 e.2)]
        by_cases j78 : j = 78
        · rw [if_pos ⟨rfl, j78⟩, if_neg (by omega), if_pos (by omega)]; rfl
        · rw [if_neg (fun e => j78 e.2)]
          by_cases j77 : j = 77
          · rw [if_pos ⟨rfl, j77⟩, if_neg (by omega), if_pos (by omega)]; rfl
          · rw [if_neg (fun e => j77 e.2)]
            by_cases jj : 79 ≤ j ∧ j < 79 + A 263 0
            · rw [if_pos ⟨rfl, jj⟩, if_pos jj, rj, mn_add]
            · rw [if_neg (fun e => jj e.2), if_neg jj, if_neg (by omega), if_neg j85, rj]
