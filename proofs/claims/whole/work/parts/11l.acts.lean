/-! WHAT CHANGES A ROW: telling, paying, a quarter's end, on both sides -/
def mk_tell (A : mk_A) (r : Nat → Nat) (p q k : Nat) : Nat → Nat := fun j => if j = k then r k ||| 2 ^ q else if j = 10 + 10 * p + k then r j ||| 2 ^ q else if j = 10 + 10 * q + k then r j ||| 2 ^ p else if j = 76 then (if A 269 k = 1 ∧ A 270 k = q then r 76 ||| 2 ^ k else r 76) else r j
theorem mk_or2 {x y P : Nat} (hx : x < 2 ^ P) (hy : y < P) : x ||| 2 ^ y < 2 ^ P := Nat.or_lt_two_pow hx (Nat.pow_lt_pow_right (by omega) hy)
theorem mk_tell_W {A : mk_A} {r : Nat → Nat} (hT : mk_T A) (hW : mk_W A r) {p q k : Nat} (hp : p < A 263 0) (hq : q < A 263 0) (hk : k < A 263 1) : mk_W A (mk_tell A r p q k) := by
  have hP := hT.1.1
  have hS := hT.1.2.1
  obtain ⟨w1, w2, w3, w4, w5, w6, w7, w8⟩ := hW
  have t : ∀ j, 77 ≤ j → mk_tell A r p q k j = r j := fun j hj => by
    unfold mk_tell
    rw [if_neg (by omega), if_neg (by omega), if_neg (by omega), if_neg (by omega)]
  have t70 : ∀ i, i < A 263 0 → mk_tell A r p q k (70 + i) = r (70 + i) := fun j hj => by
    unfold mk_tell
    rw [if_neg (by omega), if_neg (by omega), if_neg (by omega), if_neg (by omega)]
  refine ⟨fun j hj => ?_, fun i hi => ?_, ?_, ?_, ?_, ?_, fun i j hi hj => ?_, fun i j hi hj hij => ?_⟩
  · unfold mk_tell
    split
    · exact mk_or2 (w1 k hk) hq
    · rw [if_neg (by omega), if_neg (by omega), if_neg (by omega)]
      exact w1 j hj
  · rw [t70 i hi]; exact w2 i hi
  · unfold mk_tell
    rw [if_neg (by omega), if_neg (by omega), if_neg (by omega), if_pos rfl]
    split
    · exact mk_or2 w3 hk
    · exact w3
  · rw [t 77 (by omega)]; exact w4
  · rw [t 78 (by omega)]; exact w5
  · rw [t 122 (by omega)]; exact w6
  · unfold mk_tell
    rw [if_neg (by omega)]
    split
    · exact mk_or2 (w7 i j hi hj) hq
    · split
      · exact mk_or2 (w7 i j hi hj) hp
      · rw [if_neg (by omega)]
        exact w7 i j hi hj
  · rw [t _ (by omega)]; exact w8 i j hi hj hij
theorem mi_tells {A : mk_A} {E : mk_E} {r : Nat → Nat} {h : mm_H} (hT : mk_T A) (hM : mk_MT A E h) (hR : mk_MR r h) {p q k : Nat} (hp : p < A 263 0) (hq : q < A 263 0) (hpq : ¬ p = q) (hk : k < A 263 1) : mk_ok (f_M_tells (Int32.ofNat p) (Int32.ofNat q) (Int32.ofNat k) h) (fun v => mk_ch (fun c => c = 301) h v ∧ mk_MR (mk_tell A r p q k) v) := by
  have hP := hT.1.1
  have hS := hT.1.2.1
  obtain ⟨t1, t2, t3, t4, t5, t6, t7⟩ := hT.2.2.1 k hk
  obtain ⟨e1, e2, e3, e4, e5, e6⟩ := hM.2.2.1 k (by omega)
  unfold f_M_tells
  simp (disch := omega) only [mn_lmul, mn_ladd, mn_add, mn_ix, Option.bind_some, mm_let, mn_shl]
  simp only [mp_I1, show ¬ (269 = 301) by decide, show ¬ (270 = 301) by decide, false_and, if_false, e1, e2]
  simp (disch := omega) only [mn_eql, mn_eq]
  have d : ∀ {h : mm_H} {k : Nat} {v : Int32}, mk_ch (fun c => c = 301) h (mm_pI h 301 k v) := fun {h k v} => mk_ch.pI (D := fun c => c = 301) rfl
  have tr : ∀ {h h1 h2 : mm_H}, mk_ch (fun c => c = 301) h h1 → mk_ch (fun c => c = 301) h1 h2 → mk_ch (fun c => c = 301) h h2 := fun a b => a.tr b (fun _ q => q) (fun _ q => q)
  have n1 : ¬ 10 + 10 * p + k = k := by omega
  have n2 : ¬ 10 + 10 * q + k = k := by omega
  have n3 : ¬ 10 + 10 * q + k = 10 + 10 * p + k := by omega
  have n4 : ¬ 76 = k := by omega
  have n5 : ¬ 76 = 10 + 10 * p + k := by omega
  have n6 : ¬ 76 = 10 + 10 * q + k := by omega
  have base : ∀ j, j < 123 → ¬ j = 76 → (mm_pI (mm_pI (mm_pI h 301 k (h.1 301 k ||| Int32.ofNat (2 ^ q))) 301 (10 + 10 * p + k) (h.1 301 (10 + 10 * p + k) ||| Int32.ofNat (2 ^ q))) 301 (10 + 10 * q + k) (h.1 301 (10 + 10 * q + k) ||| Int32.ofNat (2 ^ p))).1 301 j = Int32.ofNat (mk_tell A r p q k j) := by
    intro j hj hj76
    have r1 := hR k (by omega)
    have r2 := hR (10 + 10 * p + k) (by omega)
    have r3 := hR (10 + 10 * q + k) (by omega)
    have r4 := hR j hj
    unfold mk_tell
    simp only [mp_I1, true_and, r1, r2, r3, r4, mn_or]
    by_cases j3 : j = 10 + 10 * q + k
    · subst j3
      rw [if_pos rfl, if_neg n2, if_neg n3, if_pos rfl]
    · rw [if_neg j3]
      by_cases j2 : j = 10 + 10 * p + k
      · subst j2
        rw [if_pos rfl, if_neg n1, if_pos rfl]
      · rw [if_neg j2]
        by_cases j1 : j = k
        · subst j1
          rw [if_pos rfl, if_pos rfl]
        · rw [if_neg j1, if_neg j1, if_neg j2, if_neg j3, if_neg hj76]
  have r76 := hR 76 (by omega)
  have v76 : (mm_pI (mm_pI (mm_pI h 301 k (h.1 301 k ||| Int32.ofNat (2 ^ q))) 301 (10 + 10 * p + k) (h.1 301 (10 + 10 * p + k) ||| Int32.ofNat (2 ^ q))) 301 (10 + 10 * q + k) (h.1 301 (10 + 10 * q + k) ||| Int32.ofNat (2 ^ p))).1 301 76 = Int32.ofNat (r 76) := by
    simp only [mp_I1, true_and, n4, n5, n6, if_false, r76]
  have t76 : mk_tell A r p q k 76 = if A 269 k = 1 ∧ A 270 k = q then r 76 ||| 2 ^ k else r 76 := by
    unfold mk_tell
    rw [if_neg n4, if_neg n5, if_neg n6, if_pos rfl]
  simp only [true_and, n1, n2, n3, n4, n5, n6, if_false]
  by_cases c1 : A 269 k = 1
  · by_cases c2 : A 270 k = q
    · rw [if_pos c1, if_pos c2]
      refine mk_ok.ret ⟨tr (tr d d) (tr d d), fun j hj => ?_⟩
      by_cases j76 : j = 76
      · subst j76
        rw [mp_I1, if_pos ⟨rfl, rfl⟩, t76, if_pos ⟨c1, c2⟩, r76, mn_or]
      · rw [mp_I1, if_neg (fun z => j76 z.2)]
        exact base j hj j76
    · rw [if_pos c1, if_neg c2]
      refine mk_ok.ret ⟨tr (tr d d) d, fun j hj => ?_⟩
      by_cases j76 : j = 76
      · subst j76
        rw [t76, if_neg (fun z => c2 z.2)]
        exact v76
      · exact base j hj j76
  · rw [if_neg c1]
    refine mk_ok.ret ⟨tr (tr d d) d, fun j hj => ?_⟩
    by_cases j76 : j = 76
    · subst j76
      rw [t76, if_neg (fun z => c1 z.1)]
      exact v76
    · exact base j hj j76
/-! the class's side of a telling -/
def mk_XA (A : mk_A) (a : Nat) (r : Nat → Nat) (h : mm_H) : Prop := ∀ p q k, p < A 263 0 → q < A 263 0 → k < A 263 1 → (h.2.1 (a + 2) p).toBitVec.getLsbD (q * 10 + k) = (r (10 + 10 * p + k)).testBit q
theorem mn_shl64 {m i : Nat} (hm : m < 60) (hi : i < 60) : ((1 : Int64) <<< (Int32.toInt64 (Int32.ofNat m) &&& 63)).toBitVec.getLsbD i = decide (i = m) := (by decide +kernel : ∀ m : Nat, m < 60 → ∀ i : Nat, i < 60 → ((1 : Int64) <<< (Int32.toInt64 (Int32.ofNat m) &&& 63)).toBitVec.getLsbD i = decide (i = m)) m hm i hi
theorem mn_or64 (x y : Int64) (i : Nat) : (x ||| y).toBitVec.getLsbD i = (x.toBitVec.getLsbD i || y.toBitVec.getLsbD i) := by
  show (x.toBitVec ||| y.toBitVec).getLsbD i = _
  rw [BitVec.getLsbD_or]
theorem mk_or_bit (x y i : Nat) : (x ||| 2 ^ y).testBit i = (x.testBit i || decide (i = y)) := by
  rw [Nat.testBit_or, Nat.testBit_two_pow]
  congr 1
  by_cases h : i = y
  · simp [h]
  · simp [h, Ne.symm h]
theorem mx_whisper {A : mk_A} {E : mk_E} {t a : Nat} {r : Nat → Nat} {h : mm_H} (hT : mk_T A) (hW : mk_W A r) (hX : mk_XT A E t h) (ha : mk_sa a) (hS : mk_XS A a r h) (hA : mk_XA A a r h) {p q k : Nat} (hp : p < A 263 0) (hq : q < A 263 0) (hpq : ¬ p = q) (hk : k < A 263 1) : mk_ok (f_St_whisper a t (Int32.ofNat p) (Int32.ofNat q) (Int32.ofNat k) h) (fun v => mk_ch (fun c => a ≤ c ∧ c ≤ a + 2) h v ∧ mk_XS A a (mk_tell A r p q k) v ∧ mk_XA A a (mk_tell A r p q k) v) := by
  have hP := hT.1.1
  have hS1 := hT.1.2.1
  obtain ⟨t1, t2, t3, t4, t5, t6, t7⟩ := hT.2.2.1 k hk
  obtain ⟨e1, e2, e3, e4, e5⟩ := hX.2.2.2.1 k hk
  have e8 := hX.2.1.2.2.2.2.2
  have f0 : mk_fa A < 1024 := mk_s2 hS1 (mk_set_lt _ _)
  have fb : (mk_fa A).testBit k = decide (A 269 k = 1) := by
    unfold mk_fa
    rw [mk_set_bit]
    simp [hk]
  have hts := hX.1
  have hat : t = 79 ∨ t = 96 := hX.1
  unfold mk_sa at ha
  obtain ⟨s0, s1, s2, s3, s4, s5, s6, s7⟩ := hS
  unfold f_St_whisper
  rw [if_pos ⟨s0, (mk_tt hX.1).1⟩]
  simp (disch := omega) only [mn_ix, Option.bind_some, mm_let, mn_shl, mn_mull, mn_add]
  have nt1 : ¬ t = a + 1 := by omega
  have nt6 : ¬ t + 6 = a + 1 := by omega
  simp only [mp_L1, mp_I1, nt1, nt6, false_and, if_false, e8]
  simp (disch := omega) only [mn_xbit, Option.bind_some, fb, mn_b1, decide_eq_true_eq, e1, mn_eq]
  have dA : ∀ {h : mm_H} {k : Nat} {v : Int64}, mk_ch (fun c => a ≤ c ∧ c ≤ a + 2) h (mm_pL h (a + 2) k v) := fun {h k v} => mk_ch.pL (D := fun c => a ≤ c ∧ c ≤ a + 2) ⟨by omega, by omega⟩
  have d1 : ∀ {h : mm_H} {k : Nat} {v : Int32}, mk_ch (fun c => a ≤ c ∧ c ≤ a + 2) h (mm_pI h (a + 1) k v) := fun {h k v} => mk_ch.pI (D := fun c => a ≤ c ∧ c ≤ a + 2) ⟨by omega, by omega⟩
  have d0 : ∀ {h : mm_H} {k : Nat} {v : Int32}, mk_ch (fun c => a ≤ c ∧ c ≤ a + 2) h (mm_pI h a k v) := fun {h k v} => mk_ch.pI (D := fun c => a ≤ c ∧ c ≤ a + 2) ⟨by omega, by omega⟩
  have tr : ∀ {h h1 h2 : mm_H}, mk_ch (fun c => a ≤ c ∧ c ≤ a + 2) h h1 → mk_ch (fun c => a ≤ c ∧ c ≤ a + 2) h1 h2 → mk_ch (fun c => a ≤ c ∧ c ≤ a + 2) h h2 := fun a b => a.tr b (fun _ q => q) (fun _ q => q)
  have tj : ∀ j, 77 ≤ j → mk_tell A r p q k j = r j := fun j hj => by
    unfold mk_tell
    rw [if_neg (by omega), if_neg (by omega), if_neg (by omega), if_neg (by omega)]
  have t70 : ∀ i, i < A 263 0 → mk_tell A r p q k (70 + i) = r (70 + i) := fun j hj => by
    unfold mk_tell
    rw [if_neg (by omega), if_neg (by omega), if_neg (by omega), if_neg (by omega)]
  have tk : ∀ i, i < A 263 1 → mk_tell A r p q k i = if i = k then r k ||| 2 ^ q else r i := fun j hj => by
    unfold mk_tell
    by_cases jk : j = k
    · rw [if_pos jk, if_pos jk]
    · rw [if_neg jk, if_neg jk, if_neg (by omega), if_neg (by omega), if_neg (by omega)]
  have t76 : mk_tell A r p q k 76 = if A 269 k = 1 ∧ A 270 k = q then r 76 ||| 2 ^ k else r 76 := by
    unfold mk_tell
    rw [if_neg (by omega), if_neg (by omega), if_neg (by omega), if_pos rfl]
  -- the memory without the met bit
  generalize hg : mm_pL (mm_pL (mm_pI h (a + 1) k (h.1 (a + 1) k ||| Int32.ofNat (2 ^ q))) (a + 2) p ((mm_pI h (a + 1) k (h.1 (a + 1) k ||| Int32.ofNat (2 ^ q))).2.1 (a + 2) p ||| (1 : Int64) <<< (Int32.toInt64 (Int32.ofNat (q * 10 + k)) &&& 63))) (a + 2) q ((mm_pL (mm_pI h (a + 1) k (h.1 (a + 1) k ||| Int32.ofNat (2 ^ q))) (a + 2) p ((mm_pI h (a + 1) k (h.1 (a + 1) k ||| Int32.ofNat (2 ^ q))).2.1 (a + 2) p ||| (1 : Int64) <<< (Int32.toInt64 (Int32.ofNat (q * 10 + k)) &&& 63))).2.1 (a + 2) q ||| (1 : Int64) <<< (Int32.toInt64 (Int32.ofNat (p * 10 + k)) &&& 63)) = g
  have gch : mk_ch (fun c => a ≤ c ∧ c ≤ a + 2) h g := by
    rw [← hg]
    exact tr (tr d1 dA) dA
  have g1 : ∀ c j, g.1 c j = if c = a + 1 ∧ j = k then h.1 (a + 1) k ||| Int32.ofNat (2 ^ q) else h.1 c j := by
    intro c j
    rw [← hg]
    rfl
  have g2 : ∀ p' q' k', p' < A 263 0 → q' < A 263 0 → k' < A 263 1 → (g.2.1 (a + 2) p').toBitVec.getLsbD (q' * 10 + k') = (mk_tell A r p q k (10 + 10 * p' + k')).testBit q' := by
    intro p' q' k' hp' hq' hk'
    have old := hA p' q' k' hp' hq' hk'
    have z : g.2.1 (a + 2) p' = if p' = q then h.2.1 (a + 2) q ||| (1 : Int64) <<< (Int32.toInt64 (Int32.ofNat (p * 10 + k)) &&& 63) else if p' = p then h.2.1 (a + 2) p ||| (1 : Int64) <<< (Int32.toInt64 (Int32.ofNat (q * 10 + k)) &&& 63) else h.2.1 (a + 2) p' := by
      rw [← hg]
      simp only [mp_L2, true_and, mp_I2, show ¬ q = p from fun e => hpq e.symm, if_false]
    rw [z]
    have tl : mk_tell A r p q k (10 + 10 * p' + k') = if p' = p ∧ k' = k then r (10 + 10 * p' + k') ||| 2 ^ q else if p' = q ∧ k' = k then r (10 + 10 * p' + k') ||| 2 ^ p else r (10 + 10 * p' + k') := by
      unfold mk_tell
      rw [if_neg (by omega)]
      by_cases c1 : p' = p ∧ k' = k
      · rw [if_pos c1, if_pos (by omega)]
      · rw [if_neg c1, if_neg (by omega)]
        by_cases c2 : p' = q ∧ k' = k
        · rw [if_pos c2, if_pos (by omega)]
        · rw [if_neg c2, if_neg (by omega), if_neg (by omega)]
    rw [tl]
    by_cases c1 : p' = q
    · subst c1
      rw [if_pos rfl, mn_or64, mn_shl64 (by omega) (by omega), old, if_neg (fun e => hpq e.1.symm)]
      by_cases c2 : k' = k
      · rw [if_pos ⟨rfl, c2⟩, mk_or_bit]
        congr 1
        exact decide_eq_decide.mpr (by omega)
      · rw [if_neg (fun e => c2 e.2), decide_eq_false (by omega), Bool.or_false]
    · rw [if_neg c1]
      by_cases c3 : p' = p
      · subst c3
        rw [if_pos rfl, mn_or64, mn_shl64 (by omega) (by omega), old]
        by_cases c2 : k' = k
        · rw [if_pos ⟨rfl, c2⟩, mk_or_bit]
          congr 1
          exact decide_eq_decide.mpr (by omega)
        · rw [if_neg (fun e => c2 e.2), if_neg (fun e => c2 e.2), decide_eq_false (by omega), Bool.or_false]
      · rw [if_neg c3, old, if_neg (fun e => c3 e.1), if_neg (fun e => c1 e.1)]
  have g3 : ∀ j, ¬ j = 5 → g.1 a j = h.1 a j := fun j _ => by rw [g1, if_neg (by omega)]
  have fin : ∀ v : mm_H, mk_ch (fun c => a ≤ c ∧ c ≤ a + 2) h v → (∀ c j, ¬ (c = a ∧ j = 5) → v.1 c j = g.1 c j) → v.2 = g.2 → v.1 a 5 = Int32.ofNat (mk_tell A r p q k 76) → mk_ch (fun c => a ≤ c ∧ c ≤ a + 2) h v ∧ mk_XS A a (mk_tell A r p q k) v ∧ mk_XA A a (mk_tell A r p q k) v := by
    intro v hv hv1 hv2 hv5
    refine ⟨hv, ⟨s0, fun i hi => ?_, fun i hi => ?_, hv5, ?_, ?_, ?_, ?_⟩, fun p' q' k' hp' hq' hk' => by rw [hv2]; exact g2 p' q' k' hp' hq' hk'⟩
    · rw [hv1 _ _ (by omega), g1, tk i hi]
      by_cases ik : i = k
      · rw [if_pos ⟨rfl, ik⟩, if_pos ik, s1 k hk, mn_or]
      · rw [if_neg (fun e => ik e.2), if_neg ik, s1 i hi]
    · rw [hv1 _ _ (by omega), hv1 _ _ (by omega), g1, g1, if_neg (by omega), if_neg (by omega), t70 i hi, tj (79 + i) (by omega)]
      exact s2 i hi
    · rw [hv1 _ _ (by omega), g3 6 (by omega), tj 77 (by omega)]; exact s4
    · rw [hv1 _ _ (by omega), g3 7 (by omega), tj 78 (by omega)]; exact s5
    · rw [hv1 _ _ (by omega), g3 8 (by omega), tj 122 (by omega)]; exact s6
    · rw [hv1 _ _ (by omega), g3 9 (by omega), tj 85 (by omega)]; exact s7
  have ga5 : g.1 a 5 = Int32.ofNat (r 76) := by rw [g1, if_neg (by omega)]; exact s3
  by_cases c1 : A 269 k = 1
  · rw [if_pos c1]
    by_cases c2 : A 270 k = q
    · rw [if_pos c2]
      refine mk_ok.ret (fin _ (tr gch d0) (fun c j hcj => by rw [mp_I1, if_neg hcj]) rfl ?_)
      rw [mp_I1, if_pos ⟨rfl, rfl⟩, if_neg (show ¬ (a = a + 1 ∧ 5 = k) by omega), s3, t76, if_pos ⟨c1, c2⟩, mn_or]
    · rw [if_neg c2]
      refine mk_ok.ret (fin _ gch (fun _ _ _ => rfl) rfl ?_)
      rw [t76, if_neg (fun z => c2 z.2)]
      exact ga5
  · rw [if_neg c1]
    refine mk_ok.ret (fin _ gch (fun _ _ _ => rfl) rfl ?_)
    rw [t76, if_neg (fun z => c1 z.1)]
    exact ga5
