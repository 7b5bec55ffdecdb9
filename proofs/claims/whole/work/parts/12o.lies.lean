/-! lies -/
def mk_gd (A : mk_A) (s k : Nat) : Bool := s.testBit k || decide (mk_dif (A 274 k) s = 0)
def mk_good (A : mk_A) (s : Nat) : Bool := mk_al (mk_gd A s) (A 263 1)
theorem mx_agrees {A : mk_A} {E : mk_E} {t : Nat} {h : mm_H} (hT : mk_T A) (hX : mk_XT A E t h) {s : Nat} (hs : s < 2147483648) : f_To_agrees t (Int32.ofNat s) h = some (if mk_good A s = true then 1 else 0) := by
  have hS1 := hT.1.2.1
  unfold f_To_agrees mk_good
  rw [if_pos (mk_tt hX.1).1]
  refine mk_chk (f := mk_gd A s) 1 0 (fun i hi => ?_) ?_
  · have hc := (hT.2.2.1 i hi).2.2.2.2.2.2
    have hb := mk_s2 hS1 hc
    rw [hX.2.1.2.1, if_neg (fun z => absurd ((mn_le (by omega) (by omega)).mp z) (show ¬ A 263 1 ≤ i by omega)), mk_bs (mn_xbit hs (show i < 31 by omega))]
    simp only [mm_jp]
    unfold mk_gd
    cases c : s.testBit i
    · rw [if_pos (by decide), mk_bs (mn_ix (show i < 10 by omega) (by omega)), (hX.2.2.2.1 i hi).2.2.2.2, mn_dif]
      have hd : mk_dif (A 274 i) s < 2 ^ A 263 1 := mk_dif_le hc
      have hd2 := mk_s2 hS1 hd
      have Z : (Int32.ofNat (mk_dif (A 274 i) s) = 0) ↔ mk_dif (A 274 i) s = 0 := mn_eql (b := 0) (show mk_dif (A 274 i) s < 4294967296 by omega) (by decide)
      by_cases z : mk_dif (A 274 i) s = 0
      · rw [if_pos (Z.mpr z), decide_eq_true z, Bool.or_true, if_pos rfl]
        show some (Sum.inl (Int32.ofNat i + 1)) = _
        rw [mn_addl 1]
      · rw [if_neg (fun y => z (Z.mp y)), decide_eq_false z, Bool.or_false, if_neg (by decide)]
    · rw [if_neg (by decide), Bool.true_or, if_pos rfl]
      show some (Sum.inl (Int32.ofNat i + 1)) = _
      rw [mn_addl 1]
  · rw [hX.2.1.2.1, if_pos (Int32.le_refl _)]
theorem mk_dif_all {c s S : Nat} (h : c < 2 ^ S) : c &&& mk_dif (2 ^ S - 1) s = mk_dif c s := by
  refine Nat.eq_of_testBit_eq (fun i => ?_)
  rw [Nat.testBit_and, mk_dif_bit, mk_dif_bit, Nat.testBit_two_pow_sub_one]
  by_cases hi : i < S
  · rw [decide_eq_true hi, Bool.true_and]
  · have : c.testBit i = false := Nat.testBit_lt_two_pow (Nat.lt_of_lt_of_le h (Nat.pow_le_pow_right (by omega) (by omega)))
    rw [this, Bool.false_and, Bool.false_and]
theorem mi_isClashing {A : mk_A} {E : mk_E} {h : mm_H} (hT : mk_T A) (hM : mk_MT A E h) {s : Nat} : f_M_isClashing (Int32.ofNat (mk_dif (2 ^ A 263 1 - 1) s)) h = some (if mk_good A s = true then 0 else 1) := by
  have hS1 := hT.1.2.1
  have da : mk_dif (2 ^ A 263 1 - 1) s < 2 ^ A 263 1 := mk_dif_le mk_all_lt
  have da2 := mk_s2 hS1 da
  unfold f_M_isClashing mk_good
  refine mk_chk (f := mk_gd A s) 0 1 (fun i hi => ?_) ?_
  · have hc := (hT.2.2.1 i hi).2.2.2.2.2.2
    have hb := mk_s2 hS1 hc
    rw [hM.1 1 (by omega), if_neg (fun z => absurd ((mn_le (by omega) (by omega)).mp z) (show ¬ A 263 1 ≤ i by omega)), mn_bit (by omega) (by omega)]
    simp only [mm_jp]
    unfold mk_gd
    have eb : (mk_dif (2 ^ A 263 1 - 1) s).testBit i = !s.testBit i := by
      rw [mk_dif_bit, Nat.testBit_two_pow_sub_one, decide_eq_true hi, Bool.true_and]
    rw [eb]
    cases c : s.testBit i
    · rw [if_pos (by decide), mk_bs (mn_ix (show i < 20 by omega) (by omega)), (hM.2.2.1 i (by omega)).2.2.2.2.2, mn_and, mk_dif_all hc]
      have hd : mk_dif (A 274 i) s < 2 ^ A 263 1 := mk_dif_le hc
      have hd2 := mk_s2 hS1 hd
      have Z : (Int32.ofNat (mk_dif (A 274 i) s) = 0) ↔ mk_dif (A 274 i) s = 0 := mn_eql (b := 0) (show mk_dif (A 274 i) s < 4294967296 by omega) (by decide)
      by_cases z : mk_dif (A 274 i) s = 0
      · rw [if_pos (Z.mpr z), decide_eq_true z, Bool.or_true, if_pos rfl]
        show some (Sum.inl (Int32.ofNat i + 1)) = _
        rw [mn_addl 1]
      · rw [if_neg (fun y => z (Z.mp y)), decide_eq_false z, Bool.or_false, if_neg (by decide)]
    · rw [if_neg (by decide), Bool.true_or, if_pos rfl]
      show some (Sum.inl (Int32.ofNat i + 1)) = _
      rw [mn_addl 1]
  · rw [hM.1 1 (by omega), if_pos (Int32.le_refl _)]
/-- the least number of lies that agree: the first such set (one more), how many, what all hold -/
def mk_li (A : mk_A) : Nat → Nat × Nat × Nat
  | 0 => (0, 0, 0)
  | n + 1 => if (mk_li A n).1 = 0 ∨ mk_pc n ≤ mk_pc ((mk_li A n).1 - 1) then (if mk_good A n = true then (if (mk_li A n).1 = 0 ∨ mk_pc n < mk_pc ((mk_li A n).1 - 1) then (n + 1, 1, n) else ((mk_li A n).1, (mk_li A n).2.1 + 1, (mk_li A n).2.2 &&& n)) else mk_li A n) else mk_li A n
theorem mk_li_le {A : mk_A} : ∀ n, (mk_li A n).1 ≤ n ∧ (mk_li A n).2.1 ≤ n
  | 0 => ⟨Nat.le_refl _, Nat.le_refl _⟩
  | n + 1 => by
    obtain ⟨a, b⟩ := mk_li_le (A := A) n
    unfold mk_li
    split
    · split
      · split
        · exact ⟨Nat.le_refl _, Nat.succ_le_succ (Nat.zero_le _)⟩
        · exact ⟨Nat.le_succ_of_le a, Nat.succ_le_succ b⟩
      · exact ⟨Nat.le_succ_of_le a, Nat.le_succ_of_le b⟩
    · exact ⟨Nat.le_succ_of_le a, Nat.le_succ_of_le b⟩
theorem mk_li_pos {A : mk_A} {n : Nat} (h : mk_good A n = true) : ¬ (mk_li A (n + 1)).1 = 0 := by
  intro z
  unfold mk_li at z
  by_cases c1 : (mk_li A n).1 = 0 ∨ mk_pc n ≤ mk_pc ((mk_li A n).1 - 1)
  · rw [if_pos c1, if_pos h] at z
    by_cases c2 : (mk_li A n).1 = 0 ∨ mk_pc n < mk_pc ((mk_li A n).1 - 1)
    · rw [if_pos c2] at z; exact absurd z (Nat.succ_ne_zero n)
    · rw [if_neg c2] at z; exact c2 (Or.inl z)
  · rw [if_neg c1] at z; exact c1 (Or.inl z)
theorem mk_good_all (A : mk_A) : mk_good A (2 ^ A 263 1 - 1) = true := mk_al_t _ (fun i hi => by
  unfold mk_gd
  rw [Nat.testBit_two_pow_sub_one, decide_eq_true hi, Bool.true_or])
theorem mk_li_eq (A : mk_A) (n : Nat) : mk_li A (n + 1) = if (mk_li A n).1 = 0 ∨ mk_pc n ≤ mk_pc ((mk_li A n).1 - 1) then (if mk_good A n = true then (if (mk_li A n).1 = 0 ∨ mk_pc n < mk_pc ((mk_li A n).1 - 1) then (n + 1, 1, n) else ((mk_li A n).1, (mk_li A n).2.1 + 1, (mk_li A n).2.2 &&& n)) else mk_li A n) else mk_li A n := rfl
def mk_lix (q : Nat × Nat × Nat) (v : mm_H) : Prop := v.1 78 0 = (if q.1 = 0 then 11 else Int32.ofNat (mk_pc (q.1 - 1))) ∧ (¬ q.1 = 0 → v.1 78 1 = Int32.ofNat (q.1 - 1) ∧ v.1 78 2 = Int32.ofNat q.2.1 ∧ v.1 78 3 = Int32.ofNat q.2.2)
theorem mx_findLies {A : mk_A} {E : mk_E} {t : Nat} {r : Nat → Nat} {u : mk_U} {h : mm_H} (hw : mk_wf A r u) (hX : mk_X A E t r u h) : mk_ok (f_X_findLies h) (fun v => mk_ch (fun c => c = 78) h v ∧ mk_lix (mk_li A (2 ^ A 263 1)) v) := by
  have hT := hw.1
  have hS1 := hT.1.2.1
  have h1k := mk_pow10 hS1
  have hXT := hX.2.1
  have ht := hXT.1
  unfold f_X_findLies
  refine mk_ok.let ?_
  have k1 : ∀ (g : mm_H) j v, mk_ch (fun c => c = 78) g (mm_pI g 78 j v) := fun g j v => mk_ch.pI (D := fun c => c = 78) rfl
  have tr : ∀ {g g1 g2 : mm_H}, mk_ch (fun c => c = 78) g g1 → mk_ch (fun c => c = 78) g1 g2 → mk_ch (fun c => c = 78) g g2 := fun a b => a.tr b (fun _ z => z) (fun _ z => z)
  refine mk_ok.bind (mk_ok.for (ρ := mm_H) (2 ^ A 263 1) (fun i (s : Int32 × mm_H) => s.1 = Int32.ofNat i ∧ mk_ch (fun c => c = 78) h s.2 ∧ mk_lix (mk_li A i) s.2) (Q := fun v : mm_H => mk_ch (fun c => c = 78) h v ∧ mk_lix (mk_li A (2 ^ A 263 1)) v) ⟨rfl, k1 _ _ _, ?_, fun z => absurd rfl z⟩ (fun i s hi ⟨e1, q1, q2⟩ => ?_) (fun s ⟨e1, q1, q2⟩ => ?_)) (fun v q => mk_ok.ret q)
  · show (mm_pI h 78 0 11).1 78 0 = (if 0 = 0 then 11 else Int32.ofNat (mk_pc (0 - 1)))
    rw [mp_I1, if_pos ⟨rfl, rfl⟩]
    rfl
  · have X' := hXT.ch q1 (fun c z => by omega)
    have gT := mx_gT (show s.2.2.2 32 14 = some t by rw [q1.2]; exact hX.1.1) ht
    refine mk_ok.bs gT ?_
    rw [X'.2.1.2.1, mn_pow hS1, e1, if_neg (fun z => absurd ((mn_le (by omega) (by omega)).mp z) (show ¬ 2 ^ A 263 1 ≤ i by omega))]
    refine mk_ok.bs (mn_bc (by omega)) ?_
    have LE := mk_li_le (A := A) i
    have p1 := mk_pc_le i
    have p2 := mk_pc_le ((mk_li A i).1 - 1)
    obtain ⟨a0, a1⟩ := q2
    refine mk_ok.bind (Q := fun v : mm_H => mk_ch (fun c => c = 78) h v ∧ mk_lix (mk_li A (i + 1)) v) ?_ (fun v q => ?_)
    · unfold mk_li
      have C1 : (s.2.1 78 0 < Int32.ofNat (mk_pc i)) ↔ ¬ ((mk_li A i).1 = 0 ∨ mk_pc i ≤ mk_pc ((mk_li A i).1 - 1)) := by
        rw [a0]
        by_cases z : (mk_li A i).1 = 0
        · rw [if_pos z]
          exact ⟨fun y => absurd ((mn_llt (b := 11) (show mk_pc i < 2147483648 by omega) (by decide)).mp y) (show ¬ 11 < mk_pc i by omega), fun y => absurd (Or.inl z) y⟩
        · rw [if_neg z, mn_lt (by omega) (by omega)]
          exact ⟨fun y x => by omega, fun y => by omega⟩
      by_cases c1 : (mk_li A i).1 = 0 ∨ mk_pc i ≤ mk_pc ((mk_li A i).1 - 1)
      · rw [if_neg (fun y => C1.mp y c1), if_pos c1]
        refine mk_ok.bs gT ?_
        refine mk_ok.bs (mx_agrees hT X' (by omega)) ?_
        cases c : mk_good A i
        · rw [if_pos (show (if false = true then (1 : Int32) else 0) = 0 by decide), if_neg (show ¬ false = true by decide)]
          exact mk_ok.ret ⟨q1, a0, a1⟩
        · rw [if_neg (show ¬ (if true = true then (1 : Int32) else 0) = 0 by decide), if_pos (show true = true from rfl)]
          have C2 : (s.2.1 78 0 ≤ Int32.ofNat (mk_pc i)) ↔ ¬ ((mk_li A i).1 = 0 ∨ mk_pc i < mk_pc ((mk_li A i).1 - 1)) := by
            rw [a0]
            by_cases z : (mk_li A i).1 = 0
            · rw [if_pos z]
              exact ⟨fun y => absurd ((mn_lle (b := 11) (show mk_pc i < 2147483648 by omega) (by decide)).mp y) (show ¬ 11 ≤ mk_pc i by omega), fun y => absurd (Or.inl z) y⟩
            · rw [if_neg z, mn_le (by omega) (by omega)]
              exact ⟨fun y x => by omega, fun y => by omega⟩
          by_cases c2 : (mk_li A i).1 = 0 ∨ mk_pc i < mk_pc ((mk_li A i).1 - 1)
          · rw [if_neg (fun y => C2.mp y c2), if_pos c2]
            refine mk_ok.bind (Q := fun v : mm_H => mk_ch (fun c => c = 78) h v ∧ v.1 78 0 = Int32.ofNat (mk_pc i) ∧ v.1 78 1 = Int32.ofNat i ∧ v.1 78 2 = 0 ∧ v.1 78 3 = Int32.ofNat i) ?_ (fun v ⟨b, b0, b1, b2, b3⟩ => ?_)
            · refine mk_ok.let (mk_ok.let (mk_ok.let (mk_ok.let (mk_ok.ret ⟨tr (tr (tr (tr q1 (k1 _ _ _)) (k1 _ _ _)) (k1 _ _ _)) (k1 _ _ _), ?_, ?_, ?_, ?_⟩)))) <;> simp only [mp_I1] <;> rfl
            · refine mk_ok.let (mk_ok.let (mk_ok.ret ⟨tr (tr b (k1 _ _ _)) (k1 _ _ _), ?_, fun _ => ⟨?_, ?_, ?_⟩⟩))
              · rw [mp_I1, if_neg (by omega), mp_I1, if_neg (by omega), b0]; rfl
              · rw [mp_I1, if_neg (by omega), mp_I1, if_neg (by omega), b1]; rfl
              · rw [mp_I1, if_neg (by omega), mp_I1, if_pos ⟨rfl, rfl⟩, b2]; rfl
              · rw [mp_I1, if_pos ⟨rfl, rfl⟩, mp_I1, if_neg (by omega), b3, mn_and, Nat.and_self]
          · have z : ¬ (mk_li A i).1 = 0 := fun z => c2 (Or.inl z)
            obtain ⟨b1, b2, b3⟩ := a1 z
            rw [if_pos (C2.mpr c2), if_neg c2]
            refine mk_ok.bs rfl ?_
            refine mk_ok.let (mk_ok.let (mk_ok.ret ⟨tr (tr q1 (k1 _ _ _)) (k1 _ _ _), ?_, fun _ => ⟨?_, ?_, ?_⟩⟩))
            · rw [mp_I1, if_neg (by omega), mp_I1, if_neg (by omega), a0]
            · rw [mp_I1, if_neg (by omega), mp_I1, if_neg (by omega), b1]
            · rw [mp_I1, if_neg (by omega), mp_I1, if_pos ⟨rfl, rfl⟩, b2, mn_addl 1]
            · rw [mp_I1, if_pos ⟨rfl, rfl⟩, mp_I1, if_neg (by omega), b3, mn_and]
      · rw [if_pos (C1.mpr c1), if_neg c1]
        exact mk_ok.ret ⟨q1, a0, a1⟩
    · refine mk_ok.let ?_
      rw [mn_addl 1]
      exact mk_ok.inl ⟨rfl, q⟩
  · have X' := hXT.ch q1 (fun c z => by omega)
    refine mk_ok.bs (mx_gT (by rw [q1.2]; exact hX.1.1) ht) ?_
    rw [X'.2.1.2.1, mn_pow hS1, e1, if_pos (Int32.le_refl _)]
    exact mk_ok.inr ⟨q1, q2⟩
theorem mi_allSecrets {A : mk_A} {E : mk_E} {h : mm_H} (hT : mk_T A) (hM : mk_MT A E h) : f_M_allSecrets h = some (Int32.ofNat (2 ^ A 263 1 - 1)) := by
  unfold f_M_allSecrets
  rw [hM.1 1 (by omega), mk_all hT.1.2.1]
theorem mi_lies {A : mk_A} {E : mk_E} {h : mm_H} (hT : mk_T A) (hM : mk_MT A E h) : mk_ok (mm_while (σ := (Int32 × Int32 × Int32 × Int32)) (ρ := (Int32 × Int32 × Int32)) (fun s5 => (f_M_allSecrets h).bind fun v12 => if v12 < s5.2.2.2 then (some (Sum.inr (s5.1, s5.2.1, s5.2.2.1))) else ((mm_jp (fun (j15 : Unit) => ((f_M_allSecrets h).bind fun v19 => (f_M_isClashing (v19 &&& (s5.2.2.2 ^^^ (-1))) h).bind fun v21 => if v21 = 0 then ((mm_jp (fun (j24 : Unit) => ((f_M_allSecrets h).bind fun v28 => some (s5.2.2.2, 0, v28))) fun k26 => if s5.1 < 0 then (k26 ()) else ((f_M_bits s5.2.2.2).bind fun v30 => (f_M_bits s5.1).bind fun v32 => if v32 ≤ v30 then (some (s5.1, s5.2.1, s5.2.2.1)) else (k26 ())) : Option (Int32 × Int32 × Int32)).bind fun j22 => mm_let (j22.2.1 + 1) fun y40 => mm_let (j22.2.2 &&& s5.2.2.2) fun y42 => some (j22.1, y40, y42)) else (some (s5.1, s5.2.1, s5.2.2.1)))) fun k17 => if s5.1 < 0 then (k17 ()) else ((f_M_bits s5.2.2.2).bind fun v49 => (f_M_bits s5.1).bind fun v51 => if v51 < v49 then (some (s5.1, s5.2.1, s5.2.2.1)) else (k17 ())) : Option (Int32 × Int32 × Int32)).bind fun j13 => mm_let (s5.2.2.2 + 1) fun y59 => some (Sum.inl (j13.1, j13.2.1, j13.2.2, y59)))) ((-1), 0, 0, 0)) (fun v => v.1 = Int32.ofNat (mk_li A (2 ^ A 263 1)).1 - 1 ∧ v.2.1 = Int32.ofNat (mk_li A (2 ^ A 263 1)).2.1 ∧ v.2.2 = Int32.ofNat (mk_li A (2 ^ A 263 1)).2.2) := by
  have hS1 := hT.1.2.1
  have h1k := mk_pow10 hS1
  have hpos : 0 < 2 ^ A 263 1 := Nat.pos_of_ne_zero (by intro z; have := Nat.pow_eq_zero.mp z; omega)
  refine mk_ok.for (2 ^ A 263 1) (fun i (s : Int32 × Int32 × Int32 × Int32) => s.2.2.2 = Int32.ofNat i ∧ s.1 = Int32.ofNat (mk_li A i).1 - 1 ∧ s.2.1 = Int32.ofNat (mk_li A i).2.1 ∧ s.2.2.1 = Int32.ofNat (mk_li A i).2.2) ⟨rfl, rfl, rfl, rfl⟩ (fun i s hi ⟨e1, a1, a2, a3⟩ => ?_) (fun s ⟨e1, q⟩ => ?_)
  · refine mk_ok.bs (mi_allSecrets hT hM) ?_
    rw [e1, if_neg (fun z => absurd ((mn_lt (by omega) (by omega)).mp z) (show ¬ 2 ^ A 263 1 - 1 < i by omega))]
    have LE := mk_li_le (A := A) i
    have p1 := mk_pc_le i
    have p2 := mk_pc_le ((mk_li A i).1 - 1)
    refine mk_ok.bind (Q := fun v : Int32 × Int32 × Int32 => v.1 = Int32.ofNat (mk_li A (i + 1)).1 - 1 ∧ v.2.1 = Int32.ofNat (mk_li A (i + 1)).2.1 ∧ v.2.2 = Int32.ofNat (mk_li A (i + 1)).2.2) ?_ (fun v ⟨b1, b2, b3⟩ => ?_)
    · simp only [mm_jp]
      rw [a1, a2, a3]
      have new : mk_ok (((f_M_allSecrets h).bind fun v28 => some (Int32.ofNat i, (0 : Int32), v28)).bind fun j22 => mm_let (j22.2.1 + 1) fun y40 => mm_let (j22.2.2 &&& Int32.ofNat i) fun y42 => some (j22.1, y40, y42)) (fun v : Int32 × Int32 × Int32 => v.1 = Int32.ofNat (i + 1) - 1 ∧ v.2.1 = Int32.ofNat 1 ∧ v.2.2 = Int32.ofNat i) := by
        rw [mi_allSecrets hT hM]
        refine mk_ok.bs rfl ?_
        refine mk_ok.let ?_
        refine mk_ok.let ?_
        have el : (2 ^ A 263 1 - 1) &&& i = i := by
          refine Nat.eq_of_testBit_eq (fun j => ?_)
          rw [Nat.testBit_and, Nat.testBit_two_pow_sub_one]
          by_cases hj : j < A 263 1
          · rw [decide_eq_true hj, Bool.true_and]
          · have : i.testBit j = false := Nat.testBit_lt_two_pow (Nat.lt_of_lt_of_le hi (Nat.pow_le_pow_right (by omega) (by omega)))
            rw [this, Bool.and_false]
        refine mk_ok.ret ⟨?_, rfl, ?_⟩
        · show Int32.ofNat i = Int32.ofNat (i + 1) - 1
          rw [mn_on1 (by omega)]; rfl
        · show Int32.ofNat (2 ^ A 263 1 - 1) &&& Int32.ofNat i = Int32.ofNat i
          rw [mn_and, el]
      have inner : (mk_li A i).1 = 0 ∨ mk_pc i ≤ mk_pc ((mk_li A i).1 - 1) → mk_ok ((f_M_allSecrets h).bind fun v19 => (f_M_isClashing (v19 &&& (Int32.ofNat i ^^^ (-1))) h).bind fun v21 => if v21 = 0 then ((if Int32.ofNat (mk_li A i).1 - 1 < 0 then ((f_M_allSecrets h).bind fun v28 => some (Int32.ofNat i, (0 : Int32), v28)) else ((f_M_bits (Int32.ofNat i)).bind fun v30 => (f_M_bits (Int32.ofNat (mk_li A i).1 - 1)).bind fun v32 => if v32 ≤ v30 then (some (Int32.ofNat (mk_li A i).1 - 1, Int32.ofNat (mk_li A i).2.1, Int32.ofNat (mk_li A i).2.2)) else ((f_M_allSecrets h).bind fun v28 => some (Int32.ofNat i, (0 : Int32), v28)))).bind fun j22 => mm_let (j22.2.1 + 1) fun y40 => mm_let (j22.2.2 &&& Int32.ofNat i) fun y42 => some (j22.1, y40, y42)) else (some (Int32.ofNat (mk_li A i).1 - 1, Int32.ofNat (mk_li A i).2.1, Int32.ofNat (mk_li A i).2.2))) (fun v : Int32 × Int32 × Int32 => v.1 = Int32.ofNat (mk_li A (i + 1)).1 - 1 ∧ v.2.1 = Int32.ofNat (mk_li A (i + 1)).2.1 ∧ v.2.2 = Int32.ofNat (mk_li A (i + 1)).2.2) := by
        intro c1
        refine mk_ok.bs (mi_allSecrets hT hM) ?_
        rw [mn_dif]
        refine mk_ok.bs (mi_isClashing hT hM) ?_
        rw [mk_li_eq]
        rw [if_pos c1]
        cases c : mk_good A i
        · rw [if_neg (show ¬ (if false = true then (0 : Int32) else 1) = 0 by decide), if_neg (show ¬ false = true by decide)]
          exact mk_ok.ret ⟨rfl, rfl, rfl⟩
        · rw [if_pos (show (if true = true then (0 : Int32) else 1) = 0 by decide), if_pos (show true = true from rfl)]
          by_cases z : (mk_li A i).1 = 0
          · rw [if_pos ((mn_neg (by omega)).mpr z), if_pos (Or.inl z)]
            exact new
          · rw [if_neg (fun y => z ((mn_neg (by omega)).mp y)), mn_on1 z, mk_bs (mn_mbits (show i < 2147483648 by omega)), mk_bs (mn_mbits (show (mk_li A i).1 - 1 < 2147483648 by omega))]
            by_cases y : mk_pc i < mk_pc ((mk_li A i).1 - 1)
            · rw [if_neg (fun x => absurd ((mn_le (by omega) (by omega)).mp x) (by omega)), if_pos (Or.inr y)]
              exact new
            · rw [if_pos ((mn_le (by omega) (by omega)).mpr (by omega)), if_neg (fun x => x.elim z y)]
              refine mk_ok.bs rfl ?_
              refine mk_ok.let (mk_ok.let (mk_ok.ret ⟨?_, ?_, ?_⟩))
              · exact (mn_on1 z).symm
              · exact mn_addl 1 _
              · exact mn_and _ _
      by_cases z : (mk_li A i).1 = 0
      · rw [if_pos ((mn_neg (by omega)).mpr z)]
        exact inner (Or.inl z)
      · rw [if_neg (fun y => z ((mn_neg (by omega)).mp y))]
        have ob : f_M_bits (Int32.ofNat (mk_li A i).1 - 1) = some (Int32.ofNat (mk_pc ((mk_li A i).1 - 1))) := by rw [mn_on1 z]; exact mn_mbits (by omega)
        refine mk_ok.bs (mn_mbits (by omega)) ?_
        refine mk_ok.bs ob ?_
        by_cases y : mk_pc i ≤ mk_pc ((mk_li A i).1 - 1)
        · rw [if_neg (fun x => absurd ((mn_lt (by omega) (by omega)).mp x) (by omega))]
          exact inner (Or.inr y)
        · rw [if_pos ((mn_lt (by omega) (by omega)).mpr (by omega))]
          rw [mk_li_eq]
          rw [if_neg (fun x => x.elim z y)]
          exact mk_ok.ret ⟨rfl, rfl, rfl⟩
    · refine mk_ok.let ?_
      rw [mn_addl 1]
      exact mk_ok.inl ⟨rfl, b1, b2, b3⟩
  · refine mk_ok.bs (mi_allSecrets hT hM) ?_
    rw [e1, if_pos ((mn_lt (by omega) (by omega)).mpr (show 2 ^ A 263 1 - 1 < 2 ^ A 263 1 by omega))]
    exact mk_ok.inr q
theorem mc_lies (x1 : Int32) : mk_call (f_X_lies x1) (f_M_lies x1) := by
  refine mk_callof (fun A E t r u hw => ?_)
  have hT := hw.1
  have hS1 := hT.1.2.1
  have h1k := mk_pow10 hS1
  have hpos : 0 < 2 ^ A 263 1 := Nat.pos_of_ne_zero (by intro z; have := Nat.pow_eq_zero.mp z; omega)
  have pos : ¬ (mk_li A (2 ^ A 263 1)).1 = 0 := by
    have := mk_li_pos (mk_good_all A)
    rwa [show 2 ^ A 263 1 - 1 + 1 = 2 ^ A 263 1 by omega] at this
  have LF := mk_li_le (A := A) (2 ^ A 263 1)
  by_cases hr : 0 ≤ x1 ∧ x1 ≤ 3
  · obtain ⟨x, hx, rfl⟩ := mk_upto (n := 3) (by omega) hr
    refine ⟨if x = 0 then Int32.ofNat (mk_pc ((mk_li A (2 ^ A 263 1)).1 - 1)) else if x = 1 then Int32.ofNat ((mk_li A (2 ^ A 263 1)).1 - 1) else if x = 2 then Int32.ofNat (mk_li A (2 ^ A 263 1)).2.1 else Int32.ofNat (mk_li A (2 ^ A 263 1)).2.2, r, u, t, hw, fun h hX => ?_, fun h hM => ?_⟩
    · unfold f_X_lies
      rw [if_neg (Int32.not_lt.mpr hr.1), if_pos hr.2]
      refine mk_ok.bind (mx_findLies hw hX) (fun v2 ⟨k, a0, a1⟩ => ?_)
      obtain ⟨b1, b2, b3⟩ := a1 pos
      rw [if_neg pos] at a0
      have X2 : mk_X A E t r u v2 := hX.ch hw k (fun c z => by unfold mk_sx; omega)
      have f2 : mk_fM h v2 := mk_fM.of k (fun c z => by omega)
      refine mk_ok.bs (mn_ix (show x < 4 by omega) (by omega)) ?_
      refine mk_ok.ret ⟨?_, X2, f2⟩
      have hx' : x = 0 ∨ x = 1 ∨ x = 2 ∨ x = 3 := by omega
      rcases hx' with rfl | rfl | rfl | rfl
      · exact a0
      · exact b1
      · exact b2
      · exact b3
    · unfold f_M_lies
      refine mk_ok.let ?_
      have p0 : mk_s2m h (mm_pI h 261 0 0) := mk_s2m.pI ⟨by decide, by decide⟩
      have hM1 := hM.s2 p0
      revert p0 hM1
      generalize mm_pI h 261 0 0 = h1
      intro p0 hM1
      refine mk_ok.bs (mp_within _ _ _) ?_
      rw [if_pos hr, if_neg (show ¬ (1 : Int32) = 0 by decide)]
      refine mk_ok.bind (mi_lies hT hM1.1) (fun v8 ⟨a1, a2, a3⟩ => ?_)
      rw [mn_on1 pos] at a1
      have hx' : x = 0 ∨ x = 1 ∨ x = 2 ∨ x = 3 := by omega
      rcases hx' with rfl | rfl | rfl | rfl
      · rw [if_pos (show Int32.ofNat 0 = 0 by decide), a1]
        refine mk_ok.bs (mn_mbits (by omega)) ?_
        exact mk_ok.ret ⟨rfl, hM1, mk_fX.s2 p0⟩
      · rw [if_neg (show ¬ Int32.ofNat 1 = 0 by decide), if_pos (show Int32.ofNat 1 = 1 by decide)]
        exact mk_ok.ret ⟨a1, hM1, mk_fX.s2 p0⟩
      · rw [if_neg (show ¬ Int32.ofNat 2 = 0 by decide), if_neg (show ¬ Int32.ofNat 2 = 1 by decide), if_pos (show Int32.ofNat 2 = 2 by decide)]
        exact mk_ok.ret ⟨a2, hM1, mk_fX.s2 p0⟩
      · rw [if_neg (show ¬ Int32.ofNat 3 = 0 by decide), if_neg (show ¬ Int32.ofNat 3 = 1 by decide), if_neg (show ¬ Int32.ofNat 3 = 2 by decide)]
        exact mk_ok.ret ⟨a3, hM1, mk_fX.s2 p0⟩
  · refine ⟨-1, r, u, t, hw, fun h hX => ?_, fun h hM => ?_⟩
    · unfold f_X_lies
      by_cases h0 : x1 < 0
      · rw [if_pos h0]
        exact mk_ok.ret ⟨rfl, hX, mk_fM.rf⟩
      · rw [if_neg h0, if_neg (fun z => hr ⟨Int32.not_lt.mp h0, z⟩)]
        exact mk_ok.ret ⟨rfl, hX, mk_fM.rf⟩
    · unfold f_M_lies
      refine mk_ok.let ?_
      have p0 : mk_s2m h (mm_pI h 261 0 0) := mk_s2m.pI ⟨by decide, by decide⟩
      refine mk_ok.bs (mp_within _ _ _) ?_
      rw [if_neg hr, if_pos (by decide)]
      exact mk_ok.ret ⟨rfl, hM.s2 p0, mk_fX.s2 p0⟩
