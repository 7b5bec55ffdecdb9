/-! payers, the reference's side -/
noncomputable def mk_cb (C : Nat → Nat → Bool) (g s : Nat) : Nat := @ite _ (mk_can C g s) (Classical.propDecidable _) 1 0
theorem mk_cb_le {C : Nat → Nat → Bool} {g s : Nat} : mk_cb C g s ≤ 1 := by unfold mk_cb; split <;> omega
theorem mn_and1 {x : Nat} (h : x ≤ 1) : Int32.ofNat x &&& 1 = Int32.ofNat x := by
  have : x = 0 ∨ x = 1 := by omega
  rcases this with rfl | rfl <;> rfl
theorem mi_payTogether {C : Nat → Nat → Bool} {h : mm_H} {S P o g s : Nat} (hS : S ≤ 10) (hP : P ≤ 6) (hC : ∀ p b, C p b = true → 0 < b) (h307 : ∀ p b, p < P → b < 2 ^ S → h.1 307 (1024 * p + b) = Int32.ofNat (C p b).toNat) (h306 : ∀ g', g' < g → mk_sub g' o → ∀ b, b < 2 ^ S → h.1 306 (1024 * g' + b) = Int32.ofNat (mk_cb C g' b)) (hg0 : 0 < g) (hg : g < 2 ^ P) (hgo : mk_sub g o) (hs : s < 2 ^ S) : f_M_payTogether (Int32.ofNat g) (Int32.ofNat s) h = some (Int32.ofNat (mk_cb C g s)) := by
  have h1k := mk_pow10 hS
  have h64 := mk_pow6 hP
  have g0 : ∀ x : Nat, x < 2147483648 → (Int32.ofNat x).toInt.toNat = x := fun x hx => by rw [Int32.toInt_ofNat_of_lt (by omega)]; rfl
  unfold f_M_payTogether
  have L1 : ∃ v, mm_while (σ := Int32) (ρ := Int32) (fun s1 => if ((Int32.ofNat g >>> (s1 &&& 31)) &&& 1) = 0 then (mm_let (s1 + 1) fun y7 => some (Sum.inl y7)) else (some (Sum.inr s1))) 0 = some v ∧ ∃ p, v = Int32.ofNat p ∧ g.testBit p = true ∧ p < P := by
    refine mp_loop (fun s : Int32 => ∃ j, s = Int32.ofNat j ∧ j ≤ P ∧ ∀ i, i < j → g.testBit i = false) (fun s => 10 - s.toInt.toNat) _ (fun y hy => ?_) _ ⟨0, rfl, by omega, fun i hi => absurd hi (by omega)⟩
    obtain ⟨j, rfl, hj, hb⟩ := hy
    have jP : j < P := by
      by_cases e : j < P
      · exact e
      · have : g = 0 := by
          refine Nat.eq_of_testBit_eq (fun i => ?_)
          rw [Nat.zero_testBit]
          by_cases c : i < j
          · exact hb i c
          · exact Nat.testBit_lt_two_pow (Nat.lt_of_lt_of_le hg (Nat.pow_le_pow_right (by omega) (by omega)))
        omega
    rw [mn_bit (by omega) (by omega)]
    cases c : g.testBit j
    · left
      rw [if_pos (by decide)]
      refine ⟨Int32.ofNat (j + 1), by show some (Sum.inl (Int32.ofNat j + 1)) = _; rw [mn_addl 1], ⟨j + 1, rfl, by omega, fun i hi => ?_⟩, ?_⟩
      · by_cases e : i = j
        · rw [e]; exact c
        · exact hb i (by omega)
      · rw [g0 _ (by omega), g0 _ (by omega)]; omega
    · right
      rw [if_neg (by decide)]
      exact ⟨_, rfl, j, rfl, c, jP⟩
  obtain ⟨v, ev, p, rfl, hp, hpP⟩ := L1
  rw [mk_bs ev, mn_shl (show p < 32 by omega), mn_dif]
  have dl := mk_one_lt hp
  have do' : mk_sub (mk_dif g (2 ^ p)) o := fun i hi => hgo i (mk_dif_sub i hi)
  have L2 : ∃ v, mm_while (σ := Int32) (ρ := Int32) (fun s12 => if s12 ≤ 0 then (some (Sum.inr 0)) else ((mm_ix ((1024 * Int32.ofNat p) + s12) 6144).bind fun k15 => mm_jp (fun (j17 : Unit) => (mm_let ((s12 - 1) &&& Int32.ofNat s) fun y20 => some (Sum.inl y20))) fun k19 => if (h.1 307 k15) = 0 then (k19 ()) else ((mm_ix ((1024 * Int32.ofNat (mk_dif g (2 ^ p))) + (Int32.ofNat s &&& (s12 ^^^ (-1)))) 65536).bind fun k22 => if (h.1 306 k22) = 0 then (k19 ()) else (some (Sum.inr 1))))) (Int32.ofNat s) = some v ∧ v = Int32.ofNat (mk_cb C g s) := by
    refine mp_loop (fun y : Int32 => ∃ b, y = Int32.ofNat b ∧ mk_sub b s ∧ ∀ x, b < x → mk_sub x s → C p x = true → ¬ mk_can C (mk_dif g (2 ^ p)) (mk_dif s x)) (fun y => y.toInt.toNat) _ (fun y hy => ?_) _ ⟨s, rfl, fun _ q => q, fun x hx hs => absurd (mk_sub_le hs) (by omega)⟩
    obtain ⟨b, rfl, f1, f2⟩ := hy
    have bl := mk_sub_le f1
    by_cases z : b = 0
    · right
      rw [if_pos ((mn_lel (b := 0) (show b < 2147483648 by omega) (by decide)).mpr (show b ≤ 0 by omega))]
      refine ⟨_, rfl, ?_⟩
      unfold mk_cb
      rw [if_neg (fun q => by
        obtain ⟨x, x1, x2, x3⟩ := (mk_can_ex hp).mp q
        have := hC p x x2
        exact f2 x (by omega) x1 x2 x3)]
      rfl
    · have nxt : (Int32.ofNat b - 1) &&& Int32.ofNat s = Int32.ofNat ((b - 1) &&& s) := by rw [mn_on1 z, mn_and]
      have nle : (b - 1) &&& s ≤ b - 1 := Nat.and_le_left
      have nsub : mk_sub ((b - 1) &&& s) s := mk_sub_and.mpr (by rw [Nat.and_assoc, Nat.and_self])
      have sp : ∀ x, (b - 1) &&& s < x → mk_sub x s → b < x ∨ x = b := fun x hx hs => by
        rcases Nat.lt_trichotomy x b with q | q | q
        · have := mk_nx b b s x (Nat.le_refl _) (mk_sub_and.mp f1) (mk_sub_and.mp hs) q
          omega
        · exact Or.inr q
        · exact Or.inl q
      have dd := mk_dif_lt (mk_sub_and.mp f1) (show 0 < b by omega)
      have go : (C p b = true → ¬ mk_can C (mk_dif g (2 ^ p)) (mk_dif s b)) → ∃ s', mm_let ((Int32.ofNat b - 1) &&& Int32.ofNat s) (fun y20 => some (Sum.inl y20 : Int32 ⊕ Int32)) = some (Sum.inl s') ∧ (∃ b, s' = Int32.ofNat b ∧ mk_sub b s ∧ ∀ x, b < x → mk_sub x s → C p x = true → ¬ mk_can C (mk_dif g (2 ^ p)) (mk_dif s x)) ∧ s'.toInt.toNat < (Int32.ofNat b).toInt.toNat := fun q => by
        refine ⟨Int32.ofNat ((b - 1) &&& s), by rw [nxt]; rfl, ⟨_, rfl, nsub, fun x h1 h2 h3 => ?_⟩, ?_⟩
        · rcases sp x h1 h2 with k | k
          · exact f2 x k h2 h3
          · subst k; exact q h3
        · rw [g0 _ (by omega), g0 _ (by omega)]; omega
      rw [if_neg (fun y => absurd ((mn_lel (b := 0) (show b < 2147483648 by omega) (by decide)).mp y) (show ¬ b ≤ 0 by omega)), mn_lmul 1024, mn_add, mk_bs (mn_ix (show 1024 * p + b < 6144 by omega) (by omega))]
      simp only [mm_jp]
      rw [h307 p b hpP (by omega), mn_dif, mn_lmul 1024, mn_add]
      cases c : C p b
      · left
        rw [if_pos (by decide)]
        exact go (fun q => by rw [c] at q; exact absurd q (by decide))
      · rw [if_neg (by decide), mk_bs (mn_ix (show 1024 * mk_dif g (2 ^ p) + mk_dif s b < 65536 by omega) (by omega)), h306 _ dl do' _ (by omega)]
        by_cases k : mk_can C (mk_dif g (2 ^ p)) (mk_dif s b)
        · right
          have e1 : mk_cb C (mk_dif g (2 ^ p)) (mk_dif s b) = 1 := if_pos k
          have e2 : mk_cb C g s = 1 := if_pos ((mk_can_ex hp).mpr ⟨b, f1, c, k⟩)
          rw [e1, e2, if_neg (by decide)]
          exact ⟨_, rfl, rfl⟩
        · left
          have e1 : mk_cb C (mk_dif g (2 ^ p)) (mk_dif s b) = 0 := if_neg k
          rw [e1, if_pos (by decide)]
          exact go (fun _ => k)
  obtain ⟨v, e, q⟩ := L2
  rw [e, q]
def mk_DP (c : Nat) : Prop := c = 306 ∨ c = 307 ∨ (281 ≤ c ∧ c ≤ 292)
theorem mi_payers {A : mk_A} {E : mk_E} {r : Nat → Nat} {h1 : mm_H} (hT : mk_T A) (hW : mk_W A r) (hM : mk_MT A E h1) (hR : mk_MR r h1) :
    mk_ok ((mm_while (σ := (Int32 × Int32 × mm_H)) (ρ := (Int32 × mm_H)) (fun s3 => if (s3.2.2.1 263 0) ≤ s3.2.1 then (some (Sum.inr (s3.1, s3.2.2))) else ((mm_ix s3.2.1 12).bind fun k9 => (if (s3.2.2.1 268 k9) ≤ 0 then (some 0) else (if (((s3.2.2.1 301 78) >>> (s3.2.1 &&& 31)) &&& 1) = 0 then (some ((1 : Int32) <<< (s3.2.1 &&& 31))) else (some 0)) : Option Int32).bind fun j11 => mm_let (s3.1 ||| j11) fun y19 => (mm_while (σ := (Int32 × mm_H)) (ρ := mm_H) (fun s21 => (f_M_allSecrets s21.2).bind fun v28 => if v28 < s21.1 then (some (Sum.inr s21.2)) else ((f_M_canPay s3.2.1 s21.1 s21.2).bind fun v30 => (mm_ix ((1024 * s3.2.1) + s21.1) 6144).bind fun k31 => mm_let (mm_pI v30.2 307 k31 (v30.1 &&& 1)) fun h33 => mm_let (s21.1 + 1) fun y35 => some (Sum.inl (y35, h33)))) (0, s3.2.2)).bind fun v24 => mm_let (s3.2.1 + 1) fun y40 => some (Sum.inl (y19, y40, v24)))) (0, 0, h1))) (fun w => w.1 = Int32.ofNat (mk_owes A r) ∧ mk_ch mk_DP h1 w.2 ∧ ∀ p b, p < A 263 0 → b < 2 ^ A 263 1 → w.2.1 307 (1024 * p + b) = Int32.ofNat (mk_cp A E r p b).toNat) := by
  have hP := hT.1.1
  have hS1 := hT.1.2.1
  have h1k := mk_pow10 hS1
  have hpos : 0 < 2 ^ A 263 1 := Nat.two_pow_pos _
  have b78 := mk_p2 hP hW.2.2.2.2.1
  have DP : ∀ c, mk_DP c → c = 306 ∨ c = 307 ∨ (281 ≤ c ∧ c ≤ 292) := fun c z => z
  have mM : ∀ {v}, mk_ch mk_DP h1 v → mk_MT A E v ∧ mk_MR r v := fun k => ⟨hM.ch k (fun c z => by have := DP c z; omega), hR.ch k (fun z => by have := DP _ z; omega)⟩
  refine mk_ok.for (ρ := Int32 × mm_H) (A 263 0) (fun i (s : Int32 × Int32 × mm_H) => s.2.1 = Int32.ofNat i ∧ s.1 = Int32.ofNat (mk_set (mk_ow A r) i) ∧ mk_ch mk_DP h1 s.2.2 ∧ ∀ p b, p < i → b < 2 ^ A 263 1 → s.2.2.1 307 (1024 * p + b) = Int32.ofNat (mk_cp A E r p b).toNat) ⟨rfl, rfl, mk_ch.rf, fun p b hp => absurd hp (by omega)⟩ (fun i s hi ⟨e1, e2, q1, q2⟩ => ?_) (fun s ⟨e1, e2, q1, q2⟩ => ?_)
  · obtain ⟨M', R'⟩ := mM q1
    have t9 := (hT.2.1 i hi).2.2
    have en : mk_set (mk_ow A r) (i + 1) = mk_set (mk_ow A r) i ||| ((mk_ow A r i).toNat <<< i) := rfl
    rw [M'.1 0 (by omega), e1, e2, if_neg (fun z => absurd ((mn_le (by omega) (by omega)).mp z) (show ¬ A 263 0 ≤ i by omega)), mk_bs (mn_ix (show i < 12 by omega) (by omega)), (M'.2.1 i (by omega)).2.2, R' 78 (by omega), mn_bit (by omega) (by omega), en, mn_setp _ (by omega)]
    refine mk_ok.bs (v := if mk_ow A r i = true then (1 : Int32) <<< (Int32.ofNat i &&& 31) else 0) ?_ ?_
    · unfold mk_ow
      by_cases c1 : A 268 i = 0
      · rw [if_pos ((mn_lel (b := 0) (show A 268 i < 2147483648 by omega) (by decide)).mpr (show A 268 i ≤ 0 by omega)), decide_eq_false (show ¬ 0 < A 268 i by omega), Bool.false_and, if_neg (by decide)]
      · rw [if_neg (fun z => absurd ((mn_lel (b := 0) (show A 268 i < 2147483648 by omega) (by decide)).mp z) (show ¬ A 268 i ≤ 0 by omega)), decide_eq_true (show 0 < A 268 i by omega), Bool.true_and]
        cases (r 78).testBit i
        · rw [if_pos (by decide), if_pos (by decide)]
        · rw [if_neg (by decide), if_neg (by decide)]
    refine mk_ok.let ?_
    refine mk_ok.bind (Q := fun v : mm_H => mk_ch mk_DP h1 v ∧ ∀ p b, p < i + 1 → b < 2 ^ A 263 1 → v.1 307 (1024 * p + b) = Int32.ofNat (mk_cp A E r p b).toNat) ?_ (fun v24 ⟨g1, g2⟩ => ?_)
    · refine mk_ok.for (ρ := mm_H) (2 ^ A 263 1) (fun j (y : Int32 × mm_H) => y.1 = Int32.ofNat j ∧ mk_ch mk_DP h1 y.2 ∧ ∀ p b, (p < i ∧ b < 2 ^ A 263 1) ∨ (p = i ∧ b < j) → y.2.1 307 (1024 * p + b) = Int32.ofNat (mk_cp A E r p b).toNat) ⟨rfl, q1, fun p b hb => q2 p b (by omega) (by omega)⟩ (fun j y hj ⟨f1, f2, f3⟩ => ?_) (fun y ⟨f1, f2, f3⟩ => ?_)
      · obtain ⟨M2, R2⟩ := mM f2
        refine mk_ok.bs (mi_allSecrets hT M2) ?_
        rw [f1, if_neg (fun z => absurd ((mn_lt (by omega) (by omega)).mp z) (show ¬ 2 ^ A 263 1 - 1 < j by omega))]
        refine mk_ok.bind (mi_canPay hT hW M2 R2 hi (show j < 2147483648 by omega)) (fun v30 ⟨c1, c2⟩ => ?_)
        rw [mn_lmul 1024, mn_add, mk_bs (mn_ix (show 1024 * i + j < 6144 by omega) (by omega)), c1, mn_and1 (by have := mn_bi (mk_cp A E r i j); omega)]
        refine mk_ok.let ?_
        refine mk_ok.let ?_
        rw [mn_addl 1]
        have c2' : mk_ch (fun c => 281 ≤ c ∧ c ≤ 292) y.2 v30.2 := c2
        refine mk_ok.inl ⟨rfl, (f2.tr c2' (fun _ z => z) (fun c z => by unfold mk_DP; omega)).tr (mk_ch.pI (D := mk_DP) (by unfold mk_DP; omega)) (fun _ z => z) (fun _ z => z), fun p b hb => ?_⟩
        have bb : b < 1024 := by omega
        rw [mp_I1]
        by_cases e : p = i ∧ b = j
        · rw [e.1, e.2, if_pos ⟨rfl, rfl⟩]
        · rw [if_neg (fun z => e (by omega)), c2'.e1 (by omega)]
          exact f3 p b (by omega)
      · refine mk_ok.bs (mi_allSecrets hT (mM f2).1) ?_
        rw [f1, if_pos ((mn_lt (by omega) (by omega)).mpr (show 2 ^ A 263 1 - 1 < 2 ^ A 263 1 by omega))]
        exact mk_ok.inr ⟨f2, fun p b hp hb => f3 p b (by omega)⟩
    · refine mk_ok.let ?_
      rw [mn_addl 1]
      refine mk_ok.inl ⟨rfl, ?_, g1, g2⟩
      cases mk_ow A r i
      · rw [if_neg (by decide), if_neg (by decide)]
        show Int32.ofNat _ ||| Int32.ofNat 0 = _
        rw [mn_or, Nat.or_zero]
      · rw [if_pos rfl, if_pos rfl]
  · rw [(mM q1).1.1 0 (by omega), e1, if_pos (Int32.le_refl _)]
    exact mk_ok.inr ⟨e2, q1, q2⟩
