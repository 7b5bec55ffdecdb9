/-! payers: the greatest group, the class's side -/
theorem mk_ow_bit {A : mk_A} {r : Nat → Nat} {i : Nat} (hi : i < A 263 0) : (mk_owes A r).testBit i = mk_ow A r i := by
  unfold mk_owes
  rw [mk_set_bit, decide_eq_true hi, Bool.true_and]
def mk_PG (A : mk_A) (E : mk_E) (r : Nat → Nat) (g : Nat) : Prop := mk_gr (mk_cp A E r) (mk_owes A r) (A 263 0) g (2 ^ A 263 1 - 1)
theorem mx_most {A : mk_A} {E : mk_E} {t : Nat} {r : Nat → Nat} {h : mm_H} (hT : mk_T A) (hW : mk_W A r) (hX : mk_XT A E t h) (hS : mk_XS A 35 r h) (h65 : ∀ s, s < 2 ^ A 263 1 → h.1 65 s = Int32.ofNat (mk_ws A E r s)) : mk_ok (f_Co_mostAtOnce t 35 h) (fun v => v.1 = Int32.ofNat (mk_gst (mk_PG A E r) 64) ∧ mk_ch (fun c => c = 66) h v.2) := by
  have hP := hT.1.1
  have hS1 := hT.1.2.1
  have h1k := mk_pow10 hS1
  have hpos : 0 < 2 ^ A 263 1 := Nat.two_pow_pos _
  have ht := hX.1
  have b78 := mk_p2 hP hW.2.2.2.2.1
  unfold f_Co_mostAtOnce
  rw [if_pos ⟨(mk_tt ht).1, mk_ftags.2.2.2.2.2.2.1⟩]
  have eall : f_To_allSecrets t h = some (Int32.ofNat (2 ^ A 263 1 - 1)) := by
    unfold f_To_allSecrets
    rw [if_pos (mk_tt ht).1, hX.2.1.2.1, mk_all hS1]
  refine mk_ok.bs eall ?_
  refine mk_ok.bind (mx_fillL (n := 1024) ⟨mk_t66.1, mk_t66.2⟩ (by omega)) (fun v4 ⟨f1, f2, f3⟩ => ?_)
  have k4 : mk_ch (fun c => c = 66) h v4 := ⟨fun c hc => ⟨by rw [f1], funext fun j => by rw [f3, if_neg (fun z => hc z.1)]⟩, f2⟩
  have start : ∀ s, s < 2 ^ A 263 1 → mk_B v4 s (fun g => mk_gr (mk_cp A E r) (mk_owes A r) 0 g s) := fun s hs g hg => by
    rw [f3, if_pos ⟨rfl, by omega⟩]
    dsimp only
    rw [mk_gr_0]
    have : (1 : Int64).toBitVec.getLsbD g = decide (g = 0) := by
      show (1#64).getLsbD g = _
      rw [BitVec.getLsbD_ofNat, mn_t1]
      simp [hg]
    rw [this, decide_eq_true_eq]
  refine mk_ok.bind (mk_ok.for (ρ := mm_H) (A 263 0) (fun i (s : Int32 × mm_H) => s.1 = Int32.ofNat i ∧ mk_ch (fun c => c = 66) h s.2 ∧ s.2.1 = h.1 ∧ ∀ x, x < 2 ^ A 263 1 → mk_B s.2 x (fun g => mk_gr (mk_cp A E r) (mk_owes A r) i g x)) (Q := fun v : mm_H => mk_ch (fun c => c = 66) h v ∧ ∀ x, x < 2 ^ A 263 1 → mk_B v x (fun g => mk_gr (mk_cp A E r) (mk_owes A r) (A 263 0) g x)) ⟨rfl, k4, f1, start⟩ (fun i s hi ⟨e1, q1, q2, q3⟩ => ?_) (fun s ⟨e1, q1, q2, q3⟩ => ?_)) (fun v8 ⟨b1, b2⟩ => ?_)
  · have X' := hX.ch q1 (fun c z => by omega)
    have S' := hS.ch q1 (fun c z => by omega)
    rw [X'.2.1.1, e1, if_neg (fun z => absurd ((mn_le (by omega) (by omega)).mp z) (show ¬ A 263 0 ≤ i by omega)), mk_bs (mn_ix (show i < 6 by omega) (by omega))]
    have tx : s.2.1 (t + 4) i = Int32.ofNat (A 268 i) := (X'.2.2.1 i hi).2.2
    have t9 := (hT.2.1 i hi).2.2
    have e7 : s.2.1 35 7 = Int32.ofNat (r 78) := S'.2.2.2.2.2.1
    have ob := mk_ow_bit (r := r) hi
    rw [tx, e7]
    refine mk_ok.bind (Q := fun v : mm_H => mk_ch (fun c => c = 66) h v ∧ v.1 = h.1 ∧ ∀ x, x < 2 ^ A 263 1 → mk_B v x (fun g => mk_gr (mk_cp A E r) (mk_owes A r) (i + 1) g x)) ?_ (fun v q => ?_)
    · by_cases c1 : A 268 i = 0
      · rw [if_pos ((mn_lel (b := 0) (show A 268 i < 2147483648 by omega) (by decide)).mpr (show A 268 i ≤ 0 by omega))]
        have o0 : (mk_owes A r).testBit i = false := by
          rw [ob]; unfold mk_ow; rw [decide_eq_false (show ¬ 0 < A 268 i by omega), Bool.false_and]
        exact mk_ok.ret ⟨q1, q2, fun x hx g hg => by rw [q3 x hx g hg]; exact (mk_gr_no o0).symm⟩
      · rw [if_neg (fun z => absurd ((mn_lel (b := 0) (show A 268 i < 2147483648 by omega) (by decide)).mp z) (show ¬ A 268 i ≤ 0 by omega)), mk_bs (mn_xbit (show r 78 < 2147483648 by omega) (show i < 31 by omega))]
        cases c2 : (r 78).testBit i
        · rw [if_pos (by decide), mk_bs (mn_ix (show i < 6 by omega) (by omega)), mk_bs (mx_payable hT X' hW S' (show i < 31 by omega)), tx]
          have o1 : (mk_owes A r).testBit i = true := by
            rw [ob]; unfold mk_ow; rw [decide_eq_true (show 0 < A 268 i by omega), c2]; rfl
          refine mk_ok.bind (mx_admit hT hi c2 o1 (fun x hx => by rw [q2]; exact h65 x hx) q3) (fun v22 ⟨g1, g2, g3⟩ => ?_)
          exact mk_ok.ret ⟨q1.tr g1 (fun _ z => z) (fun _ z => z), g2.trans q2, g3⟩
        · rw [if_neg (by decide)]
          have o0 : (mk_owes A r).testBit i = false := by
            rw [ob]; unfold mk_ow; rw [c2, Bool.not_true, Bool.and_false]
          exact mk_ok.ret ⟨q1, q2, fun x hx g hg => by rw [q3 x hx g hg]; exact (mk_gr_no o0).symm⟩
    · refine mk_ok.let ?_
      rw [mn_addl 1]
      exact mk_ok.inl ⟨rfl, q⟩
  · have X' := hX.ch q1 (fun c z => by omega)
    rw [X'.2.1.1, e1, if_pos (Int32.le_refl _)]
    exact mk_ok.inr ⟨q1, q3⟩
  have g1 : mk_gst (mk_PG A E r) 1 = 0 := by
    show @ite _ (mk_PG A E r 0 ∧ mk_pc 0 < mk_pc 0) (Classical.propDecidable _) 0 0 = 0
    split <;> rfl
  refine mk_ok.bind (mk_ok.for (ρ := Int32) 63 (fun i (s : Int32 × Int32) => s.2 = Int32.ofNat (1 + i) ∧ s.1 = Int32.ofNat (mk_gst (mk_PG A E r) (1 + i))) (Q := fun v => v = Int32.ofNat (mk_gst (mk_PG A E r) 64)) ⟨rfl, by show (0 : Int32) = Int32.ofNat (mk_gst (mk_PG A E r) 1); rw [g1]; rfl⟩ (fun i s hi ⟨e1, e2⟩ => ?_) (fun s ⟨e1, e2⟩ => ?_)) (fun v38 q => mk_ok.ret ⟨q, b1⟩)
  · rw [show 1 + (i + 1) = (1 + i) + 1 by omega]
    generalize hn : 1 + i = n at e1 e2 ⊢
    have le := mk_gst_le (G := mk_PG A E r) n
    have es : mk_gst (mk_PG A E r) (n + 1) = @ite _ (mk_PG A E r n ∧ mk_pc (mk_gst (mk_PG A E r) n) < mk_pc n) (Classical.propDecidable _) n (mk_gst (mk_PG A E r) n) := rfl
    rw [e1, if_neg (fun z => absurd ((mn_lle (b := 64) (show n < 2147483648 by omega) (by decide)).mp z) (show ¬ 64 ≤ n by omega)), mk_bs (mn_ix (show 2 ^ A 263 1 - 1 < 1024 by omega) (by omega)), mn_bit64' (show n < 64 by omega), e2, es]
    have B := b2 (2 ^ A 263 1 - 1) (by omega) n (by omega)
    have B' : ((v8.2.1 66 (2 ^ A 263 1 - 1)).toBitVec.getLsbD n = true) ↔ mk_PG A E r n := B
    generalize mk_gst (mk_PG A E r) n = b at *
    have p1 := mk_pc_le n
    have p2 := mk_pc_le b
    by_cases c : mk_PG A E r n
    · rw [if_pos (B'.mpr c)]
      refine mk_ok.bs (v := 1) (if_pos ((mp_lcmp _ _).mpr rfl)) ?_
      refine mk_ok.bs (v := Int32.ofNat (@ite _ (mk_PG A E r n ∧ mk_pc b < mk_pc n) (Classical.propDecidable _) n b)) ?_ ?_
      · rw [if_neg (show ¬ (1 : Int32) = 0 by decide), mk_bs (mn_bc (show n < 1024 by omega)), mk_bs (mn_bc (show b < 1024 by omega))]
        by_cases y : mk_pc b < mk_pc n
        · rw [if_neg (fun z => absurd ((mn_le (by omega) (by omega)).mp z) (by omega)), if_pos ⟨c, y⟩]
        · rw [if_pos ((mn_le (by omega) (by omega)).mpr (by omega)), if_neg (fun x => y x.2)]
      · refine mk_ok.let ?_
        rw [mn_addl 1]
        exact mk_ok.inl ⟨rfl, rfl⟩
    · rw [if_neg (fun y => c (B'.mp y))]
      refine mk_ok.bs (v := 0) (if_neg (fun z => absurd ((mp_lcmp _ _).mp z) (by decide))) ?_
      refine mk_ok.bs (v := Int32.ofNat (@ite _ (mk_PG A E r n ∧ mk_pc b < mk_pc n) (Classical.propDecidable _) n b)) ?_ ?_
      · rw [if_pos rfl, if_neg (fun x => c x.1)]
      · refine mk_ok.let ?_
        rw [mn_addl 1]
        exact mk_ok.inl ⟨rfl, rfl⟩
  · rw [e1, if_pos (by decide)]
    exact mk_ok.inr e2
