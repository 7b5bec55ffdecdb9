/-! payers -/
theorem mi_groups {A : mk_A} {E : mk_E} {r : Nat → Nat} {h0 h1 : mm_H} (hT : mk_T A) (hM : mk_MT A E h0) (k0 : mk_ch mk_DP h0 h1) (h307 : ∀ p b, p < A 263 0 → b < 2 ^ A 263 1 → h1.1 307 (1024 * p + b) = Int32.ofNat (mk_cp A E r p b).toNat) :
    mk_ok (mm_while (σ := (Int32 × Int32 × mm_H)) (ρ := (Int32 × mm_H)) (fun s46 => if 64 ≤ s46.2.1 then (some (Sum.inr (s46.1, s46.2.2))) else ((if (s46.2.1 &&& (Int32.ofNat (mk_owes A r) ^^^ (-1))) = 0 then ((mm_while (σ := (Int32 × mm_H)) (ρ := mm_H) (fun s54 => (f_M_allSecrets s54.2).bind fun v61 => if v61 < s54.1 then (some (Sum.inr s54.2)) else ((if s46.2.1 = 0 then (some 1) else ((f_M_payTogether s46.2.1 s54.1 s54.2).bind fun v65 => if v65 = 0 then (some 0) else (some 1)) : Option Int32).bind fun j62 => (mm_ix ((1024 * s46.2.1) + s54.1) 65536).bind fun k72 => mm_let (mm_pI s54.2 306 k72 (j62 &&& 1)) fun h74 => mm_let (s54.1 + 1) fun y76 => some (Sum.inl (y76, h74)))) (0, s46.2.2)).bind fun v57 => (f_M_allSecrets v57).bind fun v83 => (mm_ix ((1024 * s46.2.1) + v83) 65536).bind fun k84 => if (v57.1 306 k84) = 0 then (some (s46.1, v57)) else ((f_M_bits s46.2.1).bind fun v87 => (f_M_bits s46.1).bind fun v89 => if v87 ≤ v89 then (some (s46.1, v57)) else (some (s46.2.1, v57)))) else (some (s46.1, s46.2.2)) : Option (Int32 × mm_H)).bind fun j52 => mm_let (s46.2.1 + 1) fun y99 => some (Sum.inl (j52.1, y99, j52.2)))) (0, 0, h1))
      (fun w => w.1 = Int32.ofNat (mk_gst (mk_PG A E r) 64) ∧ mk_ch mk_DP h0 w.2) := by
  have hP := hT.1.1
  have hS1 := hT.1.2.1
  have h1k := mk_pow10 hS1
  have h64 := mk_pow6 hP
  have hpos : 0 < 2 ^ A 263 1 := Nat.two_pow_pos _
  have ol : mk_owes A r < 2 ^ A 263 0 := mk_set_lt _ _
  have DP : ∀ c, mk_DP c → c = 306 ∨ c = 307 ∨ (281 ≤ c ∧ c ≤ 292) := fun c z => z
  have mM : ∀ {v}, mk_ch mk_DP h0 v → mk_MT A E v := fun k => hM.ch k (fun c z => by have := DP c z; omega)
  have D6 : mk_DP 306 := Or.inl rfl
  refine mk_ok.for (ρ := Int32 × mm_H) 64 (fun i (s : Int32 × Int32 × mm_H) => s.2.1 = Int32.ofNat i ∧ s.1 = Int32.ofNat (mk_gst (mk_PG A E r) i) ∧ mk_ch mk_DP h0 s.2.2 ∧ s.2.2.1 307 = h1.1 307 ∧ ∀ g, g < i → mk_sub g (mk_owes A r) → ∀ b, b < 2 ^ A 263 1 → s.2.2.1 306 (1024 * g + b) = Int32.ofNat (mk_cb (mk_cp A E r) g b)) ⟨rfl, rfl, k0, rfl, fun g hg => absurd hg (by omega)⟩ (fun n s hn ⟨e1, e2, q1, q2, q3⟩ => ?_) (fun s ⟨e1, e2, q1, q2, q3⟩ => ?_)
  · rw [e1, if_neg (fun z => absurd ((mn_lle (b := 64) (show n < 2147483648 by omega) (by decide)).mp z) (show ¬ 64 ≤ n by omega)), mn_dif]
    have le := mk_gst_le (G := mk_PG A E r) n
    have es : mk_gst (mk_PG A E r) (n + 1) = @ite _ (mk_PG A E r n ∧ mk_pc (mk_gst (mk_PG A E r) n) < mk_pc n) (Classical.propDecidable _) n (mk_gst (mk_PG A E r) n) := rfl
    rw [e2, es]
    generalize mk_gst (mk_PG A E r) n = best at *
    have dn : mk_dif n (mk_owes A r) ≤ n := mk_sub_le mk_dif_sub
    have Z : (Int32.ofNat (mk_dif n (mk_owes A r)) = 0) ↔ mk_dif n (mk_owes A r) = 0 := mn_eql (b := 0) (show mk_dif n (mk_owes A r) < 4294967296 by omega) (by decide)
    have p1 := mk_pc_le n
    have p2 := mk_pc_le best
    refine mk_ok.bind (Q := fun v : Int32 × mm_H => v.1 = Int32.ofNat (@ite _ (mk_PG A E r n ∧ mk_pc best < mk_pc n) (Classical.propDecidable _) n best) ∧ mk_ch mk_DP h0 v.2 ∧ v.2.1 307 = h1.1 307 ∧ ∀ g, g < n + 1 → mk_sub g (mk_owes A r) → ∀ b, b < 2 ^ A 263 1 → v.2.1 306 (1024 * g + b) = Int32.ofNat (mk_cb (mk_cp A E r) g b)) ?_ (fun v ⟨b1, b2, b3, b4⟩ => ?_)
    · by_cases c : mk_dif n (mk_owes A r) = 0
      · have no : mk_sub n (mk_owes A r) := fun i hi => mk_dif_0.mp c i hi
        have nP : n < 2 ^ A 263 0 := Nat.lt_of_le_of_lt (mk_sub_le no) ol
        rw [if_pos (Z.mpr c)]
        refine mk_ok.bind (mk_ok.for (ρ := mm_H) (2 ^ A 263 1) (fun j (y : Int32 × mm_H) => y.1 = Int32.ofNat j ∧ mk_ch mk_DP h0 y.2 ∧ y.2.1 307 = h1.1 307 ∧ (∀ g, g < n → mk_sub g (mk_owes A r) → ∀ b, b < 2 ^ A 263 1 → y.2.1 306 (1024 * g + b) = Int32.ofNat (mk_cb (mk_cp A E r) g b)) ∧ ∀ b, b < j → y.2.1 306 (1024 * n + b) = Int32.ofNat (mk_cb (mk_cp A E r) n b)) (Q := fun v : mm_H => mk_ch mk_DP h0 v ∧ v.1 307 = h1.1 307 ∧ (∀ g, g < n → mk_sub g (mk_owes A r) → ∀ b, b < 2 ^ A 263 1 → v.1 306 (1024 * g + b) = Int32.ofNat (mk_cb (mk_cp A E r) g b)) ∧ ∀ b, b < 2 ^ A 263 1 → v.1 306 (1024 * n + b) = Int32.ofNat (mk_cb (mk_cp A E r) n b)) ⟨rfl, q1, q2, q3, fun b hb => absurd hb (by omega)⟩ (fun j y hj ⟨f1, f2, f3, f4, f5⟩ => ?_) (fun y ⟨f1, f2, f3, f4, f5⟩ => ?_)) (fun v57 ⟨g1, g2, g3, g4⟩ => ?_)
        · refine mk_ok.bs (mi_allSecrets hT (mM f2)) ?_
          rw [f1, if_neg (fun z => absurd ((mn_lt (by omega) (by omega)).mp z) (show ¬ 2 ^ A 263 1 - 1 < j by omega))]
          have cb1 := mk_cb_le (C := mk_cp A E r) (g := n) (s := j)
          refine mk_ok.bs (v := Int32.ofNat (mk_cb (mk_cp A E r) n j)) ?_ ?_
          · by_cases n0 : n = 0
            · subst n0
              rw [if_pos (show Int32.ofNat 0 = 0 by decide)]
              have : mk_cb (mk_cp A E r) 0 j = 1 := if_pos mk_can_0
              rw [this]; rfl
            · rw [if_neg (fun z => n0 ((mn_eql (b := 0) (show n < 4294967296 by omega) (by decide)).mp z)), mk_bs (mi_payTogether (P := A 263 0) (S := A 263 1) (o := mk_owes A r) hS1 hP (fun p b hb => (mk_cp_lt hb).2) (fun p b hp hb => by rw [f3]; exact h307 p b hp hb) (fun g' hg' ho b hb => f4 g' hg' ho b hb) (by omega) nP no hj)]
              have : mk_cb (mk_cp A E r) n j = 0 ∨ mk_cb (mk_cp A E r) n j = 1 := by omega
              rcases this with k | k <;> rw [k] <;> rfl
          rw [mn_lmul 1024, mn_add, mk_bs (mn_ix (show 1024 * n + j < 65536 by omega) (by omega)), mn_and1 cb1]
          refine mk_ok.let ?_
          refine mk_ok.let ?_
          rw [mn_addl 1]
          refine mk_ok.inl ⟨rfl, f2.tr (mk_ch.pI (D := mk_DP) D6) (fun _ z => z) (fun _ z => z), ?_, fun g hg ho b hb => ?_, fun b hb => ?_⟩
          · rw [← f3]; funext x; rw [mp_I1, if_neg (by omega)]
          · rw [mp_I1, if_neg (by omega)]; exact f4 g hg ho b hb
          · rw [mp_I1]
            by_cases e : b = j
            · rw [e, if_pos ⟨rfl, rfl⟩]
            · rw [if_neg (by omega)]; exact f5 b (by omega)
        · refine mk_ok.bs (mi_allSecrets hT (mM f2)) ?_
          rw [f1, if_pos ((mn_lt (by omega) (by omega)).mpr (show 2 ^ A 263 1 - 1 < 2 ^ A 263 1 by omega))]
          exact mk_ok.inr ⟨f2, f3, f4, f5⟩
        have tab : ∀ g, g < n + 1 → mk_sub g (mk_owes A r) → ∀ b, b < 2 ^ A 263 1 → v57.1 306 (1024 * g + b) = Int32.ofNat (mk_cb (mk_cp A E r) g b) := fun g hg ho b hb => by
          by_cases e : g = n
          · rw [e]; exact g4 b hb
          · exact g3 g (by omega) ho b hb
        refine mk_ok.bs (mi_allSecrets hT (mM g1)) ?_
        rw [mn_lmul 1024, mn_add, mk_bs (mn_ix (show 1024 * n + (2 ^ A 263 1 - 1) < 65536 by omega) (by omega)), g4 _ (by omega)]
        by_cases k : mk_can (mk_cp A E r) n (2 ^ A 263 1 - 1)
        · have eG : mk_PG A E r n := ⟨nP, no, k⟩
          have e1' : mk_cb (mk_cp A E r) n (2 ^ A 263 1 - 1) = 1 := if_pos k
          rw [e1', if_neg (by decide), mk_bs (mn_mbits (show n < 2147483648 by omega)), mk_bs (mn_mbits (show best < 2147483648 by omega))]
          by_cases y : mk_pc best < mk_pc n
          · rw [if_neg (fun z => absurd ((mn_le (by omega) (by omega)).mp z) (by omega)), if_pos ⟨eG, y⟩]
            exact mk_ok.ret ⟨rfl, g1, g2, tab⟩
          · rw [if_pos ((mn_le (by omega) (by omega)).mpr (by omega)), if_neg (fun x => y x.2)]
            exact mk_ok.ret ⟨rfl, g1, g2, tab⟩
        · have e1' : mk_cb (mk_cp A E r) n (2 ^ A 263 1 - 1) = 0 := if_neg k
          rw [e1', if_pos (by decide), if_neg (fun x => k x.1.2.2)]
          exact mk_ok.ret ⟨rfl, g1, g2, tab⟩
      · have nno : ¬ mk_sub n (mk_owes A r) := fun q => c (mk_dif_0.mpr q)
        rw [if_neg (fun z => c (Z.mp z)), if_neg (fun x => nno x.1.2.1)]
        refine mk_ok.ret ⟨rfl, q1, q2, fun g hg ho b hb => ?_⟩
        by_cases e : g = n
        · rw [e] at ho; exact absurd ho nno
        · exact q3 g (by omega) ho b hb
    · refine mk_ok.let ?_
      rw [mn_addl 1]
      exact mk_ok.inl ⟨rfl, b1, b2, b3, b4⟩
  · rw [e1, if_pos (by decide)]
    exact mk_ok.inr ⟨e2, q1⟩
theorem mc_payers : mk_call f_X_payers f_M_payers := by
  refine mk_callof (fun A E t r u hw => ?_)
  have hT := hw.1
  have hW := hw.2.1
  refine ⟨Int32.ofNat (mk_gst (mk_PG A E r) 64), r, u, t, hw, fun h hX => ?_, fun h hM => ?_⟩
  · unfold f_X_payers
    have ht := hX.2.1.1
    refine mk_ok.bs (mx_gT hX.1.1 ht) ?_
    refine mk_ok.bind (mx_weighed hT hW hX.1.1 hX.2.1 (Or.inl rfl) hX.2.2.1.1) (fun v4 ⟨c1, c2⟩ => ?_)
    have X4 := hX.DX hw c1
    refine mk_ok.bind (mx_weighSets hT X4.2.1 c2) (fun v6 ⟨d1, d2⟩ => ?_)
    have X6 : mk_X A E t r u v6 := X4.ch hw d1 (fun c z => by unfold mk_sx; omega)
    refine mk_ok.bs (mx_gT X6.1.1 ht) ?_
    refine mk_ok.bind (mx_most hT hW X6.2.1 X6.2.2.1.1 d2) (fun v10 ⟨g1, g2⟩ => ?_)
    have X10 : mk_X A E t r u v10.2 := X6.ch hw g2 (fun c z => by unfold mk_sx; omega)
    exact mk_ok.ret ⟨g1, X10, ((mk_DXs c1 ht).tr (mk_fM.of d1 (fun c z => by omega))).tr (mk_fM.of g2 (fun c z => by omega))⟩
  · unfold f_M_payers
    refine mk_ok.let ?_
    have p0 : mk_s2m h (mm_pI h 261 0 0) := mk_s2m.pI ⟨by decide, by decide⟩
    have hM1 := hM.s2 p0
    revert p0 hM1
    generalize mm_pI h 261 0 0 = h1
    intro p0 hM1
    refine mk_ok.bind (mi_payers (E := E) hT hW hM1.1 hM1.2.1) (fun v6 ⟨a1, a2, a3⟩ => ?_)
    rw [a1]
    refine mk_ok.bind (mi_groups (E := E) hT hM1.1 a2 a3) (fun v49 ⟨b1, b2⟩ => ?_)
    have p1 : mk_s2m h1 v49.2 := mk_s2m.of b2 (fun c z => by unfold mk_DP at z; unfold mk_sm; omega)
    exact mk_ok.ret ⟨b1, hM1.s2 p1, (mk_fX.s2 p0).tr (mk_fX.s2 p1)⟩
