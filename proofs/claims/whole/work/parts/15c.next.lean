/-! the class's tokens -/
def mk_kX (k : Nat) : Int32 := if k = 0 then 1 else if k = 1 then 2 else if k = 2 then 3 else if k = 3 then 4 else 0
def mk_TKX (s : mk_S) (b : Nat) (h : mm_H) : Prop := b ≤ s.1 ∧ mk_PXs s h ∧ h.1 33 2 = Int32.ofNat (mk_en s b) ∧ h.1 33 3 = Int32.ofNat b ∧ h.1 33 4 = mk_kX (mk_kd s b) ∧ h.2.2 33 7 = mk_wo s b ∧ (mk_kd s b = 1 → h.2.1 33 6 = Int64.ofNat (mk_c32 (mk_wd s b))) ∧ (mk_kd s b = 2 → h.1 33 5 = Int32.ofNat (mk_nu s b)) ∧ (mk_kd s b = 3 → h.1 33 8 = Int32.ofNat (s.2 b))
def mk_fx (h h' : mm_H) : Prop := mk_cr (fun c => c = 33) h h' ∧ h'.1 33 1 = h.1 33 1 ∧ h'.1 33 9 = h.1 33 9
theorem mk_fx.rf {h : mm_H} : mk_fx h h := ⟨mk_cr.rf, rfl, rfl⟩
theorem mk_fx.tr {h h1 h2 : mm_H} (a : mk_fx h h1) (b : mk_fx h1 h2) : mk_fx h h2 := ⟨a.1.tr b.1 (fun _ z => z) (fun _ z => z), b.2.1.trans a.2.1, b.2.2.trans a.2.2⟩
theorem mk_fx.p {h : mm_H} {j : Nat} {v : Int32} (hj : ¬ j = 1 ∧ ¬ j = 9) : mk_fx h (mm_pI h 33 j v) := ⟨mk_cr.of (mk_ch.pI rfl), by rw [mp_I1, if_neg (by omega)], by rw [mp_I1, if_neg (by omega)]⟩
theorem mk_fx.pL {h : mm_H} {j : Nat} {v : Int64} : mk_fx h (mm_pL h 33 j v) := ⟨mk_cr.of (mk_ch.pL rfl), rfl, rfl⟩
theorem mk_fx.pR {h : mm_H} {j : Nat} {v : Option Nat} : mk_fx h (mm_pR h 33 j v) := ⟨mk_cr.pR, rfl, rfl⟩
theorem mk_PXs.fx {s : mk_S} {h h' : mm_H} (q : mk_PXs s h) (k : mk_fx h h') : mk_PXs s h' := ⟨k.2.1.trans q.1, fun j hj => by rw [k.1.e1 (c := 34) (by decide)]; exact q.2 j hj⟩
theorem mk_sign_lt {s : mk_S} (hs : mk_sgs s) {k : Nat} (hk : k < s.1) : s.2 k < 127 := by
  have := hs.2 k hk
  unfold mk_sign at this
  omega
theorem mx_skip {s : mk_S} {p : Nat} {h : mm_H} (hs : mk_sgs s) (hp : p ≤ s.1) (P : mk_PXs s h) (hat : h.1 33 2 = Int32.ofNat p) : mk_ok (mm_while (σ := mm_H) (ρ := mm_H) (fun s10 => if (s10.1 33 1) ≤ (s10.1 33 2) then (some (Sum.inr s10)) else ((mm_ix (s10.1 33 2) 1000).bind fun k16 => mm_jp (fun (j18 : Unit) => (mm_let (mm_pI s10 33 2 ((s10.1 33 2) + 1)) fun h21 => some (Sum.inl h21))) fun k20 => if (s10.1 34 k16) = 10 then (k20 ()) else ((mm_ix (s10.1 33 2) 1000).bind fun k23 => if (s10.1 34 k23) = 32 then (k20 ()) else (some (Sum.inr s10))))) h) (fun v => mk_fx h v ∧ v.1 33 2 = Int32.ofNat (mk_to mk_bl s p)) := by
  have s1 := hs.1
  refine mk_ok.lp (fun v : mm_H => ∃ i, i ≤ s.1 ∧ mk_to mk_bl s i = mk_to mk_bl s p ∧ mk_fx h v ∧ v.1 33 2 = Int32.ofNat i) (fun v => s.1 - (v.1 33 2).toInt.toNat) ⟨p, hp, rfl, mk_fx.rf, hat⟩ (fun v hv => ?_)
  obtain ⟨i, hi, e, k, a⟩ := hv
  have P1 := P.fx k
  rw [P1.1, a]
  by_cases c : s.1 ≤ i
  · rw [if_pos ((mn_le (by omega) (by omega)).mpr c)]
    refine mk_ok.lpr ⟨k, ?_⟩
    rw [← e, mk_to_n c]; exact a
  · rw [if_neg (fun z => c ((mn_le (by omega) (by omega)).mp z)), mk_bs (mn_ix (show i < 1000 by omega) (by omega)), P1.2 i (by omega)]
    have sl := mk_sign_lt hs (k := i) (by omega)
    simp only [mm_jp, mm_let]
    have E10 : (Int32.ofNat (s.2 i) = 10) ↔ s.2 i = 10 := mn_eql (b := 10) (show s.2 i < 4294967296 by omega) (by decide)
    have E32 : (Int32.ofNat (s.2 i) = 32) ↔ s.2 i = 32 := mn_eql (b := 32) (show s.2 i < 4294967296 by omega) (by decide)
    have go : mk_bl (s.2 i) = true → mk_ok (some (Sum.inl (mm_pI v 33 2 (Int32.ofNat i + 1)) : mm_H ⊕ mm_H)) (fun x => (∃ s', x = Sum.inl s' ∧ (∃ i, i ≤ s.1 ∧ mk_to mk_bl s i = mk_to mk_bl s p ∧ mk_fx h s' ∧ s'.1 33 2 = Int32.ofNat i) ∧ s.1 - (s'.1 33 2).toInt.toNat < s.1 - (Int32.ofNat i).toInt.toNat) ∨ ∃ r, x = Sum.inr r ∧ mk_fx h r ∧ r.1 33 2 = Int32.ofNat (mk_to mk_bl s p)) := by
      intro b
      have at' : (mm_pI v 33 2 (Int32.ofNat i + 1)).1 33 2 = Int32.ofNat (i + 1) := by rw [mp_I1, if_pos ⟨rfl, rfl⟩]; exact mn_addl 1 i
      refine ⟨_, rfl, Or.inl ⟨_, rfl, ⟨i + 1, by omega, by rw [← e, mk_to_s (by omega) b], k.tr (mk_fx.p ⟨by omega, by omega⟩), at'⟩, ?_⟩⟩
      rw [at', Int32.toInt_ofNat_of_lt (by omega), Int32.toInt_ofNat_of_lt (by omega)]
      omega
    by_cases c1 : s.2 i = 10
    · rw [if_pos (E10.mpr c1)]
      exact go (mk_bl_iff.mpr (Or.inl c1))
    · rw [if_neg (fun z => c1 (E10.mp z)), mk_bs (mn_ix (show i < 1000 by omega) (by omega)), P1.2 i (by omega)]
      by_cases c2 : s.2 i = 32
      · rw [if_pos (E32.mpr c2)]
        exact go (mk_bl_iff.mpr (Or.inr c2))
      · rw [if_neg (fun z => c2 (E32.mp z))]
        have nb : mk_bl (s.2 i) = false := by
          cases q : mk_bl (s.2 i)
          · rfl
          · exact absurd (mk_bl_iff.mp q) (by omega)
        refine mk_ok.lpr ⟨k, ?_⟩
        rw [← e, mk_to_f nb]; exact a
theorem mx_scanWord {s : mk_S} {b : Nat} {h : mm_H} (hs : mk_sgs s) (hb : b < s.1) (P : mk_PXs s h) (hat : h.1 33 2 = Int32.ofNat b) (hpl : h.1 33 3 = Int32.ofNat b) (h7 : h.2.2 33 7 = none) : mk_ok (f_Ta_scanWord h) (fun v => mk_fx h v ∧ v.1 33 2 = Int32.ofNat (mk_to mk_lt s b) ∧ v.1 33 3 = Int32.ofNat b ∧ v.1 33 4 = (if mk_to mk_lt s b - b ≤ 8 then 2 else 0) ∧ v.2.1 33 6 = Int64.ofNat (mk_code 32 (mk_wd s b) (mk_to mk_lt s b - b)) ∧ v.2.2 33 7 = (if mk_to mk_lt s b - b ≤ 8 then mk_wif (Int64.ofNat (mk_code 32 (mk_wd s b) (mk_to mk_lt s b - b))) 28 else none)) := by
  have s1 := hs.1
  have tol := (mk_to_a (f := mk_lt) (s := s) b)
  unfold f_Ta_scanWord
  refine mk_ok.let ?_
  refine mk_ok.bind (mk_ok.lp (fun v : mm_H => ∃ i, b ≤ i ∧ i ≤ s.1 ∧ mk_to mk_lt s i = mk_to mk_lt s b ∧ mk_fx h v ∧ v.1 33 2 = Int32.ofNat i ∧ v.1 33 3 = Int32.ofNat b ∧ v.2.2 33 7 = none ∧ v.2.1 33 6 = Int64.ofNat (mk_code 32 (mk_wd s b) (i - b))) (fun v => s.1 - (v.1 33 2).toInt.toNat) (Q := fun v => mk_fx h v ∧ v.1 33 2 = Int32.ofNat (mk_to mk_lt s b) ∧ v.1 33 3 = Int32.ofNat b ∧ v.2.2 33 7 = none ∧ v.2.1 33 6 = Int64.ofNat (mk_code 32 (mk_wd s b) (mk_to mk_lt s b - b))) ⟨b, Nat.le_refl _, by omega, rfl, mk_fx.pL, hat, hpl, h7, by rw [mp_L2, if_pos ⟨rfl, rfl⟩, Nat.sub_self]; rfl⟩ (fun v hv => ?_)) (fun v6 ⟨a1, a2, a3, a4, a5⟩ => ?_)
  · obtain ⟨i, hi0, hi, e, k, a, pl, w7, w6⟩ := hv
    have P1 := P.fx k
    rw [P1.1, a]
    have ex : mk_to mk_lt s i = i → mk_ok (some (Sum.inr v : mm_H ⊕ mm_H)) (fun x => (∃ s', x = Sum.inl s' ∧ (∃ i, b ≤ i ∧ i ≤ s.1 ∧ mk_to mk_lt s i = mk_to mk_lt s b ∧ mk_fx h s' ∧ s'.1 33 2 = Int32.ofNat i ∧ s'.1 33 3 = Int32.ofNat b ∧ s'.2.2 33 7 = none ∧ s'.2.1 33 6 = Int64.ofNat (mk_code 32 (mk_wd s b) (i - b))) ∧ s.1 - (s'.1 33 2).toInt.toNat < s.1 - (Int32.ofNat i).toInt.toNat) ∨ ∃ r, x = Sum.inr r ∧ mk_fx h r ∧ r.1 33 2 = Int32.ofNat (mk_to mk_lt s b) ∧ r.1 33 3 = Int32.ofNat b ∧ r.2.2 33 7 = none ∧ r.2.1 33 6 = Int64.ofNat (mk_code 32 (mk_wd s b) (mk_to mk_lt s b - b))) := by
      intro q
      have ei : mk_to mk_lt s b = i := by rw [← e, q]
      exact mk_ok.lpr ⟨k, by rw [ei]; exact a, pl, w7, by rw [ei]; exact w6⟩
    by_cases c : s.1 ≤ i
    · rw [if_pos ((mn_le (by omega) (by omega)).mpr c)]
      exact ex (mk_to_n c)
    · have ix : mm_ix (Int32.ofNat i) 1000 = some i := mn_ix (show i < 1000 by omega) (by omega)
      have sl := mk_sign_lt hs (k := i) (by omega)
      have nolt : ¬ (97 ≤ s.2 i ∧ s.2 i ≤ 122) → mk_to mk_lt s i = i := fun z => by
        refine mk_to_f ?_
        cases q : mk_lt (s.2 i)
        · rfl
        · exact absurd (mk_lt_iff.mp q) z
      rw [if_neg (fun z => c ((mn_le (by omega) (by omega)).mp z)), mk_bs ix, P1.2 i (by omega)]
      by_cases c1 : s.2 i < 97
      · rw [if_pos ((mn_ltl (b := 97) (show s.2 i < 2147483648 by omega) (by decide)).mpr c1)]
        exact ex (nolt (by omega))
      · rw [if_neg (fun z => c1 ((mn_ltl (b := 97) (show s.2 i < 2147483648 by omega) (by decide)).mp z)), mk_bs ix, P1.2 i (by omega)]
        by_cases c2 : 122 < s.2 i
        · rw [if_pos ((mn_llt (b := 122) (show s.2 i < 2147483648 by omega) (by decide)).mpr c2)]
          exact ex (nolt (by omega))
        · rw [if_neg (fun z => c2 ((mn_llt (b := 122) (show s.2 i < 2147483648 by omega) (by decide)).mp z)), mk_bs ix, P1.2 i (by omega)]
          simp only [mm_let]
          have l : mk_lt (s.2 i) = true := mk_lt_iff.mpr ⟨by omega, by omega⟩
          have cv : v.2.1 33 6 * 32 + (Int32.ofNat (s.2 i) - 97 + 1).toInt64 = Int64.ofNat (mk_code 32 (mk_wd s b) (i + 1 - b)) := by
            have m1 : Int32.ofNat (s.2 i) - 97 = Int32.ofNat (s.2 i - 97) := mn_subl (b := 97) (show 97 ≤ s.2 i by omega)
            have m2 : Int32.ofNat (s.2 i - 97) + 1 = Int32.ofNat (s.2 i - 97 + 1) := mn_addl 1 _
            have wdv : mk_wd s b (i - b + 1) = s.2 i - 97 + 1 := by
              unfold mk_wd
              rw [if_neg (by omega), show b + (i - b + 1) - 1 = i by omega]
              omega
            rw [m1, m2, mn_3264 (by omega), w6, show (32 : Int64) = Int64.ofNat 32 from rfl, mn_mul64, mn_ladd64, show i + 1 - b = i - b + 1 by omega, mk_code_s, wdv]
          rw [cv]
          have at' : (mm_pI (mm_pL v 33 6 (Int64.ofNat (mk_code 32 (mk_wd s b) (i + 1 - b)))) 33 2 ((mm_pL v 33 6 (Int64.ofNat (mk_code 32 (mk_wd s b) (i + 1 - b)))).1 33 2 + 1)).1 33 2 = Int32.ofNat (i + 1) := by
            rw [mp_I1, if_pos ⟨rfl, rfl⟩, mp_L1, a]; exact mn_addl 1 i
          refine ⟨_, rfl, Or.inl ⟨_, rfl, ⟨i + 1, by omega, by omega, by rw [← e, mk_to_s (by omega) l], (k.tr mk_fx.pL).tr (mk_fx.p ⟨by omega, by omega⟩), at', ?_, w7, ?_⟩, ?_⟩⟩
          · rw [mp_I1, if_neg (by omega)]; exact pl
          · show (mm_pL v 33 6 (Int64.ofNat (mk_code 32 (mk_wd s b) (i + 1 - b)))).2.1 33 6 = _
            rw [mp_L2, if_pos ⟨rfl, rfl⟩]
          · rw [at', Int32.toInt_ofNat_of_lt (by omega), Int32.toInt_ofNat_of_lt (by omega)]
            omega
  · generalize eT : mk_to mk_lt s b = T at *
    have Tl := tol.2.1 (by omega)
    have dif : Int32.ofNat T - Int32.ofNat b = Int32.ofNat (T - b) := mn_sub tol.1
    have le8 : (Int32.ofNat (T - b) ≤ 8) ↔ T - b ≤ 8 := mn_lel (b := 8) (show T - b < 2147483648 by omega) (by decide)
    rw [a2, a3, dif]
    refine mk_ok.bs (v := if T - b ≤ 8 then 2 else 0) ?_ ?_
    · by_cases c : T - b ≤ 8
      · rw [if_pos (le8.mpr c), if_pos c]
      · rw [if_neg (fun z => c (le8.mp z)), if_neg c]
    · refine mk_ok.let ?_
      have f33 : mk_fx v6 (mm_pI v6 33 4 (if T - b ≤ 8 then 2 else 0)) := mk_fx.p ⟨by omega, by omega⟩
      have g2 : (mm_pI v6 33 4 (if T - b ≤ 8 then 2 else 0)).1 33 2 = Int32.ofNat T := by rw [mp_I1, if_neg (by omega)]; exact a2
      have g3 : (mm_pI v6 33 4 (if T - b ≤ 8 then 2 else 0)).1 33 3 = Int32.ofNat b := by rw [mp_I1, if_neg (by omega)]; exact a3
      have g4 : (mm_pI v6 33 4 (if T - b ≤ 8 then 2 else 0)).1 33 4 = if T - b ≤ 8 then 2 else 0 := by rw [mp_I1, if_pos ⟨rfl, rfl⟩]
      have g6 : (mm_pI v6 33 4 (if T - b ≤ 8 then 2 else 0)).2.1 33 6 = Int64.ofNat (mk_code 32 (mk_wd s b) (T - b)) := a5
      have g7 : (mm_pI v6 33 4 (if T - b ≤ 8 then 2 else 0)).2.2 33 7 = none := a4
      revert f33 g2 g3 g4 g6 g7
      generalize mm_pI v6 33 4 (if T - b ≤ 8 then 2 else 0) = h33
      intro f33 g2 g3 g4 g6 g7
      have fh := a1.tr f33
      by_cases c : T - b ≤ 8
      · rw [if_pos c] at g4
        refine mk_ok.bind (mk_ok.for (ρ := mm_H) 28 (fun i (y : Int32 × mm_H) => y.1 = Int32.ofNat i ∧ mk_fx h33 y.2 ∧ y.2.1 = h33.1 ∧ y.2.2.1 = h33.2.1 ∧ y.2.2.2 33 7 = mk_wif (Int64.ofNat (mk_code 32 (mk_wd s b) (T - b))) i) (Q := fun v => mk_fx h33 v ∧ v.1 = h33.1 ∧ v.2.1 = h33.2.1 ∧ v.2.2 33 7 = mk_wif (Int64.ofNat (mk_code 32 (mk_wd s b) (T - b))) 28) ⟨rfl, mk_fx.rf, rfl, rfl, g7⟩ (fun i y hi ⟨e1, q1, q2, q3, q4⟩ => ?_) (fun y ⟨e1, q1, q2, q3, q4⟩ => ?_)) (fun v ⟨q1, q2, q3, q4⟩ => ?_)
        · have ix : mm_ix (Int32.ofNat i) 28 = some i := mn_ix hi (by omega)
          rw [e1, if_neg (fun z => absurd ((mn_lle (b := 28) (show i < 2147483648 by omega) (by decide)).mp z) (show ¬ 28 ≤ i by omega)), q2, g4, if_pos rfl, q3, g6]
          refine mk_ok.bs ix ?_
          rw [show Int32.ofNat i + 1 = Int32.ofNat (i + 1) from mn_addl 1 i]
          by_cases d : lg_cmp (mm_wc i) (Int64.ofNat (mk_code 32 (mk_wd s b) (T - b))) = 0
          · rw [if_pos d, mk_bs ix]
            refine mk_ok.inl ⟨rfl, q1.tr mk_fx.pR, q2, q3, ?_⟩
            show (mm_pR y.2 33 7 (some i)).2.2 33 7 = _
            rw [mp_R3, if_pos ⟨rfl, rfl⟩]
            exact (if_pos d).symm
          · rw [if_neg d]
            refine mk_ok.inl ⟨rfl, q1, q2, q3, ?_⟩
            rw [q4]
            exact (if_neg d).symm
        · rw [e1, if_pos (show (28 : Int32) ≤ Int32.ofNat 28 from Int32.le_refl _)]
          exact mk_ok.inr ⟨q1, q2, q3, q4⟩
        · refine mk_ok.ret ⟨fh.tr q1, by rw [q2]; exact g2, by rw [q2]; exact g3, by rw [q2, if_pos c]; exact g4, by rw [q3]; exact g6, by rw [if_pos c]; exact q4⟩
      · rw [if_neg c] at g4
        have one : mm_while (σ := (Int32 × mm_H)) (ρ := mm_H) (fun s35 => if 28 ≤ s35.1 then (some (Sum.inr s35.2)) else (if (s35.2.1 33 4) = 2 then ((mm_ix s35.1 28).bind fun k41 => (if (lg_cmp (mm_wc k41) (s35.2.2.1 33 6)) = 0 then ((mm_ix s35.1 28).bind fun k46 => mm_let (mm_pR s35.2 33 7 (some k46)) fun h49 => some h49) else (some s35.2) : Option mm_H).bind fun j44 => mm_let (s35.1 + 1) fun y54 => some (Sum.inl (y54, j44))) else (some (Sum.inr s35.2)))) (0, h33) = some h33 := mm_while_inr (by
          dsimp only
          rw [if_neg (show ¬ (28 : Int32) ≤ 0 by decide), g4, if_neg (show ¬ (0 : Int32) = 2 by decide)])
        rw [mk_bs one]
        exact mk_ok.ret ⟨fh, g2, g3, by rw [if_neg c]; exact g4, g6, by rw [if_neg c]; exact g7⟩
theorem mx_scanNumber {s : mk_S} {b : Nat} {h : mm_H} (hs : mk_sgs s) (hb : b < s.1) (P : mk_PXs s h) (hat : h.1 33 2 = Int32.ofNat b) (hpl : h.1 33 3 = Int32.ofNat b) (h7 : h.2.2 33 7 = none) : mk_ok (f_Ta_scanNumber h) (fun v => mk_fx h v ∧ v.1 33 2 = Int32.ofNat (mk_to mk_dgt s b) ∧ v.1 33 3 = Int32.ofNat b ∧ v.1 33 4 = (if mk_to mk_dgt s b - b ≤ 4 then 3 else 0) ∧ v.1 33 5 = Int32.ofNat (mk_dec s b (mk_to mk_dgt s b - b)) ∧ v.2.2 33 7 = none) := by
  have s1 := hs.1
  have tol := (mk_to_a (f := mk_dgt) (s := s) b)
  unfold f_Ta_scanNumber
  refine mk_ok.let ?_
  refine mk_ok.bind (mk_ok.lp (fun v : mm_H => ∃ i, b ≤ i ∧ i ≤ s.1 ∧ mk_to mk_dgt s i = mk_to mk_dgt s b ∧ mk_fx h v ∧ v.1 33 2 = Int32.ofNat i ∧ v.1 33 3 = Int32.ofNat b ∧ v.2.2 33 7 = none ∧ v.1 33 5 = Int32.ofNat (mk_dec s b (i - b))) (fun v => s.1 - (v.1 33 2).toInt.toNat) (Q := fun v => mk_fx h v ∧ v.1 33 2 = Int32.ofNat (mk_to mk_dgt s b) ∧ v.1 33 3 = Int32.ofNat b ∧ v.2.2 33 7 = none ∧ v.1 33 5 = Int32.ofNat (mk_dec s b (mk_to mk_dgt s b - b))) ⟨b, Nat.le_refl _, by omega, rfl, mk_fx.p ⟨by omega, by omega⟩, by rw [mp_I1, if_neg (by omega)]; exact hat, by rw [mp_I1, if_neg (by omega)]; exact hpl, h7, by rw [mp_I1, if_pos ⟨rfl, rfl⟩, Nat.sub_self]; rfl⟩ (fun v hv => ?_)) (fun v6 ⟨a1, a2, a3, a4, a5⟩ => ?_)
  · obtain ⟨i, hi0, hi, e, k, a, pl, w7, w6⟩ := hv
    have P1 := P.fx k
    rw [P1.1, a]
    have ex : mk_to mk_dgt s i = i → mk_ok (some (Sum.inr v : mm_H ⊕ mm_H)) (fun x => (∃ s', x = Sum.inl s' ∧ (∃ i, b ≤ i ∧ i ≤ s.1 ∧ mk_to mk_dgt s i = mk_to mk_dgt s b ∧ mk_fx h s' ∧ s'.1 33 2 = Int32.ofNat i ∧ s'.1 33 3 = Int32.ofNat b ∧ s'.2.2 33 7 = none ∧ s'.1 33 5 = Int32.ofNat (mk_dec s b (i - b))) ∧ s.1 - (s'.1 33 2).toInt.toNat < s.1 - (Int32.ofNat i).toInt.toNat) ∨ ∃ r, x = Sum.inr r ∧ mk_fx h r ∧ r.1 33 2 = Int32.ofNat (mk_to mk_dgt s b) ∧ r.1 33 3 = Int32.ofNat b ∧ r.2.2 33 7 = none ∧ r.1 33 5 = Int32.ofNat (mk_dec s b (mk_to mk_dgt s b - b))) := by
      intro q
      have ei : mk_to mk_dgt s b = i := by rw [← e, q]
      exact mk_ok.lpr ⟨k, by rw [ei]; exact a, pl, w7, by rw [ei]; exact w6⟩
    by_cases c : s.1 ≤ i
    · rw [if_pos ((mn_le (by omega) (by omega)).mpr c)]
      exact ex (mk_to_n c)
    · have ix : mm_ix (Int32.ofNat i) 1000 = some i := mn_ix (show i < 1000 by omega) (by omega)
      have sl := mk_sign_lt hs (k := i) (by omega)
      have nolt : ¬ (48 ≤ s.2 i ∧ s.2 i ≤ 57) → mk_to mk_dgt s i = i := fun z => by
        refine mk_to_f ?_
        cases q : mk_dgt (s.2 i)
        · rfl
        · exact absurd (mk_dgt_iff.mp q) z
      rw [if_neg (fun z => c ((mn_le (by omega) (by omega)).mp z)), mk_bs ix, P1.2 i (by omega)]
      by_cases c1 : s.2 i < 48
      · rw [if_pos ((mn_ltl (b := 48) (show s.2 i < 2147483648 by omega) (by decide)).mpr c1)]
        exact ex (nolt (by omega))
      · rw [if_neg (fun z => c1 ((mn_ltl (b := 48) (show s.2 i < 2147483648 by omega) (by decide)).mp z)), mk_bs ix, P1.2 i (by omega)]
        by_cases c2 : 57 < s.2 i
        · rw [if_pos ((mn_llt (b := 57) (show s.2 i < 2147483648 by omega) (by decide)).mpr c2)]
          exact ex (nolt (by omega))
        · rw [if_neg (fun z => c2 ((mn_llt (b := 57) (show s.2 i < 2147483648 by omega) (by decide)).mp z)), mk_bs ix, P1.2 i (by omega)]
          simp only [mm_let]
          have l : mk_dgt (s.2 i) = true := mk_dgt_iff.mpr ⟨by omega, by omega⟩
          have cv : v.1 33 5 * 10 + (Int32.ofNat (s.2 i) - 48) = Int32.ofNat (mk_dec s b (i + 1 - b)) := by
            have m1 : Int32.ofNat (s.2 i) - 48 = Int32.ofNat (s.2 i - 48) := mn_subl (b := 48) (show 48 ≤ s.2 i by omega)
            have st : mk_dec s b (i - b + 1) = mk_dec s b (i - b) * 10 + (s.2 (b + (i - b)) - 48) := rfl
            rw [m1, w6, mn_mull 10, mn_add, show i + 1 - b = i - b + 1 by omega, st, show b + (i - b) = i by omega]
          rw [cv]
          have at' : (mm_pI (mm_pI v 33 5 (Int32.ofNat (mk_dec s b (i + 1 - b)))) 33 2 ((mm_pI v 33 5 (Int32.ofNat (mk_dec s b (i + 1 - b)))).1 33 2 + 1)).1 33 2 = Int32.ofNat (i + 1) := by
            rw [mp_I1, if_pos ⟨rfl, rfl⟩, mp_I1, if_neg (by omega), a]; exact mn_addl 1 i
          refine ⟨_, rfl, Or.inl ⟨_, rfl, ⟨i + 1, by omega, by omega, by rw [← e, mk_to_s (by omega) l], (k.tr (mk_fx.p ⟨by omega, by omega⟩)).tr (mk_fx.p ⟨by omega, by omega⟩), at', ?_, w7, ?_⟩, ?_⟩⟩
          · rw [mp_I1, if_neg (by omega), mp_I1, if_neg (by omega)]; exact pl
          · rw [mp_I1, if_neg (by omega), mp_I1, if_pos ⟨rfl, rfl⟩]
          · rw [at', Int32.toInt_ofNat_of_lt (by omega), Int32.toInt_ofNat_of_lt (by omega)]
            omega
  · generalize eT : mk_to mk_dgt s b = T at *
    have Tl := tol.2.1 (by omega)
    have dif : Int32.ofNat T - Int32.ofNat b = Int32.ofNat (T - b) := mn_sub tol.1
    have le8 : (Int32.ofNat (T - b) ≤ 4) ↔ T - b ≤ 4 := mn_lel (b := 4) (show T - b < 2147483648 by omega) (by decide)
    rw [a2, a3, dif]
    refine mk_ok.bs (v := if T - b ≤ 4 then 3 else 0) ?_ ?_
    · by_cases c : T - b ≤ 4
      · rw [if_pos (le8.mpr c), if_pos c]
      · rw [if_neg (fun z => c (le8.mp z)), if_neg c]
    · refine mk_ok.let (mk_ok.ret ⟨a1.tr (mk_fx.p ⟨by omega, by omega⟩), ?_, ?_, ?_, ?_, a4⟩)
      · rw [mp_I1, if_neg (by omega)]; exact a2
      · rw [mp_I1, if_neg (by omega)]; exact a3
      · rw [mp_I1, if_pos ⟨rfl, rfl⟩]
      · rw [mp_I1, if_neg (by omega)]; exact a5
