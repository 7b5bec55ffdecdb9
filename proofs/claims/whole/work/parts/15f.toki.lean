/-! the reference's tokens -/
def mk_TKM (s : mk_S) (b : Nat) (h : mm_H) : Prop := b ≤ s.1 ∧ (∀ k, k < s.1 → h.1 262 k = Int32.ofNat (s.2 k)) ∧ h.1 261 3 = Int32.ofNat s.1 ∧ h.1 261 4 = Int32.ofNat (mk_en s b) ∧ h.1 261 5 = Int32.ofNat b ∧ h.1 261 6 = Int32.ofNat (mk_kd s b) ∧ (mk_kd s b = 1 → h.2.1 261 7 = Int64.ofNat (mk_c27 (mk_wd s b))) ∧ (mk_kd s b = 2 → h.1 261 8 = Int32.ofNat (mk_nu s b))
def mk_fy (h h' : mm_H) : Prop := mk_ch (fun c => c = 261) h h' ∧ ∀ j, ¬ j = 4 → ¬ j = 5 → ¬ j = 6 → ¬ j = 8 → h'.1 261 j = h.1 261 j
theorem mk_fy.rf {h : mm_H} : mk_fy h h := ⟨mk_ch.rf, fun _ _ _ _ _ => rfl⟩
theorem mk_fy.tr {h h1 h2 : mm_H} (a : mk_fy h h1) (b : mk_fy h1 h2) : mk_fy h h2 := ⟨a.1.tr b.1 (fun _ z => z) (fun _ z => z), fun j n1 n2 n3 n4 => (b.2 j n1 n2 n3 n4).trans (a.2 j n1 n2 n3 n4)⟩
theorem mk_fy.p {h : mm_H} {j : Nat} {v : Int32} (hj : j = 4 ∨ j = 5 ∨ j = 6 ∨ j = 8) : mk_fy h (mm_pI h 261 j v) := ⟨mk_ch.pI rfl, fun i n1 n2 n3 n4 => by rw [mp_I1, if_neg (by omega)]⟩
theorem mk_fy.pL {h : mm_H} {j : Nat} {v : Int64} : mk_fy h (mm_pL h 261 j v) := ⟨mk_ch.pL rfl, fun _ _ _ _ _ => rfl⟩
def mk_PY (s : mk_S) (h : mm_H) : Prop := h.1 261 3 = Int32.ofNat s.1 ∧ ∀ k, k < s.1 → h.1 262 k = Int32.ofNat (s.2 k)
theorem mk_PY.fy {s : mk_S} {h h' : mm_H} (q : mk_PY s h) (k : mk_fy h h') : mk_PY s h' := ⟨(k.2 3 (by omega) (by omega) (by omega) (by omega)).trans q.1, fun j hj => by rw [k.1.e1 (c := 262) (by decide)]; exact q.2 j hj⟩
theorem mi_signAt {s : mk_S} {i : Nat} {h : mm_H} (hs : mk_sgs s) (P : mk_PY s h) (hi : i ≤ 1000) : f_M_signAt (Int32.ofNat i) h = some (Int32.ofNat (if i < s.1 then s.2 i else 0)) := by
  have s1 := hs.1
  unfold f_M_signAt
  rw [P.1]
  by_cases c : i < s.1
  · rw [if_neg (fun z => absurd ((mn_le (by omega) (by omega)).mp z) (by omega)), mk_bs (mn_ix (show i < 1000 by omega) (by omega)), P.2 i c, if_pos c]
  · rw [if_pos ((mn_le (by omega) (by omega)).mpr (by omega)), if_neg c]; rfl
theorem mi_skip {s : mk_S} {p : Nat} {h : mm_H} (hs : mk_sgs s) (hp : p ≤ s.1) (P : mk_PY s h) (hat : h.1 261 4 = Int32.ofNat p) : mk_ok (mm_while (σ := mm_H) (ρ := mm_H) (fun s10 => if (s10.1 261 3) ≤ (s10.1 261 4) then (some (Sum.inr s10)) else ((mm_ix (s10.1 261 4) 1000).bind fun k16 => if (s10.1 262 k16) = 32 then (some (Sum.inl (mm_pI s10 261 4 ((s10.1 261 4) + 1)))) else ((mm_ix (s10.1 261 4) 1000).bind fun k23 => if (s10.1 262 k23) = 10 then (some (Sum.inl (mm_pI s10 261 4 ((s10.1 261 4) + 1)))) else (some (Sum.inr s10))))) h) (fun v => mk_fy h v ∧ v.1 261 4 = Int32.ofNat (mk_to mk_bl s p)) := by
  have s1 := hs.1
  refine mk_ok.lp (fun v : mm_H => ∃ i, i ≤ s.1 ∧ mk_to mk_bl s i = mk_to mk_bl s p ∧ mk_fy h v ∧ v.1 261 4 = Int32.ofNat i) (fun v => s.1 - (v.1 261 4).toInt.toNat) ⟨p, hp, rfl, mk_fy.rf, hat⟩ (fun v hv => ?_)
  obtain ⟨i, hi, e, k, a⟩ := hv
  have P1 := P.fy k
  rw [P1.1, a]
  by_cases c : s.1 ≤ i
  · rw [if_pos ((mn_le (by omega) (by omega)).mpr c)]
    refine mk_ok.lpr ⟨k, ?_⟩
    rw [← e, mk_to_n c]; exact a
  · rw [if_neg (fun z => c ((mn_le (by omega) (by omega)).mp z)), mk_bs (mn_ix (show i < 1000 by omega) (by omega)), P1.2 i (by omega)]
    have sl := mk_sign_lt hs (k := i) (by omega)
    have E10 : (Int32.ofNat (s.2 i) = 10) ↔ s.2 i = 10 := mn_eql (b := 10) (show s.2 i < 4294967296 by omega) (by decide)
    have E32 : (Int32.ofNat (s.2 i) = 32) ↔ s.2 i = 32 := mn_eql (b := 32) (show s.2 i < 4294967296 by omega) (by decide)
    have go : mk_bl (s.2 i) = true → mk_ok (some (Sum.inl (mm_pI v 261 4 (Int32.ofNat i + 1)) : mm_H ⊕ mm_H)) (fun x => (∃ s', x = Sum.inl s' ∧ (∃ i, i ≤ s.1 ∧ mk_to mk_bl s i = mk_to mk_bl s p ∧ mk_fy h s' ∧ s'.1 261 4 = Int32.ofNat i) ∧ s.1 - (s'.1 261 4).toInt.toNat < s.1 - (Int32.ofNat i).toInt.toNat) ∨ ∃ r, x = Sum.inr r ∧ mk_fy h r ∧ r.1 261 4 = Int32.ofNat (mk_to mk_bl s p)) := by
      intro b
      have at' : (mm_pI v 261 4 (Int32.ofNat i + 1)).1 261 4 = Int32.ofNat (i + 1) := by rw [mp_I1, if_pos ⟨rfl, rfl⟩]; exact mn_addl 1 i
      refine ⟨_, rfl, Or.inl ⟨_, rfl, ⟨i + 1, by omega, by rw [← e, mk_to_s (by omega) b], k.tr (mk_fy.p (Or.inl rfl)), at'⟩, ?_⟩⟩
      rw [at', Int32.toInt_ofNat_of_lt (by omega), Int32.toInt_ofNat_of_lt (by omega)]
      omega
    by_cases c1 : s.2 i = 32
    · rw [if_pos (E32.mpr c1)]
      exact go (mk_bl_iff.mpr (Or.inr c1))
    · rw [if_neg (fun z => c1 (E32.mp z)), mk_bs (mn_ix (show i < 1000 by omega) (by omega)), P1.2 i (by omega)]
      by_cases c2 : s.2 i = 10
      · rw [if_pos (E10.mpr c2)]
        exact go (mk_bl_iff.mpr (Or.inl c2))
      · rw [if_neg (fun z => c2 (E10.mp z))]
        have nb : mk_bl (s.2 i) = false := by
          cases q : mk_bl (s.2 i)
          · rfl
          · exact absurd (mk_bl_iff.mp q) (by omega)
        refine mk_ok.lpr ⟨k, ?_⟩
        rw [← e, mk_to_f nb]; exact a
theorem mi_scanWord {s : mk_S} {b : Nat} {h : mm_H} (hs : mk_sgs s) (hb : b < s.1) (P : mk_PY s h) (hat : h.1 261 4 = Int32.ofNat b) (hpl : h.1 261 5 = Int32.ofNat b) (h7 : h.2.1 261 7 = 0) : mk_ok (mm_while (σ := mm_H) (ρ := mm_H) (fun s132 => (f_M_signAt (s132.1 261 4) s132).bind fun v139 => if v139 < 97 then (some (Sum.inr s132)) else ((f_M_signAt (s132.1 261 4) s132).bind fun v141 => if 122 < v141 then (some (Sum.inr s132)) else ((if 8 ≤ ((s132.1 261 4) - (s132.1 261 5)) then (some s132) else ((f_M_signAt (s132.1 261 4) s132).bind fun v145 => some (mm_pL s132 261 7 ((((s132.2.1 261 7) * 27) + (Int32.toInt64 v145)) - 96))) : Option mm_H).bind fun j142 => some (Sum.inl (mm_pI j142 261 4 ((j142.1 261 4) + 1)))))) h) (fun v => mk_fy h v ∧ v.1 261 4 = Int32.ofNat (mk_to mk_lt s b) ∧ v.1 261 5 = Int32.ofNat b ∧ v.2.1 261 7 = Int64.ofNat (mk_code 27 (mk_wd s b) (min 8 (mk_to mk_lt s b - b)))) := by
  have s1 := hs.1
  have tol := (mk_to_a (f := mk_lt) (s := s) b)
  refine mk_ok.lp (fun v : mm_H => ∃ i, b ≤ i ∧ i ≤ s.1 ∧ mk_to mk_lt s i = mk_to mk_lt s b ∧ mk_fy h v ∧ v.1 261 4 = Int32.ofNat i ∧ v.1 261 5 = Int32.ofNat b ∧ v.2.1 261 7 = Int64.ofNat (mk_code 27 (mk_wd s b) (min 8 (i - b)))) (fun v => s.1 - (v.1 261 4).toInt.toNat) ⟨b, Nat.le_refl _, by omega, rfl, mk_fy.rf, hat, hpl, by rw [h7, Nat.sub_self]; rfl⟩ (fun v hv => ?_)
  obtain ⟨i, hi0, hi, e, k, a, pl, w6⟩ := hv
  have P1 := P.fy k
  have sA := mi_signAt hs P1 (i := i) (by omega)
  rw [a, mk_bs sA]
  have ex : mk_to mk_lt s i = i → mk_ok (some (Sum.inr v : mm_H ⊕ mm_H)) (fun x => (∃ s', x = Sum.inl s' ∧ (∃ i, b ≤ i ∧ i ≤ s.1 ∧ mk_to mk_lt s i = mk_to mk_lt s b ∧ mk_fy h s' ∧ s'.1 261 4 = Int32.ofNat i ∧ s'.1 261 5 = Int32.ofNat b ∧ s'.2.1 261 7 = Int64.ofNat (mk_code 27 (mk_wd s b) (min 8 (i - b)))) ∧ s.1 - (s'.1 261 4).toInt.toNat < s.1 - (Int32.ofNat i).toInt.toNat) ∨ ∃ r, x = Sum.inr r ∧ mk_fy h r ∧ r.1 261 4 = Int32.ofNat (mk_to mk_lt s b) ∧ r.1 261 5 = Int32.ofNat b ∧ r.2.1 261 7 = Int64.ofNat (mk_code 27 (mk_wd s b) (min 8 (mk_to mk_lt s b - b)))) := by
    intro q
    have ei : mk_to mk_lt s b = i := by rw [← e, q]
    exact mk_ok.lpr ⟨k, by rw [ei]; exact a, pl, by rw [ei]; exact w6⟩
  by_cases c : s.1 ≤ i
  · rw [if_neg (show ¬ i < s.1 by omega), if_pos (show Int32.ofNat 0 < 97 by decide)]
    exact ex (mk_to_n c)
  · have sl := mk_sign_lt hs (k := i) (by omega)
    have nolt : ¬ (97 ≤ s.2 i ∧ s.2 i ≤ 122) → mk_to mk_lt s i = i := fun z => by
      refine mk_to_f ?_
      cases q : mk_lt (s.2 i)
      · rfl
      · exact absurd (mk_lt_iff.mp q) z
    rw [if_pos (show i < s.1 by omega)] at sA ⊢
    by_cases c1 : s.2 i < 97
    · rw [if_pos ((mn_ltl (b := 97) (show s.2 i < 2147483648 by omega) (by decide)).mpr c1)]
      exact ex (nolt (by omega))
    · rw [if_neg (fun z => c1 ((mn_ltl (b := 97) (show s.2 i < 2147483648 by omega) (by decide)).mp z)), mk_bs sA]
      by_cases c2 : 122 < s.2 i
      · rw [if_pos ((mn_llt (b := 122) (show s.2 i < 2147483648 by omega) (by decide)).mpr c2)]
        exact ex (nolt (by omega))
      · rw [if_neg (fun z => c2 ((mn_llt (b := 122) (show s.2 i < 2147483648 by omega) (by decide)).mp z)), pl, mn_sub hi0]
        have l : mk_lt (s.2 i) = true := mk_lt_iff.mpr ⟨by omega, by omega⟩
        have le8 : (8 ≤ Int32.ofNat (i - b)) ↔ 8 ≤ i - b := mn_lle (b := 8) (show i - b < 2147483648 by omega) (by decide)
        refine mk_ok.bind (Q := fun v : mm_H => mk_fy h v ∧ v.1 261 4 = Int32.ofNat i ∧ v.1 261 5 = Int32.ofNat b ∧ v.2.1 261 7 = Int64.ofNat (mk_code 27 (mk_wd s b) (min 8 (i + 1 - b)))) ?_ (fun v' ⟨b1, b2, b3, b4⟩ => ?_)
        · by_cases c3 : 8 ≤ i - b
          · rw [if_pos (le8.mpr c3)]
            refine mk_ok.ret ⟨k, a, pl, ?_⟩
            rw [w6, show min 8 (i - b) = min 8 (i + 1 - b) by omega]
          · rw [if_neg (fun z => c3 (le8.mp z)), mk_bs sA]
            have cv : v.2.1 261 7 * 27 + (Int32.ofNat (s.2 i)).toInt64 - 96 = Int64.ofNat (mk_code 27 (mk_wd s b) (min 8 (i + 1 - b))) := by
              have wdv : mk_wd s b (i - b + 1) = s.2 i - 96 := by
                unfold mk_wd
                rw [if_neg (by omega), show b + (i - b + 1) - 1 = i by omega]
              rw [mn_3264 (by omega), w6, show (27 : Int64) = Int64.ofNat 27 from rfl, show (96 : Int64) = Int64.ofNat 96 from rfl, mn_mul64, mn_ladd64, mn_sub64 (by omega), show min 8 (i + 1 - b) = i - b + 1 by omega, show min 8 (i - b) = i - b by omega, mk_code_s, wdv]
              congr 1
              omega
            rw [cv]
            refine mk_ok.ret ⟨k.tr mk_fy.pL, a, pl, ?_⟩
            rw [mp_L2, if_pos ⟨rfl, rfl⟩]
        · rw [b2, show Int32.ofNat i + 1 = Int32.ofNat (i + 1) from mn_addl 1 i]
          refine mk_ok.lpl ⟨⟨i + 1, by omega, by omega, by rw [← e, mk_to_s (by omega) l], b1.tr (mk_fy.p (Or.inl rfl)), ?_, ?_, b4⟩, ?_⟩
          · rw [mp_I1, if_pos ⟨rfl, rfl⟩]
          · rw [mp_I1, if_neg (by omega)]; exact b3
          · rw [mp_I1, if_pos ⟨rfl, rfl⟩, Int32.toInt_ofNat_of_lt (by omega), Int32.toInt_ofNat_of_lt (by omega)]
            omega
theorem mi_scanNumber {s : mk_S} {b : Nat} {h : mm_H} (hs : mk_sgs s) (hb : b < s.1) (P : mk_PY s h) (hat : h.1 261 4 = Int32.ofNat b) (hpl : h.1 261 5 = Int32.ofNat b) (h7 : h.1 261 8 = 0) : mk_ok (mm_while (σ := mm_H) (ρ := mm_H) (fun s89 => (f_M_signAt (s89.1 261 4) s89).bind fun v96 => if v96 < 48 then (some (Sum.inr s89)) else ((f_M_signAt (s89.1 261 4) s89).bind fun v98 => if 57 < v98 then (some (Sum.inr s89)) else ((if 4 ≤ ((s89.1 261 4) - (s89.1 261 5)) then (some s89) else ((f_M_signAt (s89.1 261 4) s89).bind fun v102 => some (mm_pI s89 261 8 ((((s89.1 261 8) * 10) + v102) - 48))) : Option mm_H).bind fun j99 => some (Sum.inl (mm_pI j99 261 4 ((j99.1 261 4) + 1)))))) h) (fun v => mk_fy h v ∧ v.1 261 4 = Int32.ofNat (mk_to mk_dgt s b) ∧ v.1 261 5 = Int32.ofNat b ∧ v.1 261 8 = Int32.ofNat (mk_dec s b (min 4 (mk_to mk_dgt s b - b)))) := by
  have s1 := hs.1
  have tol := (mk_to_a (f := mk_dgt) (s := s) b)
  refine mk_ok.lp (fun v : mm_H => ∃ i, b ≤ i ∧ i ≤ s.1 ∧ mk_to mk_dgt s i = mk_to mk_dgt s b ∧ mk_fy h v ∧ v.1 261 4 = Int32.ofNat i ∧ v.1 261 5 = Int32.ofNat b ∧ v.1 261 8 = Int32.ofNat (mk_dec s b (min 4 (i - b)))) (fun v => s.1 - (v.1 261 4).toInt.toNat) ⟨b, Nat.le_refl _, by omega, rfl, mk_fy.rf, hat, hpl, by rw [h7, Nat.sub_self]; rfl⟩ (fun v hv => ?_)
  obtain ⟨i, hi0, hi, e, k, a, pl, w6⟩ := hv
  have P1 := P.fy k
  have sA := mi_signAt hs P1 (i := i) (by omega)
  rw [a, mk_bs sA]
  have ex : mk_to mk_dgt s i = i → mk_ok (some (Sum.inr v : mm_H ⊕ mm_H)) (fun x => (∃ s', x = Sum.inl s' ∧ (∃ i, b ≤ i ∧ i ≤ s.1 ∧ mk_to mk_dgt s i = mk_to mk_dgt s b ∧ mk_fy h s' ∧ s'.1 261 4 = Int32.ofNat i ∧ s'.1 261 5 = Int32.ofNat b ∧ s'.1 261 8 = Int32.ofNat (mk_dec s b (min 4 (i - b)))) ∧ s.1 - (s'.1 261 4).toInt.toNat < s.1 - (Int32.ofNat i).toInt.toNat) ∨ ∃ r, x = Sum.inr r ∧ mk_fy h r ∧ r.1 261 4 = Int32.ofNat (mk_to mk_dgt s b) ∧ r.1 261 5 = Int32.ofNat b ∧ r.1 261 8 = Int32.ofNat (mk_dec s b (min 4 (mk_to mk_dgt s b - b)))) := by
    intro q
    have ei : mk_to mk_dgt s b = i := by rw [← e, q]
    exact mk_ok.lpr ⟨k, by rw [ei]; exact a, pl, by rw [ei]; exact w6⟩
  by_cases c : s.1 ≤ i
  · rw [if_neg (show ¬ i < s.1 by omega), if_pos (show Int32.ofNat 0 < 48 by decide)]
    exact ex (mk_to_n c)
  · have sl := mk_sign_lt hs (k := i) (by omega)
    have nolt : ¬ (48 ≤ s.2 i ∧ s.2 i ≤ 57) → mk_to mk_dgt s i = i := fun z => by
      refine mk_to_f ?_
      cases q : mk_dgt (s.2 i)
      · rfl
      · exact absurd (mk_dgt_iff.mp q) z
    rw [if_pos (show i < s.1 by omega)] at sA ⊢
    by_cases c1 : s.2 i < 48
    · rw [if_pos ((mn_ltl (b := 48) (show s.2 i < 2147483648 by omega) (by decide)).mpr c1)]
      exact ex (nolt (by omega))
    · rw [if_neg (fun z => c1 ((mn_ltl (b := 48) (show s.2 i < 2147483648 by omega) (by decide)).mp z)), mk_bs sA]
      by_cases c2 : 57 < s.2 i
      · rw [if_pos ((mn_llt (b := 57) (show s.2 i < 2147483648 by omega) (by decide)).mpr c2)]
        exact ex (nolt (by omega))
      · rw [if_neg (fun z => c2 ((mn_llt (b := 57) (show s.2 i < 2147483648 by omega) (by decide)).mp z)), pl, mn_sub hi0]
        have l : mk_dgt (s.2 i) = true := mk_dgt_iff.mpr ⟨by omega, by omega⟩
        have le8 : (4 ≤ Int32.ofNat (i - b)) ↔ 4 ≤ i - b := mn_lle (b := 4) (show i - b < 2147483648 by omega) (by decide)
        refine mk_ok.bind (Q := fun v : mm_H => mk_fy h v ∧ v.1 261 4 = Int32.ofNat i ∧ v.1 261 5 = Int32.ofNat b ∧ v.1 261 8 = Int32.ofNat (mk_dec s b (min 4 (i + 1 - b)))) ?_ (fun v' ⟨b1, b2, b3, b4⟩ => ?_)
        · by_cases c3 : 4 ≤ i - b
          · rw [if_pos (le8.mpr c3)]
            refine mk_ok.ret ⟨k, a, pl, ?_⟩
            rw [w6, show min 4 (i - b) = min 4 (i + 1 - b) by omega]
          · rw [if_neg (fun z => c3 (le8.mp z)), mk_bs sA]
            have cv : v.1 261 8 * 10 + Int32.ofNat (s.2 i) - 48 = Int32.ofNat (mk_dec s b (min 4 (i + 1 - b))) := by
              have st : mk_dec s b (i - b + 1) = mk_dec s b (i - b) * 10 + (s.2 (b + (i - b)) - 48) := rfl
              rw [w6, mn_mull 10, mn_add, show min 4 (i + 1 - b) = i - b + 1 by omega, show min 4 (i - b) = i - b by omega, st, show b + (i - b) = i by omega]
              refine (mn_subl (b := 48) (show 48 ≤ mk_dec s b (i - b) * 10 + s.2 i by omega)).trans ?_
              congr 1
              show mk_dec s b (i - b) * 10 + s.2 i - 48 = _
              omega
            rw [cv]
            refine mk_ok.ret ⟨k.tr (mk_fy.p (Or.inr (Or.inr (Or.inr rfl)))), ?_, ?_, ?_⟩
            · rw [mp_I1, if_neg (by omega)]; exact a
            · rw [mp_I1, if_neg (by omega)]; exact pl
            · rw [mp_I1, if_pos ⟨rfl, rfl⟩]
        · rw [b2, show Int32.ofNat i + 1 = Int32.ofNat (i + 1) from mn_addl 1 i]
          refine mk_ok.lpl ⟨⟨i + 1, by omega, by omega, by rw [← e, mk_to_s (by omega) l], b1.tr (mk_fy.p (Or.inl rfl)), ?_, ?_, ?_⟩, ?_⟩
          · rw [mp_I1, if_pos ⟨rfl, rfl⟩]
          · rw [mp_I1, if_neg (by omega)]; exact b3
          · rw [mp_I1, if_neg (by omega)]; exact b4
          · rw [mp_I1, if_pos ⟨rfl, rfl⟩, Int32.toInt_ofNat_of_lt (by omega), Int32.toInt_ofNat_of_lt (by omega)]
            omega
