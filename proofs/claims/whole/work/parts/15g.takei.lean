/-! the reference: its next token, what is asked of it -/
theorem mi_sgn {x : Nat} (hx : x < 127) : (mm_jp (fun (j67 : Unit) => (if Int32.ofNat x = 45 then (some 3) else (if Int32.ofNat x < 59 then (some 4) else (if 61 < Int32.ofNat x then (some 4) else (some 3))))) fun k69 => if Int32.ofNat x < 40 then (k69 ()) else (if Int32.ofNat x ≤ 43 then (some 3) else (k69 ())) : Option Int32) = some (Int32.ofNat (if mk_sgn x = true then 3 else 4)) := (by decide +kernel : ∀ x : Nat, x < 127 → (mm_jp (fun (j67 : Unit) => (if Int32.ofNat x = 45 then (some 3) else (if Int32.ofNat x < 59 then (some 4) else (if 61 < Int32.ofNat x then (some 4) else (some 3))))) fun k69 => if Int32.ofNat x < 40 then (k69 ()) else (if Int32.ofNat x ≤ 43 then (some 3) else (k69 ())) : Option Int32) = some (Int32.ofNat (if mk_sgn x = true then 3 else 4))) x hx
theorem mi_tnext {s : mk_S} {p : Nat} {h : mm_H} (hs : mk_sgs s) (hp : p ≤ s.1) (P : mk_PY s h) (hat : h.1 261 4 = Int32.ofNat p) : mk_ok (f_M_nextToken h) (fun v => mk_fy h v ∧ mk_TKM s (mk_to mk_bl s p) v) := by
  have s1 := hs.1
  have tol := mk_to_a (f := mk_bl) (s := s) p
  have bn := tol.2.1 hp
  unfold f_M_nextToken
  refine mk_ok.bind (Q := fun v => mk_fy h v ∧ v.1 261 4 = Int32.ofNat (mk_to mk_bl s p)) ?_ (fun j1 ⟨k1, a1⟩ => ?_)
  · rw [P.1, hat]
    by_cases c : s.1 ≤ p
    · rw [if_pos ((mn_le (by omega) (by omega)).mpr c), mk_to_n c]
      exact mk_ok.ret ⟨mk_fy.rf, hat⟩
    · have ix : mm_ix (Int32.ofNat p) 1000 = some p := mn_ix (show p < 1000 by omega) (by omega)
      rw [if_neg (fun z => c ((mn_le (by omega) (by omega)).mp z)), mk_bs ix, P.2 p (by omega)]
      have sl := mk_sign_lt hs (k := p) (by omega)
      simp only [mm_jp, mm_let]
      have E10 : (Int32.ofNat (s.2 p) = 10) ↔ s.2 p = 10 := mn_eql (b := 10) (show s.2 p < 4294967296 by omega) (by decide)
      have E32 : (Int32.ofNat (s.2 p) = 32) ↔ s.2 p = 32 := mn_eql (b := 32) (show s.2 p < 4294967296 by omega) (by decide)
      have go : mk_bl (s.2 p) = true → mk_ok ((mm_while (σ := mm_H) (ρ := mm_H) (fun s10 => if (s10.1 261 3) ≤ (s10.1 261 4) then (some (Sum.inr s10)) else ((mm_ix (s10.1 261 4) 1000).bind fun k16 => if (s10.1 262 k16) = 32 then (some (Sum.inl (mm_pI s10 261 4 ((s10.1 261 4) + 1)))) else ((mm_ix (s10.1 261 4) 1000).bind fun k23 => if (s10.1 262 k23) = 10 then (some (Sum.inl (mm_pI s10 261 4 ((s10.1 261 4) + 1)))) else (some (Sum.inr s10))))) (mm_pI h 261 4 (Int32.ofNat p + 1))).bind fun v13 => some v13) (fun v => mk_fy h v ∧ v.1 261 4 = Int32.ofNat (mk_to mk_bl s p)) := by
        intro b
        have f1 : mk_fy h (mm_pI h 261 4 (Int32.ofNat p + 1)) := mk_fy.p (Or.inl rfl)
        have sk := mi_skip (p := p + 1) hs (by omega) (P.fy f1) (by rw [mp_I1, if_pos ⟨rfl, rfl⟩]; exact mn_addl 1 p)
        refine mk_ok.bind sk (fun v ⟨x1, x2⟩ => mk_ok.ret ⟨f1.tr x1, ?_⟩)
        rw [mk_to_s (by omega) b]; exact x2
      by_cases c1 : s.2 p = 32
      · rw [if_pos (E32.mpr c1)]
        exact go (mk_bl_iff.mpr (Or.inr c1))
      · rw [if_neg (fun z => c1 (E32.mp z)), mk_bs ix, P.2 p (by omega)]
        by_cases c2 : s.2 p = 10
        · rw [if_pos (E10.mpr c2)]
          exact go (mk_bl_iff.mpr (Or.inl c2))
        · rw [if_neg (fun z => c2 (E10.mp z))]
          have nb : mk_bl (s.2 p) = false := by
            cases q : mk_bl (s.2 p)
            · rfl
            · exact absurd (mk_bl_iff.mp q) (by omega)
          rw [mk_to_f nb]
          exact mk_ok.ret ⟨mk_fy.rf, hat⟩
  generalize mk_to mk_bl s p = b at *
  have f49 : mk_fy h (mm_pI (mm_pL (mm_pI j1 261 5 (j1.1 261 4)) 261 7 0) 261 8 0) := ((k1.tr (mk_fy.p (Or.inr (Or.inl rfl)))).tr mk_fy.pL).tr (mk_fy.p (Or.inr (Or.inr (Or.inr rfl))))
  have a49 : (mm_pI (mm_pL (mm_pI j1 261 5 (j1.1 261 4)) 261 7 0) 261 8 0).1 261 4 = Int32.ofNat b := by rw [mp_I1, if_neg (by omega), mp_L1, mp_I1, if_neg (by omega)]; exact a1
  have p49 : (mm_pI (mm_pL (mm_pI j1 261 5 (j1.1 261 4)) 261 7 0) 261 8 0).1 261 5 = Int32.ofNat b := by rw [mp_I1, if_neg (by omega), mp_L1, mp_I1, if_pos ⟨rfl, rfl⟩]; exact a1
  have w49 : (mm_pI (mm_pL (mm_pI j1 261 5 (j1.1 261 4)) 261 7 0) 261 8 0).2.1 261 7 = 0 := by rw [mp_I2, mp_L2, if_pos ⟨rfl, rfl⟩]
  have t49 : (mm_pI (mm_pL (mm_pI j1 261 5 (j1.1 261 4)) 261 7 0) 261 8 0).1 261 8 = 0 := by rw [mp_I1, if_pos ⟨rfl, rfl⟩]
  refine mk_ok.let (mk_ok.let (mk_ok.let ?_))
  revert f49 a49 p49 w49 t49
  generalize mm_pI (mm_pL (mm_pI j1 261 5 (j1.1 261 4)) 261 7 0) 261 8 0 = h49
  intro f49 a49 p49 w49 t49
  have P49 := P.fy f49
  rw [a49, P49.1]
  by_cases cb : b = s.1
  · rw [if_pos (by rw [cb])]
    have en : mk_en s b = b := by unfold mk_en; rw [if_pos (by omega)]
    have kd : mk_kd s b = 0 := mk_kd_0.mpr (by omega)
    have ff : mk_fy h49 (mm_pI h49 261 6 0) := mk_fy.p (Or.inr (Or.inr (Or.inl rfl)))
    have Pf := P49.fy ff
    refine mk_ok.let (mk_ok.ret ⟨f49.tr ff, by omega, Pf.2, Pf.1, ?_, ?_, ?_, fun z => by omega, fun z => by omega⟩)
    · rw [mp_I1, if_neg (by omega), en]; exact a49
    · rw [mp_I1, if_neg (by omega)]; exact p49
    · rw [mp_I1, if_pos ⟨rfl, rfl⟩, kd]; rfl
  · have cb' : b < s.1 := by omega
    have ix : mm_ix (Int32.ofNat b) 1000 = some b := mn_ix (show b < 1000 by omega) (by omega)
    have sl := mk_sign_lt hs cb'
    rw [if_neg (fun z => cb ((mn_eq (by omega) (by omega)).mp z)), mk_bs ix, P49.2 b cb']
    refine mk_ok.let ?_
    rw [mi_sgn sl]
    simp only [mm_jp, mm_let, Option.bind_some]
    have L1 : (Int32.ofNat (s.2 b) < 97) ↔ s.2 b < 97 := mn_ltl (b := 97) (show s.2 b < 2147483648 by omega) (by decide)
    have L2 : (122 < Int32.ofNat (s.2 b)) ↔ 122 < s.2 b := mn_llt (b := 122) (show s.2 b < 2147483648 by omega) (by decide)
    have D1 : (Int32.ofNat (s.2 b) < 48) ↔ s.2 b < 48 := mn_ltl (b := 48) (show s.2 b < 2147483648 by omega) (by decide)
    have D2 : (57 < Int32.ofNat (s.2 b)) ↔ 57 < s.2 b := mn_llt (b := 57) (show s.2 b < 2147483648 by omega) (by decide)
    by_cases cl : mk_lt (s.2 b) = true
    · obtain ⟨l1, l2⟩ := mk_lt_iff.mp cl
      have en : mk_en s b = mk_to mk_lt s b := by unfold mk_en; rw [if_neg (by omega), if_pos cl]
      have kd : mk_kd s b = if mk_to mk_lt s b - b ≤ 8 then 1 else 4 := by unfold mk_kd; rw [if_neg (by omega), if_pos cl, en]
      have wd0 : mk_wd s b 0 = mk_to mk_lt s b - b := by unfold mk_wd; rw [if_pos rfl, en]
      have tb := mk_to_a (f := mk_lt) (s := s) b
      have tl := tb.2.1 (by omega)
      rw [if_neg (fun z => by have := L1.mp z; omega), if_neg (fun z => by have := L2.mp z; omega)]
      refine mk_ok.bind (mi_scanWord hs cb' P49 a49 p49 w49) (fun v ⟨x1, x2, x3, x5⟩ => ?_)
      have le8 : (Int32.ofNat (mk_to mk_lt s b - b) ≤ 8) ↔ mk_to mk_lt s b - b ≤ 8 := mn_lel (b := 8) (show mk_to mk_lt s b - b < 2147483648 by omega) (by decide)
      rw [x2, x3, mn_sub tb.1]
      refine mk_ok.bs (v := Int32.ofNat (mk_kd s b)) ?_ ?_
      · rw [kd]
        by_cases c : mk_to mk_lt s b - b ≤ 8
        · rw [if_pos (le8.mpr c), if_pos c]; rfl
        · rw [if_neg (fun z => c (le8.mp z)), if_neg c]; rfl
      · have ff : mk_fy v (mm_pI v 261 6 (Int32.ofNat (mk_kd s b))) := mk_fy.p (Or.inr (Or.inr (Or.inl rfl)))
        have Pf := P49.fy (x1.tr ff)
        refine mk_ok.ret ⟨f49.tr (x1.tr ff), by omega, Pf.2, Pf.1, ?_, ?_, ?_, fun z => ?_, fun z => ?_⟩
        · rw [mp_I1, if_neg (by omega), en]; exact x2
        · rw [mp_I1, if_neg (by omega)]; exact x3
        · rw [mp_I1, if_pos ⟨rfl, rfl⟩]
        · rw [mp_I2, x5]
          unfold mk_c27
          rw [wd0, show min 8 (mk_to mk_lt s b - b) = mk_to mk_lt s b - b by rw [kd] at z; split at z <;> omega]
        · rw [kd] at z
          split at z <;> omega
    · have nl : ¬ (97 ≤ s.2 b ∧ s.2 b ≤ 122) := fun z => cl (mk_lt_iff.mpr z)
      by_cases cd : mk_dgt (s.2 b) = true
      · obtain ⟨l1, l2⟩ := mk_dgt_iff.mp cd
        have en : mk_en s b = mk_to mk_dgt s b := by unfold mk_en; rw [if_neg (by omega), if_neg cl, if_pos cd]
        have kd : mk_kd s b = if mk_to mk_dgt s b - b ≤ 4 then 2 else 4 := by unfold mk_kd; rw [if_neg (by omega), if_neg cl, if_pos cd, en]
        have tb := mk_to_a (f := mk_dgt) (s := s) b
        have tl := tb.2.1 (by omega)
        rw [if_pos (L1.mpr (by omega)), if_neg (fun z => by have := D1.mp z; omega), if_neg (fun z => by have := D2.mp z; omega)]
        refine mk_ok.bind (mi_scanNumber hs cb' P49 a49 p49 t49) (fun v ⟨x1, x2, x3, x5⟩ => ?_)
        have le8 : (Int32.ofNat (mk_to mk_dgt s b - b) ≤ 4) ↔ mk_to mk_dgt s b - b ≤ 4 := mn_lel (b := 4) (show mk_to mk_dgt s b - b < 2147483648 by omega) (by decide)
        rw [x2, x3, mn_sub tb.1]
        refine mk_ok.bs (v := Int32.ofNat (mk_kd s b)) ?_ ?_
        · rw [kd]
          by_cases c : mk_to mk_dgt s b - b ≤ 4
          · rw [if_pos (le8.mpr c), if_pos c]; rfl
          · rw [if_neg (fun z => c (le8.mp z)), if_neg c]; rfl
        · have ff : mk_fy v (mm_pI v 261 6 (Int32.ofNat (mk_kd s b))) := mk_fy.p (Or.inr (Or.inr (Or.inl rfl)))
          have Pf := P49.fy (x1.tr ff)
          refine mk_ok.ret ⟨f49.tr (x1.tr ff), by omega, Pf.2, Pf.1, ?_, ?_, ?_, fun z => ?_, fun z => ?_⟩
          · rw [mp_I1, if_neg (by omega), en]; exact x2
          · rw [mp_I1, if_neg (by omega)]; exact x3
          · rw [mp_I1, if_pos ⟨rfl, rfl⟩]
          · rw [kd] at z
            split at z <;> omega
          · rw [mp_I1, if_neg (by omega), x5]
            unfold mk_nu
            rw [en, show min 4 (mk_to mk_dgt s b - b) = mk_to mk_dgt s b - b by rw [kd] at z; split at z <;> omega]
      · have en : mk_en s b = b + 1 := by unfold mk_en; rw [if_neg (by omega), if_neg cl, if_neg cd]
        have kd : mk_kd s b = if mk_sgn (s.2 b) = true then 3 else 4 := by unfold mk_kd; rw [if_neg (by omega), if_neg cl, if_neg cd]
        have nd : ¬ (48 ≤ s.2 b ∧ s.2 b ≤ 57) := fun z => cd (mk_dgt_iff.mpr z)
        have k1 : ¬ mk_kd s b = 1 := by rw [kd]; split <;> omega
        have k2 : ¬ mk_kd s b = 2 := by rw [kd]; split <;> omega
        have body : mk_ok (some (mm_pI (mm_pI h49 261 4 (Int32.ofNat b + 1)) 261 6 (Int32.ofNat (if mk_sgn (s.2 b) = true then 3 else 4)))) (fun v => mk_fy h v ∧ mk_TKM s b v) := by
          rw [← kd]
          have ff : mk_fy h49 (mm_pI (mm_pI h49 261 4 (Int32.ofNat b + 1)) 261 6 (Int32.ofNat (mk_kd s b))) := (mk_fy.p (Or.inl rfl)).tr (mk_fy.p (Or.inr (Or.inr (Or.inl rfl))))
          have Pf := P49.fy ff
          refine mk_ok.ret ⟨f49.tr ff, by omega, Pf.2, Pf.1, ?_, ?_, ?_, fun z => absurd z k1, fun z => absurd z k2⟩
          · rw [mp_I1, if_neg (by omega), mp_I1, if_pos ⟨rfl, rfl⟩, en]; exact mn_addl 1 b
          · rw [mp_I1, if_neg (by omega), mp_I1, if_neg (by omega)]; exact p49
          · rw [mp_I1, if_pos ⟨rfl, rfl⟩]
        by_cases c1 : s.2 b < 97
        · rw [if_pos (L1.mpr c1)]
          by_cases c2 : s.2 b < 48
          · rw [if_pos (D1.mpr c2)]; exact body
          · rw [if_neg (fun z => c2 (D1.mp z)), if_pos (D2.mpr (by omega))]; exact body
        · rw [if_neg (fun z => c1 (L1.mp z)), if_pos (L2.mpr (by omega))]
          rw [if_neg (fun z => by have := D1.mp z; omega), if_pos (D2.mpr (by omega))]; exact body
/-! what is asked of the reference's token, and taken -/
theorem mk_TKM.PY {s : mk_S} {b : Nat} {h : mm_H} (T : mk_TKM s b h) : mk_PY s h := ⟨T.2.2.1, T.2.1⟩
def mk_NM1 (s : mk_S) (b : Nat) (h v : mm_H) : Prop := mk_fy h v ∧ mk_TKM s (mk_ntk s b) v
theorem mi_ttake {s : mk_S} {b : Nat} {h : mm_H} (hs : mk_sgs s) (T : mk_TKM s b h) : mk_ok (f_M_nextToken h) (fun v => mk_NM1 s b h v) := mi_tnext hs (mk_en_le T.1).2 T.PY T.2.2.2.1
theorem mi_isWord {s : mk_S} {b i : Nat} {h : mm_H} (T : mk_TKM s b h) (hi : i < 28) : (mk_isw s b i → f_M_isWord (mk_k27 i) h = some 1) ∧ (¬ mk_isw s b i → f_M_isWord (mk_k27 i) h = some 0) := by
  obtain ⟨t0, t1, t2, t3, t4, t5, t6, t7⟩ := T
  unfold f_M_isWord
  rw [t5]
  have k1 : (Int32.ofNat (mk_kd s b) = 1) ↔ mk_kd s b = 1 := mn_eql (b := 1) (show mk_kd s b < 4294967296 by have := mk_kd_le s b; omega) (by decide)
  by_cases k : mk_kd s b = 1
  · rw [if_pos (k1.mpr k), t6 k]
    refine ⟨fun z => if_pos ((mp_lcmp _ _).mpr ((mk_isw_M hi k).mpr z)), fun z => if_neg (fun e => z ((mk_isw_M hi k).mp ((mp_lcmp _ _).mp e)))⟩
  · rw [if_neg (fun z => k (k1.mp z))]
    exact ⟨fun z => absurd z.1 k, fun _ => rfl⟩
theorem mi_isSign {s : mk_S} {b c : Nat} {h : mm_H} (hs : mk_sgs s) (T : mk_TKM s b h) (hc : c < 127) : f_M_isSign (Int32.ofNat c) h = some (Int32.ofNat (mk_iss s b c).toNat) := by
  have s1 := hs.1
  obtain ⟨t0, t1, t2, t3, t4, t5, t6, t7⟩ := T
  unfold f_M_isSign
  have k1 : (Int32.ofNat (mk_kd s b) = 3) ↔ mk_kd s b = 3 := mn_eql (b := 3) (show mk_kd s b < 4294967296 by have := mk_kd_le s b; omega) (by decide)
  rw [t5]
  by_cases k : mk_kd s b = 3
  · have bl := mk_kd_3 k
    rw [if_pos (k1.mpr k), t4, mk_bs (mn_ix (show b < 1000 by omega) (by omega)), t1 b bl]
    have sl := mk_sign_lt hs bl
    unfold mk_iss
    rw [decide_eq_true k, Bool.true_and]
    by_cases e : s.2 b = c
    · rw [if_pos (by rw [e]), decide_eq_true e]; rfl
    · rw [if_neg (fun z => e ((mn_eq (by omega) (by omega)).mp z)), decide_eq_false e]; rfl
  · rw [if_neg (fun z => k (k1.mp z))]
    unfold mk_iss
    rw [decide_eq_false k, Bool.false_and]; rfl
/-- the reference has found the fault v -/
def mk_FM (v : Int32) (h h' : mm_H) : Prop := mk_ch (fun c => c = 261) h h' ∧ (∀ j, ¬ j = 4 → ¬ j = 5 → ¬ j = 6 → ¬ j = 8 → ¬ j = 9 → ¬ j = 41 → h'.1 261 j = h.1 261 j) ∧ h'.1 261 9 = v
theorem mk_FM.fy {v : Int32} {h h1 h2 : mm_H} (k : mk_fy h h1) (q : mk_FM v h1 h2) : mk_FM v h h2 := ⟨k.1.tr q.1 (fun _ z => z) (fun _ z => z), fun j n1 n2 n3 n4 n5 n6 => (q.2.1 j n1 n2 n3 n4 n5 n6).trans (k.2 j n1 n2 n3 n4), q.2.2⟩
theorem mi_fails {s : mk_S} {b k : Nat} {h : mm_H} (T : mk_TKM s b h) : mk_ok (f_M_fails (Int32.ofNat k) h) (fun v => v.1 = 0 ∧ mk_FM (mk_fv k b) h v.2) := by
  unfold f_M_fails
  rw [T.2.2.2.2.1]
  refine mk_ok.let (mk_ok.ret ⟨rfl, mk_ch.pI rfl, fun j n1 n2 n3 n4 n5 n6 => ?_, ?_⟩)
  · rw [mp_I1, if_neg (by omega)]
  · rw [mp_I1, if_pos ⟨rfl, rfl⟩]; rfl
theorem mi_closes1 {s : mk_S} {b : Nat} {h : mm_H} (hs : mk_sgs s) (T : mk_TKM s b h) (e : mk_iss s b 59 = true) : mk_ok (f_M_closes h) (fun v => v.1 = 1 ∧ mk_NM1 s b h v.2) := by
  unfold f_M_closes
  refine mk_ok.bs (mi_isSign (c := 59) hs T (by decide)) ?_
  rw [e, if_neg (show ¬ Int32.ofNat true.toNat = 0 by decide)]
  exact mk_ok.bind (mi_ttake hs T) (fun v hv => mk_ok.ret ⟨rfl, hv⟩)
theorem mi_closes0 {s : mk_S} {b : Nat} {h : mm_H} (hs : mk_sgs s) (T : mk_TKM s b h) (e : mk_iss s b 59 = false) : mk_ok (f_M_closes h) (fun v => v.1 = 0 ∧ mk_FM (mk_fv 1 b) h v.2) := by
  unfold f_M_closes
  refine mk_ok.bs (mi_isSign (c := 59) hs T (by decide)) ?_
  rw [e, if_pos (show Int32.ofNat false.toNat = 0 from rfl)]
  refine mk_ok.bind (mi_fails (k := 1) T) (fun v ⟨a, q⟩ => ?_)
  rw [a]
  exact mk_ok.bs mk_bo0 (mk_ok.ret ⟨rfl, q⟩)
theorem mi_needsWord1 {s : mk_S} {b i : Nat} {h : mm_H} (hs : mk_sgs s) (T : mk_TKM s b h) (hi : i < 28) (e : mk_isw s b i) : mk_ok (f_M_needsWord (mk_k27 i) h) (fun v => v.1 = 1 ∧ mk_NM1 s b h v.2) := by
  unfold f_M_needsWord
  refine mk_ok.bs ((mi_isWord T hi).1 e) ?_
  rw [if_neg (show ¬ (1 : Int32) = 0 by decide)]
  exact mk_ok.bind (mi_ttake hs T) (fun v hv => mk_ok.ret ⟨rfl, hv⟩)
theorem mi_needsWord0 {s : mk_S} {b i : Nat} {h : mm_H} (T : mk_TKM s b h) (hi : i < 28) (e : ¬ mk_isw s b i) : mk_ok (f_M_needsWord (mk_k27 i) h) (fun v => v.1 = 0 ∧ mk_FM (mk_fv 1 b) h v.2) := by
  unfold f_M_needsWord
  refine mk_ok.bs ((mi_isWord T hi).2 e) ?_
  rw [if_pos (show (0 : Int32) = 0 from rfl)]
  refine mk_ok.bind (mi_fails (k := 1) T) (fun v ⟨a, q⟩ => ?_)
  rw [a]
  exact mk_ok.bs mk_bo0 (mk_ok.ret ⟨rfl, q⟩)
/-- behind a number taken: it is given -/
def mk_GV (v : Int32) (h h' : mm_H) : Prop := mk_ch (fun c => c = 261) h h' ∧ (∀ j, ¬ j = 4 → ¬ j = 5 → ¬ j = 6 → ¬ j = 8 → ¬ j = 41 → h'.1 261 j = h.1 261 j) ∧ h'.1 261 41 = v
theorem mi_needsNumber1 {s : mk_S} {b lo hi : Nat} {h : mm_H} (hs : mk_sgs s) (T : mk_TKM s b h) (hl : lo < 10000) (hh : hi < 10000) (e : mk_nf s b lo hi = 0) : mk_ok (f_M_needsNumber (Int32.ofNat lo) (Int32.ofNat hi) h) (fun v => v.1 = 1 ∧ mk_GV (Int32.ofNat (mk_nu s b)) h v.2 ∧ mk_TKM s (mk_ntk s b) v.2) := by
  unfold mk_nf at e
  have k : mk_kd s b = 2 := by
    by_cases k : mk_kd s b = 2
    · exact k
    · rw [if_neg k] at e; omega
  rw [if_pos k] at e
  have r : lo ≤ mk_nu s b ∧ mk_nu s b ≤ hi := by
    by_cases r : lo ≤ mk_nu s b ∧ mk_nu s b ≤ hi
    · exact r
    · rw [if_neg r] at e; omega
  have nl := mk_nu_lt k
  obtain ⟨t0, t1, t2, t3, t4, t5, t6, t7⟩ := T
  unfold f_M_needsNumber
  rw [t5, if_pos ((mn_eql (b := 2) (show mk_kd s b < 4294967296 by omega) (by decide)).mpr k), t7 k, mp_within, if_pos ⟨(mn_le (by omega) (by omega)).mpr r.1, (mn_le (by omega) (by omega)).mpr r.2⟩]
  refine mk_ok.bs rfl ?_
  rw [if_neg (show ¬ (1 : Int32) = 0 by decide)]
  refine mk_ok.let ?_
  have T3 : mk_PY s (mm_pI h 261 41 (Int32.ofNat (mk_nu s b))) := ⟨by rw [mp_I1, if_neg (by omega)]; exact t2, fun k hk => by rw [mp_I1, if_neg (by omega)]; exact t1 k hk⟩
  refine mk_ok.bind (mi_tnext hs (mk_en_le t0).2 T3 (by rw [mp_I1, if_neg (by omega)]; exact t3)) (fun v ⟨x1, x2⟩ => mk_ok.ret ⟨rfl, ⟨?_, fun j n1 n2 n3 n4 n5 => ?_, ?_⟩, x2⟩)
  · exact (mk_ch.pI (D := fun c => c = 261) rfl).tr x1.1 (fun _ z => z) (fun _ z => z)
  · rw [x1.2 j n1 n2 n3 n4, mp_I1, if_neg (by omega)]
  · rw [x1.2 41 (by omega) (by omega) (by omega) (by omega), mp_I1, if_pos ⟨rfl, rfl⟩]
theorem mi_needsNumber0 {s : mk_S} {b lo hi : Nat} {h : mm_H} (T : mk_TKM s b h) (hl : lo < 10000) (hh : hi < 10000) (e : ¬ mk_nf s b lo hi = 0) : mk_ok (f_M_needsNumber (Int32.ofNat lo) (Int32.ofNat hi) h) (fun v => v.1 = 0 ∧ mk_FM (mk_fv (mk_nf s b lo hi) b) h v.2) := by
  unfold f_M_needsNumber
  have T' := T
  obtain ⟨t0, t1, t2, t3, t4, t5, t6, t7⟩ := T
  have k2 : (Int32.ofNat (mk_kd s b) = 2) ↔ mk_kd s b = 2 := mn_eql (b := 2) (show mk_kd s b < 4294967296 by have := mk_kd_le s b; omega) (by decide)
  rw [t5]
  by_cases k : mk_kd s b = 2
  · have nl := mk_nu_lt k
    have nf : mk_nf s b lo hi = if lo ≤ mk_nu s b ∧ mk_nu s b ≤ hi then 0 else 4 := if_pos k
    have r : ¬ (lo ≤ mk_nu s b ∧ mk_nu s b ≤ hi) := fun r => e (by rw [nf, if_pos r])
    rw [if_neg r] at nf
    rw [if_pos (k2.mpr k), nf, t7 k, mp_within, if_neg (fun z => r ⟨(mn_le (by omega) (by omega)).mp z.1, (mn_le (by omega) (by omega)).mp z.2⟩)]
    refine mk_ok.bs rfl ?_
    rw [if_pos (show (0 : Int32) = 0 from rfl)]
    refine mk_ok.bind (mi_fails (k := 4) T') (fun v ⟨a, q⟩ => ?_)
    rw [a]
    exact mk_ok.bs mk_bo0 (mk_ok.ret ⟨rfl, q⟩)
  · have nf : mk_nf s b lo hi = 1 := if_neg k
    rw [if_neg (fun z => k (k2.mp z)), nf]
    refine mk_ok.bind (mi_fails (k := 1) T') (fun v ⟨a, q⟩ => ?_)
    rw [a]
    exact mk_ok.bs mk_bo0 (mk_ok.ret ⟨rfl, q⟩)
