/-! the class's next token, and what is asked of it -/
theorem mx_indexOf {x : Nat} (hx : x < 127) : ∃ v, f_JS_indexOf_II (Int32.ofNat x) = some v ∧ (v < 0 ↔ mk_sgn x = false) := by
  have l1 : f_JS_isLatin1 = some 1 := by unfold f_JS_isLatin1; decide
  have l2 : f_JS_length = some 8 := by unfold f_JS_length f_JS_coder; decide
  have hc : f_JL_canEncode (Int32.ofNat x) = some 1 := by
    unfold f_JL_canEncode
    rw [if_neg (fun y => absurd y (Int32.not_lt.mpr ((mn_lle (b := 0) (show x < 2147483648 by omega) (by decide)).mpr (Nat.zero_le _)))), if_neg (fun z => absurd ((mn_llt (b := 255) (show x < 2147483648 by omega) (by decide)).mp z) (show ¬ 255 < x by omega))]
  have h8 : (Int32.toInt8 (Int32.ofNat x)).toInt32 = Int32.ofNat x := (by decide +kernel : ∀ x : Nat, x < 127 → (Int32.toInt8 (Int32.ofNat x)).toInt32 = Int32.ofNat x) x hx
  have tb : ∀ i : Nat, i < 8 → ∃ y : Nat, y < 127 ∧ mm_byt.getD i 0 = Int32.ofNat y ∧ mk_sgn y = true := by
    have : ∀ i : Nat, i < 8 → mm_byt.getD i 0 = Int32.ofNat (([40, 41, 60, 61, 43, 45, 42, 59] : List Nat).getD i 0) ∧ ([40, 41, 60, 61, 43, 45, 42, 59] : List Nat).getD i 0 < 127 ∧ mk_sgn (([40, 41, 60, 61, 43, 45, 42, 59] : List Nat).getD i 0) = true := by decide +kernel
    intro i hi
    obtain ⟨a, b, c⟩ := this i hi
    exact ⟨_, b, a, c⟩
  have back : mk_sgn x = true → ∃ i : Nat, i < 8 ∧ mm_byt.getD i 0 = Int32.ofNat x := by
    intro h
    have : ∀ x : Nat, x < 127 → mk_sgn x = true → mm_byt.getD 0 0 = Int32.ofNat x ∨ mm_byt.getD 1 0 = Int32.ofNat x ∨ mm_byt.getD 2 0 = Int32.ofNat x ∨ mm_byt.getD 3 0 = Int32.ofNat x ∨ mm_byt.getD 4 0 = Int32.ofNat x ∨ mm_byt.getD 5 0 = Int32.ofNat x ∨ mm_byt.getD 6 0 = Int32.ofNat x ∨ mm_byt.getD 7 0 = Int32.ofNat x := by decide +kernel
    rcases this x hx h with e | e | e | e | e | e | e | e
    · exact ⟨0, by omega, e⟩
    · exact ⟨1, by omega, e⟩
    · exact ⟨2, by omega, e⟩
    · exact ⟨3, by omega, e⟩
    · exact ⟨4, by omega, e⟩
    · exact ⟨5, by omega, e⟩
    · exact ⟨6, by omega, e⟩
    · exact ⟨7, by omega, e⟩
  show mk_ok (f_JS_indexOf_II (Int32.ofNat x)) (fun v => v < 0 ↔ mk_sgn x = false)
  unfold f_JS_indexOf_II f_JS_indexOf_III
  rw [l1, l2]
  simp only [Option.bind_some]
  rw [if_neg (show ¬ (1 : Int32) = 0 by decide)]
  unfold f_JL_indexOf
  rw [hc, mp_max, mp_min]
  simp only [Option.bind_some]
  rw [if_neg (show ¬ (1 : Int32) = 0 by decide), if_neg (show ¬ (0 : Int32) < 0 by decide), if_neg (show ¬ (8 : Int32) < 8 by decide), if_pos (show (0 : Int32) < 8 by decide)]
  unfold f_JL_indexOfChar
  rw [h8]
  refine mk_ok.bind (Q := fun v : Int32 => v < 0 ↔ mk_sgn x = false) ?_ (fun v hv => mk_ok.ret hv)
  refine mk_ok.bind (Q := fun v : Int32 => v < 0 ↔ mk_sgn x = false) ?_ (fun v hv => mk_ok.ret hv)
  refine mk_ok.bind (Q := fun v : Int32 => v < 0 ↔ mk_sgn x = false) ?_ (fun v hv => mk_ok.ret hv)
  refine mk_ok.let ?_
  refine mk_ok.lp (fun v : Int32 => ∃ i : Nat, i ≤ 8 ∧ v = Int32.ofNat i ∧ ∀ j, j < i → ¬ mm_byt.getD j 0 = Int32.ofNat x) (fun v => 8 - v.toInt.toNat) ⟨0, by omega, rfl, fun j hj => by omega⟩ (fun v hv => ?_)
  obtain ⟨i, hi, rfl, no⟩ := hv
  by_cases c : 8 ≤ i
  · rw [if_pos ((mn_lle (b := 8) (show i < 2147483648 by omega) (by decide)).mpr c)]
    refine mk_ok.lpr ⟨fun _ => ?_, fun _ => by decide⟩
    cases q : mk_sgn x
    · rfl
    · obtain ⟨j, hj, e⟩ := back q
      exact absurd e (no j (by omega))
  · rw [if_neg (fun z => c ((mn_lle (b := 8) (show i < 2147483648 by omega) (by decide)).mp z)), mk_bs (mn_ix (show i < 8 by omega) (by omega))]
    by_cases e : mm_byt.getD i 0 = Int32.ofNat x
    · rw [if_pos e]
      obtain ⟨y, hy, e1, e2⟩ := tb i (by omega)
      rw [e1] at e
      have := (mn_eq (by omega) (by omega)).mp e
      subst this
      refine mk_ok.lpr ⟨fun z => absurd z (Int32.not_lt.mpr ((mn_lle (b := 0) (show i < 2147483648 by omega) (by decide)).mpr (Nat.zero_le _))), fun z => ?_⟩
      rw [e2] at z; exact absurd z (by decide)
    · rw [if_neg e, show Int32.ofNat i + 1 = Int32.ofNat (i + 1) from mn_addl 1 i]
      refine mk_ok.lpl ⟨⟨i + 1, by omega, rfl, fun j hj => ?_⟩, ?_⟩
      · by_cases d : j = i
        · rw [d]; exact e
        · exact no j (by omega)
      · rw [Int32.toInt_ofNat_of_lt (by omega), Int32.toInt_ofNat_of_lt (by omega)]
        omega
theorem mx_tnext {s : mk_S} {p : Nat} {h : mm_H} (hs : mk_sgs s) (hp : p ≤ s.1) (P : mk_PXs s h) (hat : h.1 33 2 = Int32.ofNat p) : mk_ok (f_Ta_next h) (fun v => mk_fx h v ∧ mk_TKX s (mk_to mk_bl s p) v) := by
  have s1 := hs.1
  have tol := mk_to_a (f := mk_bl) (s := s) p
  have bn := tol.2.1 hp
  unfold f_Ta_next
  refine mk_ok.bind (Q := fun v => mk_fx h v ∧ v.1 33 2 = Int32.ofNat (mk_to mk_bl s p)) ?_ (fun j1 ⟨k1, a1⟩ => ?_)
  · rw [P.1, hat]
    by_cases c : s.1 ≤ p
    · rw [if_pos ((mn_le (by omega) (by omega)).mpr c), mk_to_n c]
      exact mk_ok.ret ⟨mk_fx.rf, hat⟩
    · have ix : mm_ix (Int32.ofNat p) 1000 = some p := mn_ix (show p < 1000 by omega) (by omega)
      rw [if_neg (fun z => c ((mn_le (by omega) (by omega)).mp z)), mk_bs ix, P.2 p (by omega)]
      have sl := mk_sign_lt hs (k := p) (by omega)
      simp only [mm_jp, mm_let]
      have E10 : (Int32.ofNat (s.2 p) = 10) ↔ s.2 p = 10 := mn_eql (b := 10) (show s.2 p < 4294967296 by omega) (by decide)
      have E32 : (Int32.ofNat (s.2 p) = 32) ↔ s.2 p = 32 := mn_eql (b := 32) (show s.2 p < 4294967296 by omega) (by decide)
      have go : mk_bl (s.2 p) = true → mk_ok ((mm_while (σ := mm_H) (ρ := mm_H) (fun s10 => if (s10.1 33 1) ≤ (s10.1 33 2) then (some (Sum.inr s10)) else ((mm_ix (s10.1 33 2) 1000).bind fun k16 => if (s10.1 34 k16) = 10 then (some (Sum.inl (mm_pI s10 33 2 ((s10.1 33 2) + 1)))) else ((mm_ix (s10.1 33 2) 1000).bind fun k23 => if (s10.1 34 k23) = 32 then (some (Sum.inl (mm_pI s10 33 2 ((s10.1 33 2) + 1)))) else (some (Sum.inr s10))))) (mm_pI h 33 2 (Int32.ofNat p + 1))).bind fun v13 => some v13) (fun v => mk_fx h v ∧ v.1 33 2 = Int32.ofNat (mk_to mk_bl s p)) := by
        intro b
        have f1 : mk_fx h (mm_pI h 33 2 (Int32.ofNat p + 1)) := mk_fx.p ⟨by omega, by omega⟩
        have sk := mx_skip (p := p + 1) hs (by omega) (P.fx f1) (by rw [mp_I1, if_pos ⟨rfl, rfl⟩]; exact mn_addl 1 p)
        simp only [mm_jp, mm_let] at sk
        refine mk_ok.bind sk (fun v ⟨x1, x2⟩ => mk_ok.ret ⟨f1.tr x1, ?_⟩)
        rw [mk_to_s (by omega) b]; exact x2
      by_cases c1 : s.2 p = 10
      · rw [if_pos (E10.mpr c1)]
        exact go (mk_bl_iff.mpr (Or.inl c1))
      · rw [if_neg (fun z => c1 (E10.mp z)), mk_bs ix, P.2 p (by omega)]
        by_cases c2 : s.2 p = 32
        · rw [if_pos (E32.mpr c2)]
          exact go (mk_bl_iff.mpr (Or.inr c2))
        · rw [if_neg (fun z => c2 (E32.mp z))]
          have nb : mk_bl (s.2 p) = false := by
            cases q : mk_bl (s.2 p)
            · rfl
            · exact absurd (mk_bl_iff.mp q) (by omega)
          rw [mk_to_f nb]
          exact mk_ok.ret ⟨mk_fx.rf, hat⟩
  generalize mk_to mk_bl s p = b at *
  have f49 : mk_fx h (mm_pR (mm_pI j1 33 3 (j1.1 33 2)) 33 7 none) := (k1.tr (mk_fx.p ⟨by omega, by omega⟩)).tr mk_fx.pR
  have a49 : (mm_pR (mm_pI j1 33 3 (j1.1 33 2)) 33 7 none).1 33 2 = Int32.ofNat b := by rw [mp_R1, mp_I1, if_neg (by omega)]; exact a1
  have p49 : (mm_pR (mm_pI j1 33 3 (j1.1 33 2)) 33 7 none).1 33 3 = Int32.ofNat b := by rw [mp_R1, mp_I1, if_pos ⟨rfl, rfl⟩]; exact a1
  have w49 : (mm_pR (mm_pI j1 33 3 (j1.1 33 2)) 33 7 none).2.2 33 7 = none := by rw [mp_R3, if_pos ⟨rfl, rfl⟩]
  refine mk_ok.let (mk_ok.let ?_)
  revert f49 a49 p49 w49
  generalize mm_pR (mm_pI j1 33 3 (j1.1 33 2)) 33 7 none = h49
  intro f49 a49 p49 w49
  have P49 := P.fx f49
  rw [a49, P49.1]
  by_cases cb : b < s.1
  · have ix : mm_ix (Int32.ofNat b) 1000 = some b := mn_ix (show b < 1000 by omega) (by omega)
    have sl := mk_sign_lt hs cb
    rw [if_pos ((mn_lt (by omega) (by omega)).mpr cb), mk_bs ix, P49.2 b cb]
    simp only [mm_jp, mm_let]
    have L1 : (Int32.ofNat (s.2 b) < 97) ↔ s.2 b < 97 := mn_ltl (b := 97) (show s.2 b < 2147483648 by omega) (by decide)
    have L2 : (122 < Int32.ofNat (s.2 b)) ↔ 122 < s.2 b := mn_llt (b := 122) (show s.2 b < 2147483648 by omega) (by decide)
    have D1 : (Int32.ofNat (s.2 b) < 48) ↔ s.2 b < 48 := mn_ltl (b := 48) (show s.2 b < 2147483648 by omega) (by decide)
    have D2 : (57 < Int32.ofNat (s.2 b)) ↔ 57 < s.2 b := mn_llt (b := 57) (show s.2 b < 2147483648 by omega) (by decide)
    by_cases cl : mk_lt (s.2 b) = true
    · obtain ⟨l1, l2⟩ := mk_lt_iff.mp cl
      have en : mk_en s b = mk_to mk_lt s b := by unfold mk_en; rw [if_neg (by omega), if_pos cl]
      have kd : mk_kd s b = if mk_to mk_lt s b - b ≤ 8 then 1 else 4 := by unfold mk_kd; rw [if_neg (by omega), if_pos cl, en]
      have wd0 : mk_wd s b 0 = mk_to mk_lt s b - b := by unfold mk_wd; rw [if_pos rfl, en]
      rw [if_neg (fun z => by have := L1.mp z; omega), if_neg (fun z => by have := L2.mp z; omega)]
      refine mk_ok.bind (mx_scanWord hs cb P49 a49 p49 w49) (fun v ⟨x1, x2, x3, x4, x5, x6⟩ => ?_)
      refine mk_ok.ret ⟨f49.tr x1, by omega, P49.fx x1, by rw [en]; exact x2, x3, ?_, ?_, fun z => ?_, fun z => ?_, fun z => ?_⟩
      · rw [x4, kd]
        by_cases c : mk_to mk_lt s b - b ≤ 8
        · rw [if_pos c, if_pos c]; rfl
        · rw [if_neg c, if_neg c]; rfl
      · rw [x6]
        unfold mk_wo mk_c32
        rw [kd, wd0]
        by_cases c : mk_to mk_lt s b - b ≤ 8
        · rw [if_pos c, if_pos c, if_pos rfl]
        · rw [if_neg c, if_neg c, if_neg (by omega)]
      · unfold mk_c32
        rw [wd0]; exact x5
      · rw [kd] at z
        split at z <;> omega
      · rw [kd] at z
        split at z <;> omega
    · have nl : ¬ (97 ≤ s.2 b ∧ s.2 b ≤ 122) := fun z => cl (mk_lt_iff.mpr z)
      have rest : mk_ok (if Int32.ofNat (s.2 b) < 48 then ((mm_chr (Int32.ofNat (s.2 b))).bind fun _ => (f_JS_indexOf_II (Int32.ofNat (s.2 b))).bind fun v66 => (if v66 < 0 then (some 0) else (some 4) : Option Int32).bind fun j67 => some (mm_pI (mm_pI (mm_pI h49 33 8 (Int32.ofNat (s.2 b))) 33 4 j67) 33 2 ((mm_pI (mm_pI h49 33 8 (Int32.ofNat (s.2 b))) 33 4 j67).1 33 2 + 1))) else (if 57 < Int32.ofNat (s.2 b) then ((mm_chr (Int32.ofNat (s.2 b))).bind fun _ => (f_JS_indexOf_II (Int32.ofNat (s.2 b))).bind fun v66 => (if v66 < 0 then (some 0) else (some 4) : Option Int32).bind fun j67 => some (mm_pI (mm_pI (mm_pI h49 33 8 (Int32.ofNat (s.2 b))) 33 4 j67) 33 2 ((mm_pI (mm_pI h49 33 8 (Int32.ofNat (s.2 b))) 33 4 j67).1 33 2 + 1))) else ((f_Ta_scanNumber h49).bind fun v78 => some v78))) (fun v => mk_fx h v ∧ mk_TKX s b v) := by
        by_cases cd : mk_dgt (s.2 b) = true
        · obtain ⟨l1, l2⟩ := mk_dgt_iff.mp cd
          have en : mk_en s b = mk_to mk_dgt s b := by unfold mk_en; rw [if_neg (by omega), if_neg cl, if_pos cd]
          have kd : mk_kd s b = if mk_to mk_dgt s b - b ≤ 4 then 2 else 4 := by unfold mk_kd; rw [if_neg (by omega), if_neg cl, if_pos cd, en]
          rw [if_neg (fun z => by have := D1.mp z; omega), if_neg (fun z => by have := D2.mp z; omega)]
          refine mk_ok.bind (mx_scanNumber hs cb P49 a49 p49 w49) (fun v ⟨x1, x2, x3, x4, x5, x6⟩ => ?_)
          have k1 : ¬ mk_kd s b = 1 := by rw [kd]; split <;> omega
          refine mk_ok.ret ⟨f49.tr x1, by omega, P49.fx x1, by rw [en]; exact x2, x3, ?_, ?_, fun z => absurd z k1, fun z => ?_, fun z => ?_⟩
          · rw [x4, kd]
            by_cases c : mk_to mk_dgt s b - b ≤ 4
            · rw [if_pos c, if_pos c]; rfl
            · rw [if_neg c, if_neg c]; rfl
          · rw [x6]; unfold mk_wo; rw [if_neg k1]
          · unfold mk_nu; rw [en]; exact x5
          · rw [kd] at z
            split at z <;> omega
        · have en : mk_en s b = b + 1 := by unfold mk_en; rw [if_neg (by omega), if_neg cl, if_neg cd]
          have kd : mk_kd s b = if mk_sgn (s.2 b) = true then 3 else 4 := by unfold mk_kd; rw [if_neg (by omega), if_neg cl, if_neg cd]
          have nd : ¬ (48 ≤ s.2 b ∧ s.2 b ≤ 57) := fun z => cd (mk_dgt_iff.mpr z)
          have body : mk_ok ((mm_chr (Int32.ofNat (s.2 b))).bind fun _ => (f_JS_indexOf_II (Int32.ofNat (s.2 b))).bind fun v66 => (if v66 < 0 then (some 0) else (some 4) : Option Int32).bind fun j67 => some (mm_pI (mm_pI (mm_pI h49 33 8 (Int32.ofNat (s.2 b))) 33 4 j67) 33 2 ((mm_pI (mm_pI h49 33 8 (Int32.ofNat (s.2 b))) 33 4 j67).1 33 2 + 1))) (fun v => mk_fx h v ∧ mk_TKX s b v) := by
            have chr : mm_chr (Int32.ofNat (s.2 b)) = some () := if_pos ⟨(mn_lle (b := 0) (show s.2 b < 2147483648 by omega) (by decide)).mpr (Nat.zero_le _), (mn_lel (b := 65535) (show s.2 b < 2147483648 by omega) (by decide)).mpr (show s.2 b ≤ 65535 by omega)⟩
            obtain ⟨v, ev, hv⟩ := mx_indexOf sl
            refine mk_ok.bs chr (mk_ok.bs ev ?_)
            refine mk_ok.bs (v := mk_kX (mk_kd s b)) ?_ ?_
            · rw [kd]
              cases q : mk_sgn (s.2 b)
              · rw [if_pos (hv.mpr q), if_neg (by decide)]; rfl
              · rw [if_neg (fun z => by rw [hv.mp z] at q; exact absurd q (by decide)), if_pos rfl]; rfl
            · have k1 : ¬ mk_kd s b = 1 := by rw [kd]; split <;> omega
              have k2 : ¬ mk_kd s b = 2 := by rw [kd]; split <;> omega
              have ff : mk_fx h49 (mm_pI (mm_pI (mm_pI h49 33 8 (Int32.ofNat (s.2 b))) 33 4 (mk_kX (mk_kd s b))) 33 2 ((mm_pI (mm_pI h49 33 8 (Int32.ofNat (s.2 b))) 33 4 (mk_kX (mk_kd s b))).1 33 2 + 1)) := ((mk_fx.p ⟨by omega, by omega⟩).tr (mk_fx.p ⟨by omega, by omega⟩)).tr (mk_fx.p ⟨by omega, by omega⟩)
              refine mk_ok.ret ⟨f49.tr ff, by omega, P49.fx ff, ?_, ?_, ?_, ?_, fun z => absurd z k1, fun z => absurd z k2, fun _ => ?_⟩
              · rw [mp_I1, if_pos ⟨rfl, rfl⟩, mp_I1, if_neg (by omega), mp_I1, if_neg (by omega), a49, en]; exact mn_addl 1 b
              · rw [mp_I1, if_neg (by omega), mp_I1, if_neg (by omega), mp_I1, if_neg (by omega)]; exact p49
              · rw [mp_I1, if_neg (by omega), mp_I1, if_pos ⟨rfl, rfl⟩]
              · show h49.2.2 33 7 = _
                rw [w49]; unfold mk_wo; rw [if_neg k1]
              · rw [mp_I1, if_neg (by omega), mp_I1, if_neg (by omega), mp_I1, if_pos ⟨rfl, rfl⟩]
          by_cases c1 : s.2 b < 48
          · rw [if_pos (D1.mpr c1)]; exact body
          · rw [if_neg (fun z => c1 (D1.mp z)), if_pos (D2.mpr (by omega))]; exact body
      by_cases c1 : s.2 b < 97
      · rw [if_pos (L1.mpr c1)]; exact rest
      · rw [if_neg (fun z => c1 (L1.mp z)), if_pos (L2.mpr (by omega))]; exact rest
  · rw [if_neg (fun z => cb ((mn_lt (by omega) (by omega)).mp z))]
    have en : mk_en s b = b := by unfold mk_en; rw [if_pos (by omega)]
    have kd : mk_kd s b = 0 := mk_kd_0.mpr (by omega)
    have ff : mk_fx h49 (mm_pI h49 33 4 1) := mk_fx.p ⟨by omega, by omega⟩
    refine mk_ok.let (mk_ok.ret ⟨f49.tr ff, by omega, P49.fx ff, ?_, ?_, ?_, ?_, fun z => by omega, fun z => by omega, fun z => by omega⟩)
    · rw [mp_I1, if_neg (by omega), en]; exact a49
    · rw [mp_I1, if_neg (by omega)]; exact p49
    · rw [mp_I1, if_pos ⟨rfl, rfl⟩, kd]; rfl
    · show h49.2.2 33 7 = _
      rw [w49]; unfold mk_wo; rw [if_neg (by omega)]
