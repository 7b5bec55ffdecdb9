/-! settle, both sides -/
theorem mk_ns_P {nt : Nat → Int32} {P s : Nat} (hP : P ≤ 6) (hs : s < 2 ^ P) : mk_ns nt s P = mk_ns nt s 6 := by
  have : ∀ n, P ≤ n → mk_ns nt s n = mk_ns nt s P := by
    intro n
    induction n with
    | zero => intro h; rw [show P = 0 by omega]
    | succ n ih =>
      intro h
      by_cases e : P = n + 1
      · rw [e]
      · show mk_ns nt s n + (if s.testBit n = true then nt n else 0) = _
        have hb : s.testBit n = false := Nat.testBit_lt_two_pow (Nat.lt_of_lt_of_le hs (Nat.pow_le_pow_right (by omega) (by omega)))
        rw [ih (by omega), hb, if_neg (by decide)]
        grind
  exact (this 6 hP).symm
theorem mx_fewestP {A : mk_A} {E : mk_E} {t : Nat} {r : Nat → Nat} {h : mm_H} (hT : mk_T A) (hX : mk_XT A E t h) (hR : mk_XR A 35 r h) : mk_ok (f_Co_fewestPayments t 35 h) (fun v => v.1 = mk_stl A r ∧ mk_ch (fun c => c = 67) h v.2) := by
  have hP := hT.1.1
  have h64 := mk_pow6 hP
  have hpos : 0 < 2 ^ A 263 0 := Nat.two_pow_pos _
  have ht := hX.1
  have mka : ((1 : Int32) <<< (Int32.ofNat (A 263 0) &&& 31)) - 1 = Int32.ofNat (2 ^ A 263 0 - 1) := mk_all (by omega)
  unfold f_Co_fewestPayments
  rw [if_pos ⟨(mk_tt ht).1, mk_ftags.2.2.2.2.2.2.1⟩]
  refine mk_ok.let ?_
  have k1 : mk_ch (fun c => c = 67) h (mm_pI h 67 0 0) := mk_ch.pI (D := fun c => c = 67) rfl
  have z0 : (mm_pI h 67 0 0).1 67 0 = Int32.ofNat 0 := by rw [mp_I1, if_pos ⟨rfl, rfl⟩]; rfl
  generalize mm_pI h 67 0 0 = h1 at k1 z0 ⊢
  have X1 := hX.ch k1 (fun c z => by omega)
  rw [X1.2.1.1, mka]
  refine mk_ok.let ?_
  generalize hz : mk_Z (mk_net r) = Z
  refine mk_ok.bind (mk_ok.for (ρ := mm_H) (2 ^ A 263 0 - 1) (fun i (s : Int32 × mm_H) => s.1 = Int32.ofNat (1 + i) ∧ mk_ch (fun c => c = 67) h s.2 ∧ ∀ x, x < 1 + i → s.2.1 67 x = Int32.ofNat (mk_x0 Z (A 263 0) x)) (Q := fun v : mm_H => mk_ch (fun c => c = 67) h v ∧ ∀ x, x < 1 + (2 ^ A 263 0 - 1) → v.1 67 x = Int32.ofNat (mk_x0 Z (A 263 0) x)) ⟨rfl, k1, fun x hx => ?_⟩ (fun i s hi ⟨e1, q1, q2⟩ => ?_) (fun s ⟨e1, q1, q2⟩ => ?_)) (fun v8 ⟨b1, b2⟩ => ?_)
  · rw [show x = 0 by omega, mk_x0_0]; exact z0
  · rw [show 1 + (i + 1) = (1 + i) + 1 by omega]
    generalize hn : 1 + i = n at e1 q2 ⊢
    have hn2 : n < 2 ^ A 263 0 := by omega
    have X' := hX.ch q1 (fun c z => by omega)
    have N' : mk_XN A 35 r s.2 := hR.2.2.ch q1 (by omega)
    rw [e1, if_neg (fun z => absurd ((mn_lt (by omega) (by omega)).mp z) (show ¬ 2 ^ A 263 0 - 1 < n by omega))]
    have xl : ∀ x, mk_x0 Z (A 263 0) x ≤ x := fun x => mk_x0_le x x (Nat.le_refl _)
    have ml : ∀ j, mk_mi (mk_x0 Z (A 263 0)) n j ≤ n := fun j => by
      rcases mk_mi_is (T := mk_x0 Z (A 263 0)) (s := n) j with e | ⟨i, _, b, e⟩
      · omega
      · have := xl (mk_dif n (2 ^ i)); have := mk_one_lt b; omega
    refine mk_ok.bind (mk_ok.for (ρ := Int32 × Int32) (A 263 0) (fun j (y : Int32 × Int32 × Int32) => y.2.2 = Int32.ofNat j ∧ y.1 = Int32.ofNat (mk_mi (mk_x0 Z (A 263 0)) n j) ∧ y.2.1 = mk_ns (mk_net r) n j) (Q := fun v : Int32 × Int32 => v.1 = Int32.ofNat (mk_mi (mk_x0 Z (A 263 0)) n (A 263 0)) ∧ v.2 = mk_ns (mk_net r) n (A 263 0)) ⟨rfl, rfl, rfl⟩ (fun j y hj ⟨f1, f2, f3⟩ => ?_) (fun y ⟨f1, f2, f3⟩ => ?_)) (fun v14 ⟨g1, g2⟩ => ?_)
    · rw [X'.2.1.1, f1, if_neg (fun z => absurd ((mn_le (by omega) (by omega)).mp z) (show ¬ A 263 0 ≤ j by omega))]
      refine mk_ok.bs (mn_xbit (by omega) (by omega)) ?_
      have em : mk_mi (mk_x0 Z (A 263 0)) n (j + 1) = if n.testBit j = true then max (mk_mi (mk_x0 Z (A 263 0)) n j) (mk_x0 Z (A 263 0) (mk_dif n (2 ^ j))) else mk_mi (mk_x0 Z (A 263 0)) n j := rfl
      have en : mk_ns (mk_net r) n (j + 1) = mk_ns (mk_net r) n j + (if n.testBit j = true then mk_net r j else 0) := rfl
      have mlj := ml j
      rw [em, en]
      cases c : n.testBit j
      · rw [if_neg (by decide), if_neg (by decide), if_neg (by decide)]
        refine mk_ok.bs rfl ?_
        refine mk_ok.let ?_
        rw [mn_addl 1]
        exact mk_ok.inl ⟨rfl, f2, by rw [f3]; grind⟩
      · rw [if_pos (by decide), if_pos (show true = true from rfl), if_pos (show true = true from rfl), mn_shl (show j < 32 by omega), mn_dif]
        have dl := mk_one_lt c
        have xd := xl (mk_dif n (2 ^ j))
        rw [mk_bs (mn_ix (show mk_dif n (2 ^ j) < 64 by omega) (by omega)), q2 _ dl, f2, mk_bs (mn_max (by omega) (by omega)), mk_bs (mn_ix (show j < 6 by omega) (by omega)), N' j hj, f3]
        refine mk_ok.bs rfl ?_
        refine mk_ok.let ?_
        rw [mn_addl 1]
        exact mk_ok.inl ⟨rfl, rfl, rfl⟩
    · rw [X'.2.1.1, f1, if_pos (Int32.le_refl _)]
      exact mk_ok.inr ⟨f2, f3⟩
    have mlP := ml (A 263 0)
    have ex : mk_x0 Z (A 263 0) n = mk_mi (mk_x0 Z (A 263 0)) n (A 263 0) + (Z n).toNat := mk_x0_s (by omega)
    have eZ : Z n = decide (v14.2 = 0) := by rw [← hz, g2, mk_ns_P hP hn2]; rfl
    refine mk_ok.bs (v := Int32.ofNat (mk_x0 Z (A 263 0) n)) ?_ ?_
    · rw [ex, eZ]
      by_cases c : v14.2 = 0
      · rw [if_pos c, decide_eq_true c, g1, mn_addl 1]; rfl
      · rw [if_neg c, decide_eq_false c, g1]; rfl
    refine mk_ok.bs (mn_ix (show n < 64 by omega) (by omega)) ?_
    refine mk_ok.let ?_
    refine mk_ok.let ?_
    rw [mn_addl 1]
    refine mk_ok.inl ⟨rfl, q1.tr (mk_ch.pI (D := fun c => c = 67) rfl) (fun _ z => z) (fun _ z => z), fun x hx => ?_⟩
    rw [mp_I1]
    by_cases e : x = n
    · rw [if_pos ⟨rfl, e⟩, e]
    · rw [if_neg (fun z => e z.2)]
      exact q2 x (show x < n by have : x < n + 1 := hx; omega)
  · rw [e1, if_pos ((mn_lt (by omega) (by omega)).mpr (show 2 ^ A 263 0 - 1 < 1 + (2 ^ A 263 0 - 1) by omega))]
    exact mk_ok.inr ⟨q1, q2⟩
  refine mk_ok.bs (mn_ix (show 2 ^ A 263 0 - 1 < 64 by omega) (by omega)) ?_
  refine mk_ok.ret ⟨?_, b1⟩
  show v8.1 t 0 - v8.1 67 (2 ^ A 263 0 - 1) = _
  rw [(hX.ch b1 (fun c z => by omega)).2.1.1, b2 _ (by omega), ← hz]
  rfl
theorem mn_100 {a : Nat} (ha : a < 1000) : (Int32.ofNat a - 100).toInt = (a : Int) - 100 := by
  rw [Int32.toInt_sub, Int32.toInt_ofNat_of_lt (by omega)]
  have : (100 : Int32).toInt = 100 := by decide
  rw [this]
  simp only [Int.bmod]
  split <;> omega
theorem mn_max100 {a b : Nat} (ha : a < 1000) (hb : b < 1000) : f_JM_max (Int32.ofNat a - 100) (Int32.ofNat b - 100) = some (Int32.ofNat (max a b) - 100) := by
  unfold f_JM_max
  have l : (Int32.ofNat a - 100 < Int32.ofNat b - 100) ↔ a < b := by
    rw [Int32.lt_iff_toInt_lt, mn_100 ha, mn_100 hb]
    omega
  by_cases c : a < b
  · rw [if_pos (l.mpr c), Nat.max_eq_right (by omega)]
  · rw [if_neg (fun z => c (l.mp z)), Nat.max_eq_left (by omega)]
theorem mi_settle {A : mk_A} {E : mk_E} {r : Nat → Nat} {h1 : mm_H} (hT : mk_T A) (hW : mk_W A r) (hM : mk_MT A E h1) (hR : mk_MR r h1) :
    mk_ok (mm_while (σ := (Int32 × mm_H)) (ρ := mm_H) (fun s24 => if 64 ≤ s24.1 then (some (Sum.inr s24.2)) else ((if s24.1 = 0 then (some 0) else (some (-100)) : Option Int32).bind fun j30 => (mm_ix s24.1 64).bind fun k35 => mm_let (mm_pI s24.2 313 k35 j30) fun h37 => (mm_while (σ := (Int32 × mm_H)) (ρ := mm_H) (fun s39 => if s39.1 ≤ 0 then (some (Sum.inr s39.2)) else ((mm_while (σ := (Int32 × Int32)) (ρ := Int32) (fun s45 => if 6 ≤ s45.2 then (some (Sum.inr s45.1)) else ((if ((s39.1 >>> (s45.2 &&& 31)) &&& 1) = 1 then ((f_M_net s45.2 s39.2).bind fun v54 => some v54) else (some 0) : Option Int32).bind fun j51 => mm_let (s45.1 + j51) fun y58 => mm_let (s45.2 + 1) fun y60 => some (Sum.inl (y58, y60)))) (0, 0)).bind fun v48 => (if v48 = 0 then ((mm_ix s24.1 64).bind fun k68 => (mm_ix (s24.1 &&& (s39.1 ^^^ (-1))) 64).bind fun k70 => (f_JM_max (s39.2.1 313 k68) (1 + (s39.2.1 313 k70))).bind fun v73 => (mm_ix s24.1 64).bind fun k74 => mm_let (mm_pI s39.2 313 k74 v73) fun h76 => some h76) else (some s39.2) : Option mm_H).bind fun j66 => mm_let ((s39.1 - 1) &&& s24.1) fun y81 => some (Sum.inl (y81, j66)))) (s24.1, h37)).bind fun v42 => mm_let (s24.1 + 1) fun y87 => some (Sum.inl (y87, v42)))) (0, h1))
      (fun w => mk_ch (fun c => c = 313) h1 w ∧ ∃ v : Nat → Nat, (∀ s, s < 64 → mk_vs (mk_Z (mk_net r)) v s) ∧ ∀ x, x < 64 → w.1 313 x = Int32.ofNat (v x) - 100) := by
  generalize hz : mk_Z (mk_net r) = Z
  refine mk_ok.for (ρ := mm_H) 64 (fun i (s : Int32 × mm_H) => s.1 = Int32.ofNat i ∧ mk_ch (fun c => c = 313) h1 s.2 ∧ ∃ v : Nat → Nat, (∀ x, x < i → mk_vs Z v x ∧ v x ≤ 100 + x) ∧ ∀ x, x < i → s.2.1 313 x = Int32.ofNat (v x) - 100) ⟨rfl, mk_ch.rf, fun _ => 0, fun x hx => absurd hx (by omega), fun x hx => absurd hx (by omega)⟩ (fun n s hn ⟨e1, q1, v, q2, q3⟩ => ?_) (fun s ⟨e1, q1, v, q2, q3⟩ => ?_)
  · rw [e1, if_neg (fun z => absurd ((mn_lle (b := 64) (show n < 2147483648 by omega) (by decide)).mp z) (show ¬ 64 ≤ n by omega))]
    have Z0 : (Int32.ofNat n = 0) ↔ n = 0 := mn_eql (b := 0) (show n < 4294967296 by omega) (by decide)
    refine mk_ok.bs (v := Int32.ofNat (if n = 0 then 100 else 0) - 100) ?_ ?_
    · by_cases c : n = 0
      · rw [if_pos (Z0.mpr c), if_pos c]; rfl
      · rw [if_neg (fun z => c (Z0.mp z)), if_neg c]; rfl
    refine mk_ok.bs (mn_ix (show n < 64 by omega) (by omega)) ?_
    refine mk_ok.let ?_
    have k37 : mk_ch (fun c => c = 313) h1 (mm_pI s.2 313 n (Int32.ofNat (if n = 0 then 100 else 0) - 100)) := q1.tr (mk_ch.pI (D := fun c => c = 313) rfl) (fun _ z => z) (fun _ z => z)
    have t37 : ∀ x, x < n → (mm_pI s.2 313 n (Int32.ofNat (if n = 0 then 100 else 0) - 100)).1 313 x = Int32.ofNat (v x) - 100 := fun x hx => by rw [mp_I1, if_neg (by omega)]; exact q3 x hx
    have n37 : (mm_pI s.2 313 n (Int32.ofNat (if n = 0 then 100 else 0) - 100)).1 313 n = Int32.ofNat (if n = 0 then 100 else 0) - 100 := by rw [mp_I1, if_pos ⟨rfl, rfl⟩]
    generalize mm_pI s.2 313 n (Int32.ofNat (if n = 0 then 100 else 0) - 100) = h37 at k37 t37 n37 ⊢
    refine mk_ok.bind (Q := fun w : mm_H => mk_ch (fun c => c = 313) h1 w ∧ (∀ x, x < n → w.1 313 x = Int32.ofNat (v x) - 100) ∧ ∃ b, w.1 313 n = Int32.ofNat b - 100 ∧ b ≤ 100 + n ∧ (∀ y, 0 < y → mk_sub y n → Z y = true → v (mk_dif n y) + 1 ≤ b) ∧ (b = (if n = 0 then 100 else 0) ∨ ∃ y, mk_sub y n ∧ 0 < y ∧ Z y = true ∧ b = v (mk_dif n y) + 1)) ?_ (fun v42 ⟨c1, c2, b, c3, c4, c5, c6⟩ => ?_)
    · refine mp_loop (fun s : Int32 × mm_H => ∃ cur b, s.1 = Int32.ofNat cur ∧ mk_sub cur n ∧ mk_ch (fun c => c = 313) h1 s.2 ∧ (∀ x, x < n → s.2.1 313 x = Int32.ofNat (v x) - 100) ∧ s.2.1 313 n = Int32.ofNat b - 100 ∧ b ≤ 100 + n ∧ (∀ y, cur < y → mk_sub y n → Z y = true → v (mk_dif n y) + 1 ≤ b) ∧ (b = (if n = 0 then 100 else 0) ∨ ∃ y, mk_sub y n ∧ 0 < y ∧ Z y = true ∧ b = v (mk_dif n y) + 1)) (fun s => s.1.toInt.toNat) _ (fun s hs => ?_) _ ⟨n, _, rfl, fun _ q => q, k37, t37, n37, by split <;> omega, fun y hy hs => absurd (mk_sub_le hs) (by omega), Or.inl rfl⟩
      obtain ⟨cur, b, g1, g2, g3, g4, g5, g6, g7, g8⟩ := hs
      have cl := mk_sub_le g2
      rw [g1]
      by_cases z : cur = 0
      · right
        rw [if_pos ((mn_lel (b := 0) (show cur < 2147483648 by omega) (by decide)).mpr (show cur ≤ 0 by omega))]
        exact ⟨_, rfl, g3, g4, b, g5, g6, fun y hy => g7 y (by omega), g8⟩
      · left
        rw [if_neg (fun y => absurd ((mn_lel (b := 0) (show cur < 2147483648 by omega) (by decide)).mp y) (show ¬ cur ≤ 0 by omega))]
        have R' := hR.ch g3 (by omega)
        have L : mk_ok (mm_while (σ := (Int32 × Int32)) (ρ := Int32) (fun s45 => if 6 ≤ s45.2 then (some (Sum.inr s45.1)) else ((if ((Int32.ofNat cur >>> (s45.2 &&& 31)) &&& 1) = 1 then ((f_M_net s45.2 s.2).bind fun v54 => some v54) else (some 0) : Option Int32).bind fun j51 => mm_let (s45.1 + j51) fun y58 => mm_let (s45.2 + 1) fun y60 => some (Sum.inl (y58, y60)))) (0, 0)) (fun w => w = mk_ns (mk_net r) cur 6) := by
          refine mk_ok.for (ρ := Int32) 6 (fun j (y : Int32 × Int32) => y.2 = Int32.ofNat j ∧ y.1 = mk_ns (mk_net r) cur j) ⟨rfl, rfl⟩ (fun j y hj ⟨f1, f2⟩ => ?_) (fun y ⟨f1, f2⟩ => ?_)
          · rw [f1, if_neg (fun z => absurd ((mn_lle (b := 6) (show j < 2147483648 by omega) (by decide)).mp z) (show ¬ 6 ≤ j by omega)), mn_bit (by omega) (by omega)]
            have en : mk_ns (mk_net r) cur (j + 1) = mk_ns (mk_net r) cur j + (if cur.testBit j = true then mk_net r j else 0) := rfl
            rw [en]
            cases c : cur.testBit j
            · rw [if_neg (by decide), if_neg (by decide)]
              refine mk_ok.bs rfl ?_
              refine mk_ok.let ?_
              refine mk_ok.let ?_
              rw [mn_addl 1, f2]
              exact mk_ok.inl ⟨rfl, rfl⟩
            · rw [if_pos (by decide), if_pos (show true = true from rfl), mk_bs (mi_net R' (by omega))]
              refine mk_ok.bs rfl ?_
              refine mk_ok.let ?_
              refine mk_ok.let ?_
              rw [mn_addl 1, f2]
              exact mk_ok.inl ⟨rfl, rfl⟩
          · rw [f1, if_pos (by decide)]
            exact mk_ok.inr f2
        obtain ⟨w, ew, hwn⟩ := L
        rw [mk_bs ew, hwn]
        have nxt : (Int32.ofNat cur - 1) &&& Int32.ofNat n = Int32.ofNat ((cur - 1) &&& n) := by rw [mn_on1 z, mn_and]
        have nle : (cur - 1) &&& n ≤ cur - 1 := Nat.and_le_left
        have nsub : mk_sub ((cur - 1) &&& n) n := mk_sub_and.mpr (by rw [Nat.and_assoc, Nat.and_self])
        have sp : ∀ y, (cur - 1) &&& n < y → mk_sub y n → cur < y ∨ y = cur := fun y hy hs => by
          rcases Nat.lt_trichotomy y cur with q | q | q
          · have := mk_nx cur cur n y (Nat.le_refl _) (mk_sub_and.mp g2) (mk_sub_and.mp hs) q
            omega
          · exact Or.inr q
          · exact Or.inl q
        have g : ∀ x : Nat, x < 2147483648 → (Int32.ofNat x).toInt.toNat = x := fun x hx => by rw [Int32.toInt_ofNat_of_lt (by omega)]; rfl
        have eZ : Z cur = decide (mk_ns (mk_net r) cur 6 = 0) := by rw [← hz]; rfl
        by_cases c : mk_ns (mk_net r) cur 6 = 0
        · have Zc : Z cur = true := by rw [eZ, decide_eq_true c]
          have dl := mk_dif_lt (mk_sub_and.mp g2) (show 0 < cur by omega)
          have vb := (q2 _ (show mk_dif n cur < n from dl)).2
          have e1' : (1 : Int32) + (Int32.ofNat (v (mk_dif n cur)) - 100) = Int32.ofNat (v (mk_dif n cur) + 1) - 100 := by
            have : Int32.ofNat (v (mk_dif n cur) + 1) = Int32.ofNat (v (mk_dif n cur)) + 1 := (mn_addl 1 _).symm
            rw [this]; grind
          rw [if_pos c, mn_dif, mk_bs (mn_ix (show n < 64 by omega) (by omega)), mk_bs (mn_ix (show mk_dif n cur < 64 by omega) (by omega)), g5, g4 _ dl, e1', mk_bs (mn_max100 (by omega) (by omega)), mk_bs (mn_ix (show n < 64 by omega) (by omega)), nxt]
          refine ⟨(Int32.ofNat ((cur - 1) &&& n), mm_pI s.2 313 n (Int32.ofNat (max b (v (mk_dif n cur) + 1)) - 100)), rfl, ⟨(cur - 1) &&& n, max b (v (mk_dif n cur) + 1), rfl, nsub, g3.tr (mk_ch.pI (D := fun c => c = 313) rfl) (fun _ z => z) (fun _ z => z), fun x hx => ?_, ?_, by omega, fun y hy hs hyz => ?_, ?_⟩, ?_⟩
          · rw [mp_I1, if_neg (by omega)]; exact g4 x hx
          · rw [mp_I1, if_pos ⟨rfl, rfl⟩]
          · rcases sp y hy hs with q | q
            · have := g7 y q hs hyz; omega
            · subst q; omega
          · by_cases m : b ≤ v (mk_dif n cur) + 1
            · rw [Nat.max_eq_right m]
              exact Or.inr ⟨cur, g2, by omega, Zc, rfl⟩
            · rw [Nat.max_eq_left (by omega)]
              exact g8
          · show (Int32.ofNat ((cur - 1) &&& n)).toInt.toNat < (Int32.ofNat cur).toInt.toNat
            rw [g _ (by omega), g _ (by omega)]
            omega
        · have Zc : Z cur = false := by rw [eZ, decide_eq_false c]
          rw [if_neg c, nxt]
          refine ⟨(Int32.ofNat ((cur - 1) &&& n), s.2), rfl, ⟨(cur - 1) &&& n, b, rfl, nsub, g3, g4, g5, g6, fun y hy hs hyz => ?_, g8⟩, ?_⟩
          · rcases sp y hy hs with q | q
            · exact g7 y q hs hyz
            · subst q; rw [Zc] at hyz; exact absurd hyz (by decide)
          · show (Int32.ofNat ((cur - 1) &&& n)).toInt.toNat < (Int32.ofNat cur).toInt.toNat
            rw [g _ (by omega), g _ (by omega)]
            omega
    · refine mk_ok.let ?_
      rw [mn_addl 1]
      have old : ∀ x, x < n → (fun x => if x = n then b else v x) x = v x := fun x hx => if_neg (by omega)
      have new : (fun x => if x = n then b else v x) n = b := if_pos rfl
      refine mk_ok.inl ⟨rfl, c1, fun x => if x = n then b else v x, fun x hx => ?_, fun x hx => ?_⟩
      · have dd : ∀ y x, mk_sub y x → 0 < y → x ≤ n → (if mk_dif x y = n then b else v (mk_dif x y)) = v (mk_dif x y) := fun y x h1 h2 h3 => if_neg (by have := mk_dif_lt (mk_sub_and.mp h1) h2; omega)
        by_cases e : x = n
        · subst e
          refine ⟨⟨fun y h1 h2 h3 => ?_, ?_⟩, ?_⟩
          · show (if mk_dif x y = x then b else v (mk_dif x y)) + 1 ≤ (if x = x then b else v x)
            rw [dd y x h1 h2 (Nat.le_refl _), if_pos rfl]
            exact c5 y h2 h1 h3
          · show (if x = x then b else v x) = _ ∨ ∃ y, mk_sub y x ∧ 0 < y ∧ Z y = true ∧ (if x = x then b else v x) = (if mk_dif x y = x then b else v (mk_dif x y)) + 1
            rw [if_pos rfl]
            rcases c6 with q | ⟨y, h1, h2, h3, q⟩
            · exact Or.inl q
            · exact Or.inr ⟨y, h1, h2, h3, by rw [dd y x h1 h2 (Nat.le_refl _)]; exact q⟩
          · show (if x = x then b else v x) ≤ 100 + x
            rw [if_pos rfl]; exact c4
        · have hx' : x < n := by omega
          obtain ⟨⟨k1, k2⟩, k3⟩ := q2 x hx'
          refine ⟨⟨fun y h1 h2 h3 => ?_, ?_⟩, ?_⟩
          · show (if mk_dif x y = n then b else v (mk_dif x y)) + 1 ≤ (if x = n then b else v x)
            rw [dd y x h1 h2 (by omega), if_neg e]
            exact k1 y h1 h2 h3
          · show (if x = n then b else v x) = _ ∨ ∃ y, mk_sub y x ∧ 0 < y ∧ Z y = true ∧ (if x = n then b else v x) = (if mk_dif x y = n then b else v (mk_dif x y)) + 1
            rw [if_neg e]
            rcases k2 with q | ⟨y, h1, h2, h3, q⟩
            · exact Or.inl q
            · exact Or.inr ⟨y, h1, h2, h3, by rw [dd y x h1 h2 (by omega)]; exact q⟩
          · show (if x = n then b else v x) ≤ 100 + x
            rw [if_neg e]; exact k3
      · show v42.1 313 x = Int32.ofNat (if x = n then b else v x) - 100
        by_cases e : x = n
        · rw [if_pos e, e]; exact c3
        · rw [if_neg e]; exact c2 x (by omega)
  · rw [e1, if_pos (by decide)]
    exact mk_ok.inr ⟨q1, v, fun x hx => (q2 x hx).1, q3⟩
theorem mc_settle : mk_call f_X_settle f_M_settle := by
  refine mk_callof (fun A E t r u hw => ?_)
  have hT := hw.1
  have hW := hw.2.1
  have hP := hT.1.1
  have h64 := mk_pow6 hP
  refine ⟨mk_stl A r, r, u, t, hw, fun h hX => ?_, fun h hM => ?_⟩
  · unfold f_X_settle
    refine mk_ok.bs (mx_gT hX.1.1 hX.2.1.1) ?_
    refine mk_ok.bind (mx_fewestP hT hX.2.1 hX.2.2.1) (fun v ⟨a1, a2⟩ => ?_)
    exact mk_ok.ret ⟨a1, hX.ch hw a2 (fun c z => by unfold mk_sx; omega), mk_fM.of a2 (fun c z => by omega)⟩
  · unfold f_M_settle
    refine mk_ok.let ?_
    have p0 : mk_s2m h (mm_pI h 261 0 0) := mk_s2m.pI ⟨by decide, by decide⟩
    have hM1 := hM.s2 p0
    revert p0 hM1
    generalize mm_pI h 261 0 0 = h1
    intro p0 hM1
    refine mk_ok.bind (mk_ok.for (ρ := Int32) (A 263 0) (fun i (s : Int32 × Int32) => s.2 = Int32.ofNat i ∧ s.1 = Int32.ofNat (mk_set (fun i => !decide (mk_net r i = 0)) i)) (Q := fun v => v = Int32.ofNat (mk_nz (mk_net r) (A 263 0))) ⟨rfl, rfl⟩ (fun i s hi ⟨e1, e2⟩ => ?_) (fun s ⟨e1, e2⟩ => ?_)) (fun v6 b6 => ?_)
    · rw [hM1.1.1 0 (by omega), e1, if_neg (fun z => absurd ((mn_le (by omega) (by omega)).mp z) (show ¬ A 263 0 ≤ i by omega)), mk_bs (mi_net hM1.2.1 (show i < 6 by omega))]
      have en : mk_set (fun i => !decide (mk_net r i = 0)) (i + 1) = mk_set (fun i => !decide (mk_net r i = 0)) i ||| ((!decide (mk_net r i = 0)).toNat <<< i) := rfl
      rw [en, mn_setp _ (by omega)]
      by_cases c : mk_net r i = 0
      · rw [if_pos c, decide_eq_true c, if_neg (by decide)]
        refine mk_ok.bs rfl ?_
        refine mk_ok.let ?_
        refine mk_ok.let ?_
        rw [mn_addl 1, e2]
        refine mk_ok.inl ⟨rfl, ?_⟩
        show Int32.ofNat _ ||| Int32.ofNat 0 = _
        rw [mn_or, Nat.or_zero]
      · rw [if_neg c, decide_eq_false c, if_pos (by decide)]
        refine mk_ok.bs rfl ?_
        refine mk_ok.let ?_
        refine mk_ok.let ?_
        rw [mn_addl 1, e2]
        exact mk_ok.inl ⟨rfl, rfl⟩
    · rw [hM1.1.1 0 (by omega), e1, if_pos (Int32.le_refl _)]
      exact mk_ok.inr e2
    refine mk_ok.bind (mi_settle hT hW hM1.1 hM1.2.1) (fun v27 ⟨c1, v, c2, c3⟩ => ?_)
    have nl : mk_nz (mk_net r) (A 263 0) < 2 ^ A 263 0 := mk_set_lt _ _
    rw [b6]
    refine mk_ok.bs (mn_mbits (by omega)) ?_
    refine mk_ok.bs (mn_ix (show mk_nz (mk_net r) (A 263 0) < 64 by omega) (by omega)) ?_
    rw [c3 _ (by omega), mk_stl_is hT hW (fun s hs => c2 s (by omega))]
    have p1 : mk_s2m h1 v27 := mk_s2m.of c1 (fun c z => by unfold mk_sm; omega)
    exact mk_ok.ret ⟨rfl, hM1.s2 p1, (mk_fX.s2 p0).tr (mk_fX.s2 p1)⟩
