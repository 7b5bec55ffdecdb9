/-! least: the worths of all sets, the least payment -/
def mk_K (A : mk_A) (E : mk_E) (r : Nat → Nat) (s : Nat) : Nat := 102400000 * mk_pc s + 1024 * mk_ws A E r s + s
theorem mk_K_lt {A : mk_A} {E : mk_E} {r : Nat → Nat} (hT : mk_T A) {a b : Nat} (ha : a < 1024) (hb : b < 1024) : mk_K A E r a < mk_K A E r b ↔ (mk_pc a < mk_pc b ∨ (mk_pc a = mk_pc b ∧ (mk_ws A E r a < mk_ws A E r b ∨ (mk_ws A E r a = mk_ws A E r b ∧ a < b)))) := by
  have h1 := mk_ws_le (E := E) (r := r) (s := a) hT
  have h2 := mk_ws_le (E := E) (r := r) (s := b) hT
  unfold mk_K
  generalize mk_ws A E r a = x at *
  generalize mk_ws A E r b = y at *
  generalize mk_pc a = p
  generalize mk_pc b = q
  omega
theorem mk_K_inj {A : mk_A} {E : mk_E} {r : Nat → Nat} (hT : mk_T A) {a b : Nat} (ha : a < 1024) (hb : b < 1024) (h : mk_K A E r a = mk_K A E r b) : a = b := by
  have h1 := mk_ws_le (E := E) (r := r) (s := a) hT
  have h2 := mk_ws_le (E := E) (r := r) (s := b) hT
  unfold mk_K at h
  generalize mk_ws A E r a = x at *
  generalize mk_ws A E r b = y at *
  generalize mk_pc a = p at *
  generalize mk_pc b = q at *
  omega
/-- b - 1 is the least that has P, 0 if none has -/
def mk_bst (P : Nat → Prop) (K : Nat → Nat) (b : Nat) : Prop := (b = 0 → ∀ s, ¬ P s) ∧ (¬ b = 0 → P (b - 1) ∧ ∀ s, P s → K (b - 1) ≤ K s)
theorem mk_bst.uniq {P : Nat → Prop} {K : Nat → Nat} {b c : Nat} (hb : mk_bst P K b) (hc : mk_bst P K c) (inj : ∀ x y, P x → P y → K x = K y → x = y) : b = c := by
  by_cases h : b = 0
  · by_cases h' : c = 0
    · omega
    · exact absurd (hc.2 h').1 (hb.1 h _)
  · by_cases h' : c = 0
    · exact absurd (hb.2 h).1 (hc.1 h' _)
    · have := inj _ _ (hb.2 h).1 (hc.2 h').1 (Nat.le_antisymm ((hb.2 h).2 _ (hc.2 h').1) ((hc.2 h').2 _ (hb.2 h).1))
      omega
theorem mk_bst.take {P P' : Nat → Prop} {K : Nat → Nat} {b n : Nat} (hb : mk_bst P K b) (hn : P' n) (h1 : ∀ s, P' s → P s ∨ s = n) (h : b = 0 ∨ K n < K (b - 1)) : mk_bst P' K (n + 1) := by
  refine ⟨fun z => absurd z (by omega), fun _ => ⟨hn, fun s hs => ?_⟩⟩
  rw [Nat.add_sub_cancel]
  rcases h1 s hs with q | q
  · by_cases z : b = 0
    · exact absurd q (hb.1 z s)
    · have := (hb.2 z).2 s q
      rcases h with h | h
      · exact absurd h z
      · omega
  · rw [q]; exact Nat.le_refl _
theorem mk_bst.skip {P P' : Nat → Prop} {K : Nat → Nat} {b n : Nat} (hb : mk_bst P K b) (h0 : ∀ s, P s → P' s) (h1 : ∀ s, P' s → P s ∨ s = n) (h : P' n → ¬ b = 0 ∧ K (b - 1) ≤ K n) : mk_bst P' K b := by
  refine ⟨fun z s hs => ?_, fun z => ⟨h0 _ (hb.2 z).1, fun s hs => ?_⟩⟩
  · rcases h1 s hs with q | q
    · exact hb.1 z s q
    · subst q; exact (h hs).1 z
  · rcases h1 s hs with q | q
    · exact (hb.2 z).2 s q
    · subst q; exact (h hs).2
def mk_lst (A : mk_A) (E : mk_E) (r : Nat → Nat) (p : Nat) : Nat → Nat
  | 0 => 0
  | n + 1 => if mk_cp A E r p n = true ∧ (mk_lst A E r p n = 0 ∨ mk_K A E r n < mk_K A E r (mk_lst A E r p n - 1)) then n + 1 else mk_lst A E r p n
theorem mk_lst_le {A : mk_A} {E : mk_E} {r : Nat → Nat} {p : Nat} : ∀ n, mk_lst A E r p n ≤ n
  | 0 => Nat.le_refl _
  | n + 1 => by
    have := mk_lst_le (A := A) (E := E) (r := r) (p := p) n
    unfold mk_lst
    split
    · exact Nat.le_refl _
    · exact Nat.le_succ_of_le this
theorem mk_lst_bst {A : mk_A} {E : mk_E} {r : Nat → Nat} {p : Nat} : ∀ n, mk_bst (fun s => s < n ∧ mk_cp A E r p s = true) (mk_K A E r) (mk_lst A E r p n)
  | 0 => ⟨fun _ s hs => absurd hs.1 (by omega), fun z => absurd rfl z⟩
  | n + 1 => by
    have ih := mk_lst_bst (A := A) (E := E) (r := r) (p := p) n
    have sp : ∀ s, (s < n + 1 ∧ mk_cp A E r p s = true) → (s < n ∧ mk_cp A E r p s = true) ∨ s = n := fun s q => by
      by_cases h : s = n
      · exact Or.inr h
      · exact Or.inl ⟨by omega, q.2⟩
    unfold mk_lst
    by_cases c : mk_cp A E r p n = true ∧ (mk_lst A E r p n = 0 ∨ mk_K A E r n < mk_K A E r (mk_lst A E r p n - 1))
    · rw [if_pos c]
      exact ih.take ⟨by omega, c.1⟩ sp c.2
    · rw [if_neg c]
      refine ih.skip (fun s q => ⟨by omega, q.2⟩) sp (fun q => ?_)
      constructor
      · intro z; exact c ⟨q.2, Or.inl z⟩
      · exact Nat.le_of_not_lt (fun z => c ⟨q.2, Or.inr z⟩)
theorem mk_cp_lt {A : mk_A} {E : mk_E} {r : Nat → Nat} {p s : Nat} (h : mk_cp A E r p s = true) : s < 2 ^ A 263 1 ∧ 0 < s := by
  unfold mk_cp at h
  simp only [Bool.and_eq_true, decide_eq_true_eq] at h
  exact ⟨mk_sub_lt h.2.2.1 (mk_dif_le (mk_kb_lt A r p)), h.2.1⟩
def mk_LS (A : mk_A) (E : mk_E) (r : Nat → Nat) (p : Nat) : Nat := mk_lst A E r p (2 ^ A 263 1)
theorem mk_LS_bst (A : mk_A) (E : mk_E) (r : Nat → Nat) (p : Nat) : mk_bst (fun s => mk_cp A E r p s = true) (mk_K A E r) (mk_LS A E r p) := by
  obtain ⟨a, b⟩ := mk_lst_bst (A := A) (E := E) (r := r) (p := p) (2 ^ A 263 1)
  exact ⟨fun z s hs => a z s ⟨(mk_cp_lt hs).1, hs⟩, fun z => ⟨(b z).1.2, fun s hs => (b z).2 s ⟨(mk_cp_lt hs).1, hs⟩⟩⟩
theorem mk_LS_is {A : mk_A} {E : mk_E} {r : Nat → Nat} {p b : Nat} (hT : mk_T A) (h : mk_bst (fun s => mk_cp A E r p s = true) (mk_K A E r) b) : b = mk_LS A E r p :=
  h.uniq (mk_LS_bst A E r p) (fun x y hx hy e => mk_K_inj hT (mk_s2 hT.1.2.1 (mk_cp_lt hx).1) (mk_s2 hT.1.2.1 (mk_cp_lt hy).1) e)
/-- the next set down -/
theorem mk_and_mod (x y : Nat) : (x &&& y) % 2 = (x % 2) * (y % 2) := by
  have h1 : (x &&& y) % 2 = 1 ↔ x % 2 = 1 ∧ y % 2 = 1 := by
    have := Nat.testBit_and x y 0
    simp only [Nat.testBit_zero] at this
    constructor
    · intro z; rw [decide_eq_true z] at this
      have := this.symm
      simpa using this
    · intro z; rw [decide_eq_true z.1, decide_eq_true z.2] at this
      simpa using this
  rcases Nat.mod_two_eq_zero_or_one x with a | a <;> rcases Nat.mod_two_eq_zero_or_one y with b | b <;> rw [a, b] <;> omega
theorem mk_nx : ∀ (n c m s : Nat), c ≤ n → c &&& m = c → s &&& m = s → s < c → s ≤ (c - 1) &&& m := by
  intro n
  induction n with
  | zero => intro c m s h _ _ h2; omega
  | succ n ih =>
    intro c m s h hc hs hl
    have hc2 : (c / 2) &&& (m / 2) = c / 2 := by rw [← Nat.and_div_two, hc]
    have hs2 : (s / 2) &&& (m / 2) = s / 2 := by rw [← Nat.and_div_two, hs]
    have e : ((c - 1) &&& m) / 2 = ((c - 1) / 2) &&& (m / 2) := Nat.and_div_two
    have em := mk_and_mod (c - 1) m
    have es := mk_and_mod s m
    rw [hs] at es
    rcases Nat.mod_two_eq_zero_or_one c with z | z
    · have ih' := ih (c / 2) (m / 2) (s / 2) (by omega) hc2 hs2 (by omega)
      rw [show (c - 1) / 2 = c / 2 - 1 by omega] at e
      rw [show (c - 1) % 2 = 1 by omega, Nat.one_mul] at em
      have : s % 2 ≤ m % 2 := by
        rcases Nat.mod_two_eq_zero_or_one s with y | y
        · omega
        · rw [y, Nat.one_mul] at es; omega
      omega
    · rw [show (c - 1) / 2 = c / 2 by omega, hc2] at e
      omega
theorem mk_dif_and {a b : Nat} : mk_dif a b = 0 ↔ a &&& b = a := by
  rw [mk_dif_0]
  constructor
  · intro h
    refine Nat.eq_of_testBit_eq (fun i => ?_)
    rw [Nat.testBit_and]
    cases c : a.testBit i
    · rfl
    · rw [h i c]; rfl
  · intro h i hi
    have := congrArg (fun x => x.testBit i) h
    simp only [Nat.testBit_and, hi, Bool.true_and] at this
    exact this
def mk_wn (A : mk_A) (E : mk_E) (r : Nat → Nat) (s n : Nat) : Nat := mk_sum (fun k => if s.testBit k = true then mk_w A E r k else 0) n
theorem mk_t65 : mm_tg 65 = 20 ∧ mm_ln 65 = 1024 := ⟨by decide +kernel, by decide +kernel⟩
theorem mx_weighSets {A : mk_A} {E : mk_E} {t : Nat} {r : Nat → Nat} {h : mm_H} (hT : mk_T A) (hX : mk_XT A E t h) (hw : ∀ k, k < A 263 1 → h.1 76 k = Int32.ofNat (mk_w A E r k)) : mk_ok (f_Co_weighSets t 76 h) (fun v => mk_ch (fun c => c = 65) h v ∧ ∀ s, s < 2 ^ A 263 1 → v.1 65 s = Int32.ofNat (mk_ws A E r s)) := by
  have hS1 := hT.1.2.1
  have h1k := mk_pow10 hS1
  have ht := hX.1
  unfold f_Co_weighSets
  rw [if_pos ⟨(mk_tt ht).1, mk_t76.1⟩]
  refine mk_ok.let ?_
  have k0 : mk_ch (fun c => c = 65) h (mm_pI h 65 0 0) := mk_ch.pI (D := fun c => c = 65) rfl
  refine mk_ok.bind (mk_ok.for (ρ := mm_H) (A 263 1) (fun i (s : Int32 × mm_H) => s.1 = Int32.ofNat i ∧ mk_ch (fun c => c = 65) h s.2 ∧ ∀ j, j < 2 ^ i → s.2.1 65 j = Int32.ofNat (mk_wn A E r j i)) (Q := fun v : mm_H => mk_ch (fun c => c = 65) h v ∧ ∀ s, s < 2 ^ A 263 1 → v.1 65 s = Int32.ofNat (mk_ws A E r s)) ⟨rfl, k0, fun j hj => ?_⟩ (fun i s hi ⟨e1, q1, q2⟩ => ?_) (fun s ⟨e1, q1, q2⟩ => ?_)) (fun v q => mk_ok.ret q)
  · have : j = 0 := by rw [Nat.pow_zero] at hj; omega
    subst this
    show (mm_pI h 65 0 0).1 65 0 = Int32.ofNat 0
    rw [mp_I1, if_pos ⟨rfl, rfl⟩]; rfl
  · have X' := hX.ch q1 (fun c z => by omega)
    have hpi : 2 ^ i ≤ 512 := Nat.pow_le_pow_right (n := 2) (by omega) (show i ≤ 9 by omega)
    rw [X'.2.1.2.1, e1, if_neg (fun z => absurd ((mn_le (by omega) (by omega)).mp z) (show ¬ A 263 1 ≤ i by omega)), mn_shl (by omega)]
    refine mk_ok.let ?_
    refine mk_ok.bind (mk_ok.for (ρ := mm_H) (2 ^ i) (fun j (y : Int32 × mm_H) => y.1 = Int32.ofNat j ∧ mk_ch (fun c => c = 65) h y.2 ∧ ∀ x, x < 2 ^ i + j → y.2.1 65 x = Int32.ofNat (if x < 2 ^ i then mk_wn A E r x i else mk_wn A E r (x - 2 ^ i) i + mk_w A E r i)) (Q := fun v : mm_H => mk_ch (fun c => c = 65) h v ∧ ∀ x, x < 2 ^ i + 2 ^ i → v.1 65 x = Int32.ofNat (if x < 2 ^ i then mk_wn A E r x i else mk_wn A E r (x - 2 ^ i) i + mk_w A E r i)) ⟨rfl, q1, fun x hx => ?_⟩ (fun j y hj ⟨f1, g1, g2⟩ => ?_) (fun y ⟨f1, g1, g2⟩ => ?_)) (fun v14 ⟨b1, b2⟩ => ?_)
    · rw [if_pos (by omega)]; exact q2 x (by omega)
    · rw [f1, if_neg (fun z => absurd ((mn_le (by omega) (by omega)).mp z) (show ¬ 2 ^ i ≤ j by omega))]
      refine mk_ok.bs (mn_ix (show j < 1024 by omega) (by omega)) ?_
      rw [mk_t76.2]
      refine mk_ok.bs (mn_ix (show i < 10 by omega) (by omega)) ?_
      rw [mn_add]
      refine mk_ok.bs (mn_ix (show 2 ^ i + j < 1024 by omega) (by omega)) ?_
      refine mk_ok.let ?_
      refine mk_ok.let ?_
      have w0 := g2 j (by omega)
      rw [if_pos hj] at w0
      rw [mn_addl 1, w0, g1.e1 (c := 76) (by omega), hw i hi, mn_add]
      refine mk_ok.inl ⟨rfl, g1.tr (mk_ch.pI (D := fun c => c = 65) rfl) (fun _ z => z) (fun _ z => z), fun x hx => ?_⟩
      rw [mp_I1]
      by_cases e : x = 2 ^ i + j
      · rw [if_pos ⟨rfl, e⟩, if_neg (by omega), e, Nat.add_sub_cancel_left]
      · rw [if_neg (fun z => e z.2)]; exact g2 x (by omega)
    · rw [f1, if_pos (Int32.le_refl _)]
      exact mk_ok.inr ⟨g1, g2⟩
    · refine mk_ok.let ?_
      rw [mn_addl 1]
      refine mk_ok.inl ⟨rfl, b1, fun j hj => ?_⟩
      rw [Nat.pow_succ] at hj
      rw [b2 j (by omega)]
      congr 1
      show _ = mk_wn A E r j i + (if j.testBit i = true then mk_w A E r i else 0)
      by_cases c : j < 2 ^ i
      · rw [if_pos c, Nat.testBit_lt_two_pow c, if_neg (by decide), Nat.add_zero]
      · have ej : j = 2 ^ i + (j - 2 ^ i) := by omega
        have tb : j.testBit i = true := by
          rw [ej, Nat.testBit_two_pow_add_eq, Nat.testBit_lt_two_pow (show j - 2 ^ i < 2 ^ i by omega)]; rfl
        rw [if_neg c, tb, if_pos rfl]
        congr 1
        refine mk_sum_congr (fun k hk => ?_)
        have : j.testBit k = (j - 2 ^ i).testBit k := by
          conv => lhs; rw [ej]
          exact Nat.testBit_two_pow_add_gt hk _
        rw [this]
  · have X' := hX.ch q1 (fun c z => by omega)
    rw [X'.2.1.2.1, e1, if_pos (Int32.le_refl _)]
    exact mk_ok.inr ⟨q1, q2⟩
theorem mx_isLesser {A : mk_A} {E : mk_E} {r : Nat → Nat} {h : mm_H} (hT : mk_T A) (hw : ∀ s, s < 2 ^ A 263 1 → h.1 65 s = Int32.ofNat (mk_ws A E r s)) {a b : Nat} (ha : a < 2 ^ A 263 1) (hb : b < 2 ^ A 263 1) : f_Co_isLesser (Int32.ofNat a) (Int32.ofNat b) h = some (@ite _ (mk_K A E r a < mk_K A E r b) (Classical.propDecidable _) 1 0) := by
  have hS1 := hT.1.2.1
  have a1 := mk_s2 hS1 ha
  have b1 := mk_s2 hS1 hb
  have p1 := mk_pc_le a
  have p2 := mk_pc_le b
  have w1 := mk_ws_le (E := E) (r := r) (s := a) hT
  have w2 := mk_ws_le (E := E) (r := r) (s := b) hT
  have KK := mk_K_lt (E := E) (r := r) hT a1 b1
  unfold f_Co_isLesser
  rw [mk_bs (mn_bc a1), mk_bs (mn_bc b1), mk_bs (mn_ix (show a < 1024 by omega) (by omega)), mk_bs (mn_ix (show b < 1024 by omega) (by omega)), mk_bs (mn_ix (show a < 1024 by omega) (by omega)), mk_bs (mn_ix (show b < 1024 by omega) (by omega)), hw a ha, hw b hb]
  by_cases c1 : mk_pc a = mk_pc b
  · rw [if_pos ((mn_eq (by omega) (by omega)).mpr c1)]
    by_cases c2 : mk_ws A E r a = mk_ws A E r b
    · rw [if_pos ((mn_eq (by omega) (by omega)).mpr c2)]
      by_cases c3 : a < b
      · rw [if_neg (fun z => absurd ((mn_le (by omega) (by omega)).mp z) (by omega)), if_pos (KK.mpr (by omega))]
      · rw [if_pos ((mn_le (by omega) (by omega)).mpr (by omega)), if_neg (fun z => by have := KK.mp z; omega)]
    · rw [if_neg (fun z => c2 ((mn_eq (by omega) (by omega)).mp z))]
      by_cases c3 : mk_ws A E r a < mk_ws A E r b
      · rw [if_neg (fun z => absurd ((mn_le (by omega) (by omega)).mp z) (by omega)), if_pos (KK.mpr (by omega))]
      · rw [if_pos ((mn_le (by omega) (by omega)).mpr (by omega)), if_neg (fun z => by have := KK.mp z; omega)]
  · rw [if_neg (fun z => c1 ((mn_eq (by omega) (by omega)).mp z))]
    by_cases c3 : mk_pc a < mk_pc b
    · rw [if_neg (fun z => absurd ((mn_le (by omega) (by omega)).mp z) (by omega)), if_pos (KK.mpr (by omega))]
    · rw [if_pos ((mn_le (by omega) (by omega)).mpr (by omega)), if_neg (fun z => by have := KK.mp z; omega)]
theorem mn_rm2 {a : Nat} (ha : a < 4000) : (Int32.ofNat a - 1 = -1) ↔ a = 0 := by
  constructor
  · intro z
    have : Int32.ofNat a = Int32.ofNat 0 := by
      show Int32.ofNat a = 0
      grind
    exact (mn_eq (by omega) (by omega)).mp this
  · intro z; subst z; rfl
theorem mx_fewest {A : mk_A} {E : mk_E} {t a : Nat} {r : Nat → Nat} {h : mm_H} (hT : mk_T A) (hX : mk_XT A E t h) (hW : mk_W A r) (hS : mk_XS A a r h) (hw : ∀ s, s < 2 ^ A 263 1 → h.1 65 s = Int32.ofNat (mk_ws A E r s)) {p : Nat} (hp : p < A 263 0) : f_Co_fewest t a (Int32.ofNat p) h = some (Int32.ofNat (mk_LS A E r p) - 1) := by
  have hS1 := hT.1.2.1
  have hP := hT.1.1
  have b78 := mk_p2 hP hW.2.2.2.2.1
  have h1k := mk_pow10 hS1
  unfold f_Co_fewest
  have e7 : h.1 a 7 = Int32.ofNat (r 78) := hS.2.2.2.2.2.1
  rw [if_pos ⟨(mk_tt hX.1).1, hS.1⟩, e7, mk_bs (mn_xbit (show r 78 < 2147483648 by omega) (show p < 31 by omega))]
  cases c : (r 78).testBit p
  · rw [if_neg (by decide), mk_bs (mx_payable hT hX hW hS (show p < 31 by omega))]
    have mlt : mk_dif (mk_kb A r p) (r 77) < 2 ^ A 263 1 := mk_dif_le (mk_kb_lt A r p)
    generalize hm : mk_dif (mk_kb A r p) (r 77) = m at mlt
    have cp : ∀ s, mk_cp A E r p s = true ↔ (0 < s ∧ s &&& m = s ∧ A 268 p ≤ mk_ws A E r s) := fun s => by
      unfold mk_cp
      rw [c, hm]
      simp only [Bool.not_false, Bool.true_and, Bool.and_eq_true, decide_eq_true_eq, mk_dif_and]
    have tx : h.1 (t + 4) p = Int32.ofNat (A 268 p) := (hX.2.2.1 p hp).2.2
    have t9 := (hT.2.1 p hp).2.2
    have L : ∃ v, mm_while (σ := (Int32 × Int32)) (ρ := Int32) (fun s5 => if s5.2 ≤ 0 then (some (Sum.inr s5.1)) else ((mm_ix s5.2 1024).bind fun k11 => (mm_ix (Int32.ofNat p) 6).bind fun k13 => (if (h.1 65 k11) < (h.1 (t + 4) k13) then (some s5.1) else (mm_jp (fun (j17 : Unit) => (some s5.2)) fun k19 => if s5.1 = (-1) then (k19 ()) else ((f_Co_isLesser s5.2 s5.1 h).bind fun v21 => if v21 = 0 then (some s5.1) else (k19 ()))) : Option Int32).bind fun j15 => mm_let ((s5.2 - 1) &&& Int32.ofNat m) fun y32 => some (Sum.inl (j15, y32)))) ((-1), Int32.ofNat m) = some v ∧ v = Int32.ofNat (mk_LS A E r p) - 1 := by
      refine mp_loop (fun s : Int32 × Int32 => ∃ b cur, s = (Int32.ofNat b - 1, Int32.ofNat cur) ∧ cur &&& m = cur ∧ cur < 2 ^ A 263 1 ∧ b ≤ 2 ^ A 263 1 ∧ mk_bst (fun x => cur < x ∧ mk_cp A E r p x = true) (mk_K A E r) b) (fun s => s.2.toInt.toNat) _ (fun s hs => ?_) _ ⟨0, m, rfl, Nat.and_self _, mlt, Nat.zero_le _, ⟨fun _ x hx => ?_, fun z => absurd rfl z⟩⟩
      · obtain ⟨b, cur, rfl, c1, c2, c3, c4⟩ := hs
        dsimp only
        by_cases z : cur = 0
        · right
          rw [if_pos ((mn_lel (b := 0) (show cur < 2147483648 by omega) (by decide)).mpr (show cur ≤ 0 by omega))]
          refine ⟨_, rfl, ?_⟩
          have : mk_bst (fun x => mk_cp A E r p x = true) (mk_K A E r) b := ⟨fun y x hx => c4.1 y x ⟨by have := (mk_cp_lt hx).2; omega, hx⟩, fun y => ⟨(c4.2 y).1.2, fun x hx => (c4.2 y).2 x ⟨by have := (mk_cp_lt hx).2; omega, hx⟩⟩⟩
          rw [mk_LS_is hT this]
        · left
          rw [if_neg (fun y => absurd ((mn_lel (b := 0) (show cur < 2147483648 by omega) (by decide)).mp y) (show ¬ cur ≤ 0 by omega)), mk_bs (mn_ix (show cur < 1024 by omega) (by omega)), mk_bs (mn_ix (show p < 6 by omega) (by omega)), hw cur c2, tx]
          have w1 := mk_ws_le (E := E) (r := r) (s := cur) hT
          have nxt : (Int32.ofNat cur - 1) &&& Int32.ofNat m = Int32.ofNat ((cur - 1) &&& m) := by rw [mn_on1 z, mn_and]
          have nle : (cur - 1) &&& m ≤ cur - 1 := Nat.and_le_left
          have nsub : ((cur - 1) &&& m) &&& m = (cur - 1) &&& m := by rw [Nat.and_assoc, Nat.and_self]
          have sp : ∀ x, ((cur - 1) &&& m < x ∧ mk_cp A E r p x = true) → (cur < x ∧ mk_cp A E r p x = true) ∨ x = cur := fun x q => by
            rcases Nat.lt_trichotomy x cur with y | y | y
            · have := mk_nx cur cur m x (Nat.le_refl _) c1 ((cp x).mp q.2).2.1 y
              omega
            · exact Or.inr y
            · exact Or.inl ⟨y, q.2⟩
          have fin : ∀ b', b' ≤ 2 ^ A 263 1 → mk_bst (fun x => (cur - 1) &&& m < x ∧ mk_cp A E r p x = true) (mk_K A E r) b' → ∃ s' : Int32 × Int32, ((some (Int32.ofNat b' - 1) : Option Int32).bind fun j15 => mm_let ((Int32.ofNat cur - 1) &&& Int32.ofNat m) fun y32 => some (Sum.inl (j15, y32) : (Int32 × Int32) ⊕ Int32)) = some (Sum.inl s') ∧ (∃ b cur, s' = (Int32.ofNat b - 1, Int32.ofNat cur) ∧ cur &&& m = cur ∧ cur < 2 ^ A 263 1 ∧ b ≤ 2 ^ A 263 1 ∧ mk_bst (fun x => cur < x ∧ mk_cp A E r p x = true) (mk_K A E r) b) ∧ s'.2.toInt.toNat < (Int32.ofNat cur).toInt.toNat := fun b' l q => by
            refine ⟨(Int32.ofNat b' - 1, Int32.ofNat ((cur - 1) &&& m)), ?_, ⟨b', _, rfl, nsub, by omega, l, q⟩, ?_⟩
            · rw [nxt]; rfl
            · have g : ∀ x : Nat, x < 2147483648 → (Int32.ofNat x).toInt.toNat = x := fun x hx => by rw [Int32.toInt_ofNat_of_lt (by omega)]; rfl
              show (Int32.ofNat ((cur - 1) &&& m)).toInt.toNat < _
              rw [g _ (by omega), g _ (by omega)]
              omega
          by_cases y : mk_ws A E r cur < A 268 p
          · rw [if_pos ((mn_lt (by omega) (by omega)).mpr y)]
            refine fin b c3 (c4.skip (fun x q => ⟨by omega, q.2⟩) sp (fun q => ?_))
            have := ((cp cur).mp q.2).2.2
            omega
          · rw [if_neg (fun x => y ((mn_lt (by omega) (by omega)).mp x))]
            have ccp : mk_cp A E r p cur = true := (cp cur).mpr ⟨by omega, c1, by omega⟩
            have hnew : (b = 0 ∨ mk_K A E r cur < mk_K A E r (b - 1)) → mk_bst (fun x => (cur - 1) &&& m < x ∧ mk_cp A E r p x = true) (mk_K A E r) (cur + 1) := fun q => c4.take ⟨by omega, ccp⟩ sp q
            simp only [mm_jp]
            have ecur : (some (Int32.ofNat cur) : Option Int32) = some (Int32.ofNat (cur + 1) - 1) := by rw [mn_on1 (by omega)]; rfl
            by_cases zb : b = 0
            · rw [if_pos ((mn_rm2 (by omega)).mpr zb), ecur]
              exact fin (cur + 1) (by omega) (hnew (Or.inl zb))
            · rw [if_neg (fun x => zb ((mn_rm2 (by omega)).mp x)), mn_on1 zb, mk_bs (mx_isLesser hT hw c2 (show b - 1 < 2 ^ A 263 1 by omega))]
              by_cases k : mk_K A E r cur < mk_K A E r (b - 1)
              · rw [if_pos k, if_neg (by decide), ecur]
                exact fin (cur + 1) (by omega) (hnew (Or.inr k))
              · rw [if_neg k, if_pos rfl, ← mn_on1 zb]
                exact fin b c3 (c4.skip (fun x q => ⟨by omega, q.2⟩) sp (fun q => ⟨zb, Nat.le_of_not_lt k⟩))
      · obtain ⟨q1, q2⟩ := hx
        have := ((cp x).mp q2).2.1
        have : x ≤ m := by rw [← this]; exact Nat.and_le_right
        omega
    obtain ⟨v, e, ev⟩ := L
    rw [mk_bs e, ev]
  · rw [if_pos (by decide)]
    have : mk_bst (fun s => mk_cp A E r p s = true) (mk_K A E r) 0 := ⟨fun _ s hs => by
      unfold mk_cp at hs
      rw [c] at hs
      exact absurd hs (by simp), fun z => absurd rfl z⟩
    rw [← mk_LS_is hT this]
    rfl
