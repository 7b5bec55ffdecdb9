/-! plot: a telling tried and undone, what is gained: the class's side -/
theorem mk_XS.cg {A : mk_A} {a : Nat} {r r' : Nat → Nat} {h : mm_H} (q : mk_XS A a r h) (hT : mk_T A) (e : ∀ j, j < 10 ∨ 70 ≤ j → r' j = r j) : mk_XS A a r' h := by
  have hS1 := hT.1.2.1
  obtain ⟨q0, q1, q2, q3, q4, q5, q6, q7⟩ := q
  exact ⟨q0, fun k hk => by rw [q1 k hk, e k (Or.inl (by omega))], fun p hp => ⟨by rw [(q2 p hp).1, e _ (Or.inr (by omega))], by rw [(q2 p hp).2, e _ (Or.inr (by omega))]⟩, by rw [q3, e 76 (Or.inr (by omega))], by rw [q4, e 77 (Or.inr (by omega))], by rw [q5, e 78 (Or.inr (by omega))], by rw [q6, e 122 (Or.inr (by omega))], by rw [q7, e 85 (Or.inr (by omega))]⟩
def mk_awr (A : mk_A) (a : Nat) (r : Nat → Nat) (h : mm_H) : Nat → Nat := fun j => if j < 10 ∨ 70 ≤ j then r j else mk_set (fun q => (h.2.1 (a + 2) ((j - 10) / 10)).toBitVec.getLsbD (q * 10 + (j - 10) % 10)) (A 263 0)
theorem mk_awr_o {A : mk_A} {a : Nat} {r : Nat → Nat} {h : mm_H} {j : Nat} (hj : j < 10 ∨ 70 ≤ j) : mk_awr A a r h j = r j := if_pos hj
theorem mk_awr_i {A : mk_A} {a : Nat} {r : Nat → Nat} {h : mm_H} {p k : Nat} (hp : p < 6) (hk : k < 10) : mk_awr A a r h (10 + 10 * p + k) = mk_set (fun q => (h.2.1 (a + 2) p).toBitVec.getLsbD (q * 10 + k)) (A 263 0) := by
  unfold mk_awr
  rw [if_neg (by omega), show (10 + 10 * p + k - 10) / 10 = p by omega, show (10 + 10 * p + k - 10) % 10 = k by omega]
theorem mk_awr_XA {A : mk_A} {a : Nat} {r : Nat → Nat} {h : mm_H} (hT : mk_T A) : mk_XA A a (mk_awr A a r h) h := fun p q k hp hq hk => by
  have hP := hT.1.1
  have hS1 := hT.1.2.1
  rw [mk_awr_i (by omega) (by omega), mk_set_bit, decide_eq_true hq, Bool.true_and]
theorem mk_awr_W {A : mk_A} {a : Nat} {r : Nat → Nat} {h : mm_H} (hT : mk_T A) (hW : mk_W A r) : mk_W A (mk_awr A a r h) := by
  have hP := hT.1.1
  have hS1 := hT.1.2.1
  obtain ⟨q0, q1, q2, q3, q4, q5, q6, q7⟩ := hW
  refine ⟨fun k hk => ?_, fun p hp => ?_, ?_, ?_, ?_, ?_, fun p k hp hk => ?_, fun p q hp hq w => ?_⟩
  · rw [mk_awr_o (by omega)]; exact q0 k hk
  · rw [mk_awr_o (by omega)]; exact q1 p hp
  · rw [mk_awr_o (by omega)]; exact q2
  · rw [mk_awr_o (by omega)]; exact q3
  · rw [mk_awr_o (by omega)]; exact q4
  · rw [mk_awr_o (by omega)]; exact q5
  · rw [mk_awr_i (by omega) (by omega)]; exact mk_set_lt _ _
  · rw [mk_awr_o (by omega)]; exact q7 p q hp hq w
theorem mx_whisper1 {A : mk_A} {E : mk_E} {t a : Nat} {r : Nat → Nat} {h : mm_H} (hT : mk_T A) (hW : mk_W A r) (hX : mk_XT A E t h) (ha : mk_sa a) (hS : mk_XS A a r h) {p q k : Nat} (hp : p < A 263 0) (hq : q < A 263 0) (hpq : ¬ p = q) (hk : k < A 263 1) : mk_ok (f_St_whisper a t (Int32.ofNat p) (Int32.ofNat q) (Int32.ofNat k) h) (fun v => mk_ch (fun c => a ≤ c ∧ c ≤ a + 2) h v ∧ mk_XS A a (mk_tell A r p q k) v) := by
  have hS1 := hT.1.2.1
  refine mk_ok.cons (mx_whisper hT (mk_awr_W (a := a) (h := h) hT hW) hX ha (hS.cg hT (fun j hj => mk_awr_o hj)) (mk_awr_XA hT) hp hq hpq hk) (fun v ⟨c1, c2, _⟩ => ⟨c1, c2.cg hT (fun j hj => ?_)⟩)
  unfold mk_tell
  rw [mk_awr_o hj, mk_awr_o (show 76 < 10 ∨ 70 ≤ 76 by omega), mk_awr_o (show k < 10 ∨ 70 ≤ k by omega)]
theorem mn_unset {x q : Nat} (hx : x < 64) (hq : q < 6) (hb : x.testBit q = false) : Int32.ofNat (x ||| 2 ^ q) &&& (((1 : Int32) <<< (Int32.ofNat q &&& 31)) ^^^ (-1)) = Int32.ofNat x := (by decide +kernel : ∀ x : Nat, x < 64 → ∀ q : Nat, q < 6 → x.testBit q = false → Int32.ofNat (x ||| 2 ^ q) &&& (((1 : Int32) <<< (Int32.ofNat q &&& 31)) ^^^ (-1)) = Int32.ofNat x) x hx q hq hb
theorem mx_forget {A : mk_A} {a : Nat} {r : Nat → Nat} {h : mm_H} (hT : mk_T A) (hW : mk_W A r) {p q k : Nat} (hp : p < A 263 0) (hq : q < A 263 0) (hk : k < A 263 1) (hb : (r k).testBit q = false) (hS : mk_XS A a (mk_tell A r p q k) h) : mk_ok (f_St_forget a (Int32.ofNat q) (Int32.ofNat k) (Int32.ofNat (r 76)) h) (fun v => mk_ch (fun c => a ≤ c ∧ c ≤ a + 2) h v ∧ mk_XS A a r v) := by
  have hP := hT.1.1
  have hS1 := hT.1.2.1
  obtain ⟨s0, s1, s2, s3, s4, s5, s6, s7⟩ := hS
  unfold f_St_forget
  rw [if_pos s0, mk_bs (mn_ix (show k < 10 by omega) (by omega)), mk_bs (mn_ix (show k < 10 by omega) (by omega)), s1 k hk]
  have tk : mk_tell A r p q k k = r k ||| 2 ^ q := if_pos rfl
  have to : ∀ j, j < 10 → ¬ j = k → mk_tell A r p q k j = r j := fun j hj e => by
    unfold mk_tell
    rw [if_neg e, if_neg (by omega), if_neg (by omega), if_neg (by omega)]
  have th : ∀ j, 70 ≤ j → ¬ j = 76 → mk_tell A r p q k j = r j := fun j hj e => by
    unfold mk_tell
    rw [if_neg (by omega), if_neg (by omega), if_neg (by omega), if_neg e]
  rw [tk, mn_unset (mk_p2 hP (hW.1 k hk)) (by omega) hb]
  refine mk_ok.let (mk_ok.let (mk_ok.ret ⟨?_, s0, fun j hj => ?_, fun j hj => ⟨?_, ?_⟩, ?_, ?_, ?_, ?_, ?_⟩))
  · exact (mk_ch.pI (D := fun c => a ≤ c ∧ c ≤ a + 2) ⟨by omega, by omega⟩).tr (mk_ch.pI (D := fun c => a ≤ c ∧ c ≤ a + 2) ⟨by omega, by omega⟩) (fun _ z => z) (fun _ z => z)
  · rw [mp_I1, if_neg (by omega), mp_I1]
    by_cases e : j = k
    · rw [if_pos ⟨rfl, e⟩, e]
    · rw [if_neg (fun z => e z.2), s1 j hj, to j (by omega) e]
  · rw [mp_I1, if_neg (by omega), mp_I1, if_neg (by omega), (s2 j hj).1, th _ (by omega) (by omega)]
  · rw [mp_I1, if_neg (by omega), mp_I1, if_neg (by omega), (s2 j hj).2, th _ (by omega) (by omega)]
  · rw [mp_I1, if_pos ⟨rfl, rfl⟩]
  · rw [mp_I1, if_neg (by omega), mp_I1, if_neg (by omega), s4, th _ (by omega) (by omega)]
  · rw [mp_I1, if_neg (by omega), mp_I1, if_neg (by omega), s5, th _ (by omega) (by omega)]
  · rw [mp_I1, if_neg (by omega), mp_I1, if_neg (by omega), s6, th _ (by omega) (by omega)]
  · rw [mp_I1, if_neg (by omega), mp_I1, if_neg (by omega), s7, th _ (by omega) (by omega)]
theorem mk_sum_s (f : Nat → Nat) (n : Nat) : mk_sum f (n + 1) = mk_sum f n + f n := rfl
theorem mn_gstep (G1 G2 w : Nat) (b1 b2 : Bool) : Int32.ofNat G1 - Int32.ofNat G2 + Int32.ofNat w * (Int32.ofNat b1.toNat - Int32.ofNat b2.toNat) = Int32.ofNat (G1 + if b1 = true then w else 0) - Int32.ofNat (G2 + if b2 = true then w else 0) := by
  rw [← mn_add, ← mn_add]
  cases b1 <;> cases b2
  · show Int32.ofNat G1 - Int32.ofNat G2 + Int32.ofNat w * (0 - 0) = Int32.ofNat G1 + 0 - (Int32.ofNat G2 + 0)
    generalize Int32.ofNat G1 = x; generalize Int32.ofNat G2 = y; generalize Int32.ofNat w = z
    grind
  · show Int32.ofNat G1 - Int32.ofNat G2 + Int32.ofNat w * (0 - 1) = Int32.ofNat G1 + 0 - (Int32.ofNat G2 + Int32.ofNat w)
    generalize Int32.ofNat G1 = x; generalize Int32.ofNat G2 = y; generalize Int32.ofNat w = z
    grind
  · show Int32.ofNat G1 - Int32.ofNat G2 + Int32.ofNat w * (1 - 0) = Int32.ofNat G1 + Int32.ofNat w - (Int32.ofNat G2 + 0)
    generalize Int32.ofNat G1 = x; generalize Int32.ofNat G2 = y; generalize Int32.ofNat w = z
    grind
  · show Int32.ofNat G1 - Int32.ofNat G2 + Int32.ofNat w * (1 - 1) = Int32.ofNat G1 + Int32.ofNat w - (Int32.ofNat G2 + Int32.ofNat w)
    generalize Int32.ofNat G1 = x; generalize Int32.ofNat G2 = y; generalize Int32.ofNat w = z
    grind
def mk_gap (A : mk_A) (E : mk_E) (r : Nat → Nat) (p q : Nat) : Int32 := Int32.ofNat (mk_ws A E r (mk_kb A r p)) - Int32.ofNat (mk_ws A E r (mk_kb A r q))
def mk_tb (A : mk_A) (E : mk_E) (r : Nat → Nat) (h : mm_H) : Prop := ∀ i k, i < A 263 1 → k < 7 → h.1 77 (i * 7 + k) = Int32.ofNat (mk_b A E r i k)
theorem mx_gain {A : mk_A} {E : mk_E} {t : Nat} {r : Nat → Nat} {h : mm_H} (hT : mk_T A) (hW : mk_W A r) (ht : h.2.2 32 14 = some t) (hX : mk_XT A E t h) (hS : mk_XS A 41 r h) (h77 : mk_tb A E r h) {p q : Nat} (hp : p < A 263 0) (hq : q < A 263 0) : mk_ok (f_X_gain (Int32.ofNat p) (Int32.ofNat q) h) (fun v => v.1 = mk_gap A E r p q ∧ mk_ch (fun c => c = 76) h v.2) := by
  have hP := hT.1.1
  have hS1 := hT.1.2.1
  have htt := hX.1
  unfold f_X_gain
  refine mk_ok.bind (mk_ok.for (ρ := Int32 × mm_H) (A 263 1) (fun i (s : Int32 × Int32 × mm_H) => s.2.1 = Int32.ofNat i ∧ s.1 = Int32.ofNat (mk_sum (fun k => if (mk_kb A r p).testBit k = true then mk_w A E r k else 0) i) - Int32.ofNat (mk_sum (fun k => if (mk_kb A r q).testBit k = true then mk_w A E r k else 0) i) ∧ mk_ch (fun c => c = 76) h s.2.2 ∧ ∀ k, k < i → s.2.2.1 76 k = Int32.ofNat (mk_w A E r k)) (Q := fun v => v.1 = mk_gap A E r p q ∧ mk_ch (fun c => c = 76) h v.2) ⟨rfl, (show (0 : Int32) = Int32.ofNat 0 - Int32.ofNat 0 by decide), mk_ch.rf, fun k hk => absurd hk (Nat.not_lt_zero k)⟩ (fun i s hi ⟨e1, e2, q1, q2⟩ => ?_) (fun s ⟨e1, e2, q1, q2⟩ => ?_)) (fun v hv => mk_ok.ret hv)
  · obtain ⟨t1, t2, t3, t4, t5, t6, t7⟩ := hT.2.2.1 i hi
    have hX1 := hX.ch q1 (fun j z => by omega)
    have hS2 := hS.ch q1 (fun j z => by omega)
    have gT := mx_gT (h := s.2.2) (by rw [q1.2]; exact ht) htt
    have e4 := hW.1 i hi
    have r64 := mk_p2 hP e4
    have e5 := (hX1.2.2.2.1 i hi).2.2.1
    have ix : mm_ix (Int32.ofNat i) 10 = some i := mn_ix (by omega) (by omega)
    have m76 := mk_s2 hS1 hW.2.2.1
    refine mk_ok.bs gT ?_
    rw [hX1.2.1.2.1, e1, if_neg (fun z => absurd ((mn_le (by omega) (by omega)).mp z) (show ¬ A 263 1 ≤ i by omega)), hS2.2.2.2.1]
    refine mk_ok.bs (mn_xbit (show r 76 < 2147483648 by omega) (by omega)) ?_
    have ew := mk_w_eq (E := E) (r := r) t5
    refine mk_ok.bs (v := Int32.ofNat (mk_w A E r i)) ?_ ?_
    · cases b : (r 76).testBit i
      · rw [b, if_neg (by decide)] at ew
        have kl := mk_kn_le (A := A) (s := r i)
        rw [if_pos (show Int32.ofNat false.toNat = 0 from rfl), mk_bs gT, mk_bs ix]
        simp only [mm_let]
        rw [mk_bs gT, mk_bs ix, hS2.2.1 i hi, mk_bs (mx_knowers hT hX1 e4), mn_mull 7, mn_add, mk_bs (mn_ix (show i * 7 + mk_kn A (r i) < 70 by omega) (by omega)), q1.e1 (c := 77) (by decide), h77 i (mk_kn A (r i)) hi (by omega), e5]
        have on : (if 0 ≤ Int32.ofNat (A 272 i) - 1 then ((mm_ix (Int32.ofNat (A 272 i) - 1) 10).bind fun k29 => some (s.2.2.1 76 k29)) else (some 0) : Option Int32) = some (Int32.ofNat (if A 272 i = 0 then 0 else mk_w A E r (A 272 i - 1))) := by
          by_cases ho : A 272 i = 0
          · rw [ho, if_neg (by decide), if_pos rfl]; rfl
          · rw [mn_on1 ho, if_neg ho, if_pos ((mn_lle (b := 0) (show A 272 i - 1 < 2147483648 by omega) (by decide)).mpr (Nat.zero_le _)), mk_bs (mn_ix (show A 272 i - 1 < 10 by omega) (by omega)), q2 _ (by omega)]
        rw [mk_bs on, mn_add, ← ew]
      · rw [b, if_pos rfl] at ew
        rw [if_neg (show ¬ Int32.ofNat true.toNat = 0 by decide), ew]; rfl
    · refine mk_ok.bs ix ?_
      refine mk_ok.let ?_
      have c42 : (mm_pI s.2.2 76 i (Int32.ofNat (mk_w A E r i))).1 42 i = Int32.ofNat (r i) := by rw [mp_I1, if_neg (by omega)]; exact hS2.2.1 i hi
      refine mk_ok.bs ix ?_
      rw [c42]
      refine mk_ok.bs (mn_xbit (by omega) (by omega)) ?_
      refine mk_ok.bs ix ?_
      rw [c42]
      refine mk_ok.bs (mn_xbit (by omega) (by omega)) ?_
      rw [mn_addl 1, e2, mn_gstep]
      refine mk_ok.let (mk_ok.let (mk_ok.inl ⟨rfl, ?_, q1.tr (mk_ch.pI (D := fun c => c = 76) rfl) (fun _ z => z) (fun _ z => z), fun k hk => ?_⟩))
      · have kb : ∀ x, (mk_kb A r x).testBit i = (r i).testBit x := fun x => by rw [mk_kb_bit, decide_eq_true hi, Bool.true_and]
        rw [mk_sum_s, mk_sum_s]
        dsimp only
        rw [kb, kb]
      · rw [mp_I1]
        by_cases e : k = i
        · rw [if_pos ⟨rfl, e⟩, e]
        · rw [if_neg (fun z => e z.2)]; exact q2 k (by omega)
  · have hX1 := hX.ch q1 (fun j z => by omega)
    have gT := mx_gT (h := s.2.2) (by rw [q1.2]; exact ht) htt
    refine mk_ok.bs gT ?_
    rw [hX1.2.1.2.1, e1, if_pos (Int32.le_refl _)]
    exact mk_ok.inr ⟨e2, q1⟩
theorem mx_fillLawful {A : mk_A} {E : mk_E} {t : Nat} {r : Nat → Nat} {h : mm_H} (hT : mk_T A) (ht : h.2.2 32 14 = some t) (hX : mk_XT A E t h) (hS : mk_XS A 41 r h) : mk_ok (f_X_fillLawful h) (fun v => mk_ch (fun c => c = 77 ∨ c = t + 16) h v ∧ mk_tb A E r v) := by
  have hP := hT.1.1
  have hS1 := hT.1.2.1
  have htt := hX.1
  have xx : ∀ {v}, mk_ch (fun c => c = 77 ∨ c = t + 16) h v → mk_XT A E t v ∧ mk_XS A 41 r v ∧ mm_gT v 14 = some t := fun k => ⟨hX.ch k (fun j z => by omega), hS.ch k (fun j z => by omega), mx_gT (by rw [k.2]; exact ht) htt⟩
  unfold f_X_fillLawful
  refine mk_ok.bind (mk_ok.for (ρ := mm_H) (A 263 1) (fun i (s : Int32 × mm_H) => s.1 = Int32.ofNat i ∧ mk_ch (fun c => c = 77 ∨ c = t + 16) h s.2 ∧ ∀ j k, j < i → k < 7 → s.2.1 77 (j * 7 + k) = Int32.ofNat (mk_b A E r j k)) (Q := fun v => mk_ch (fun c => c = 77 ∨ c = t + 16) h v ∧ mk_tb A E r v) ⟨rfl, mk_ch.rf, fun j k hj => absurd hj (Nat.not_lt_zero j)⟩ (fun i s hi ⟨e1, q1, q2⟩ => ?_) (fun s ⟨e1, q1, q2⟩ => ?_)) (fun v hv => mk_ok.ret hv)
  · obtain ⟨x1, x2, x3⟩ := xx q1
    refine mk_ok.bs x3 ?_
    rw [x1.2.1.2.1, e1, if_neg (fun z => absurd ((mn_le (by omega) (by omega)).mp z) (show ¬ A 263 1 ≤ i by omega))]
    refine mk_ok.bind (mk_ok.for (ρ := mm_H) 7 (fun k (s : Int32 × mm_H) => s.1 = Int32.ofNat k ∧ mk_ch (fun c => c = 77 ∨ c = t + 16) h s.2 ∧ (∀ j k, j < i → k < 7 → s.2.1 77 (j * 7 + k) = Int32.ofNat (mk_b A E r j k)) ∧ ∀ j, j < k → s.2.1 77 (i * 7 + j) = Int32.ofNat (mk_b A E r i j)) (Q := fun v => mk_ch (fun c => c = 77 ∨ c = t + 16) h v ∧ (∀ j k, j < i → k < 7 → v.1 77 (j * 7 + k) = Int32.ofNat (mk_b A E r j k)) ∧ ∀ j, j < 7 → v.1 77 (i * 7 + j) = Int32.ofNat (mk_b A E r i j)) ⟨rfl, q1, q2, fun j hj => absurd hj (Nat.not_lt_zero j)⟩ (fun k s hk ⟨f1, g1, g2, g3⟩ => ?_) (fun s ⟨f1, g1, g2, g3⟩ => ?_)) (fun v12 ⟨g1, g2, g3⟩ => ?_)
    · obtain ⟨y1, y2, y3⟩ := xx g1
      rw [f1, if_neg (fun z => absurd ((mn_lle (b := 7) (show k < 2147483648 by omega) (by decide)).mp z) (show ¬ 7 ≤ k by omega))]
      refine mk_ok.bs y3 ?_
      refine mk_ok.bind (mx_lawWorth hT y1 y2 hi (show k ≤ 10 by omega)) (fun v18 ⟨w1, w2⟩ => ?_)
      have idx : Int32.ofNat i * 7 + Int32.ofNat k = Int32.ofNat (i * 7 + k) := by rw [mn_mull 7, mn_add]
      rw [idx, mn_addl 1, w1]
      refine mk_ok.bs (mn_ix (show i * 7 + k < 70 by omega) (by omega)) ?_
      have n77 : v18.2.1 77 = s.2.1 77 := w2.e1 (by omega)
      refine mk_ok.let (mk_ok.let (mk_ok.inl ⟨rfl, ((g1.tr w2 (fun _ z => z) (fun _ z => Or.inr z))).tr (mk_ch.pI (D := fun c => c = 77 ∨ c = t + 16) (Or.inl rfl)) (fun _ z => z) (fun _ z => z), fun j l hj hl => ?_, fun j hj => ?_⟩))
      · rw [mp_I1, if_neg (by omega), n77]; exact g2 j l hj hl
      · rw [mp_I1]
        by_cases e : j = k
        · rw [e, if_pos ⟨rfl, rfl⟩]
        · rw [if_neg (by omega), n77]; exact g3 j (by omega)
    · rw [f1, if_pos (show (7 : Int32) ≤ Int32.ofNat 7 from Int32.le_refl _)]
      exact mk_ok.inr ⟨g1, g2, g3⟩
    · rw [mn_addl 1]
      refine mk_ok.let (mk_ok.inl ⟨rfl, g1, fun j k hj hk => ?_⟩)
      by_cases e : j = i
      · rw [e]; exact g3 k hk
      · exact g2 j k (by omega) hk
  · obtain ⟨x1, x2, x3⟩ := xx q1
    refine mk_ok.bs x3 ?_
    rw [x1.2.1.2.1, e1, if_pos (Int32.le_refl _)]
    exact mk_ok.inr ⟨q1, q2⟩
