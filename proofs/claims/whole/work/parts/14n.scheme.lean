/-! plot: the class's search -/
theorem mn_div10 {a : Nat} (ha : a < 60) : Int32.ofNat a / 10 = Int32.ofNat (a / 10) := mn_divl (b := 10) (by omega) (by decide)
theorem mn_rem10 {a : Nat} (ha : a < 60) : Int32.ofNat a - Int32.ofNat a / 10 * 10 = Int32.ofNat (a % 10) := mn_reml (b := 10) (by omega) (by decide)
theorem mk_ct_0 {A : mk_A} {r : Nat → Nat} {p q k : Nat} (h : mk_ct A r p q k = true) : (r k).testBit q = false := by
  unfold mk_ct at h
  cases b : (r k).testBit q
  · rfl
  · rw [b] at h; simp at h
theorem mk_DP2w {a c : Nat} (ha : a = 41) (h : a ≤ c ∧ c ≤ a + 2) : mk_DP2 c := by unfold mk_DP2; omega
theorem mx_trySeconds {A : mk_A} {E : mk_E} {t m : Nat} {r : Nat → Nat} {p q a : Nat} {h : mm_H} (hT : mk_T A) (hW : mk_W A r) (hp : p < A 263 0) (hq : q < A 263 0) (ha : a < 60) (hm : 2 ≤ m) (ok : mk_pok A r p a) (hE : mk_PE A E t (mk_tl A r p a) h) (hS : mk_XS A 41 (mk_tl A r p a) h) (hQ : mk_PQ A E r p q m (61 + 60 * a) h) : mk_ok (f_X_trySeconds (Int32.ofNat p) (Int32.ofNat q) (Int32.ofNat a) h) (fun v => mk_ch mk_DP2 h v ∧ mk_XS A 41 (mk_tl A r p a) v ∧ mk_PQ A E r p q m (61 + 60 * a + 60) v) := by
  have hW1 := mk_tl_W hT hW hp ok
  unfold f_X_trySeconds
  refine mk_ok.bind (mk_ok.for (ρ := mm_H) 60 (fun i (s : Int32 × mm_H) => s.1 = Int32.ofNat i ∧ mk_ch mk_DP2 h s.2 ∧ mk_XS A 41 (mk_tl A r p a) s.2 ∧ mk_PQ A E r p q m (61 + 60 * a + i) s.2) (Q := fun v => mk_ch mk_DP2 h v ∧ mk_XS A 41 (mk_tl A r p a) v ∧ mk_PQ A E r p q m (61 + 60 * a + 60) v) ⟨rfl, mk_ch.rf, hS, hQ⟩ (fun b s hb ⟨e1, q1, q2, q3⟩ => ?_) (fun s ⟨e1, q1, q2, q3⟩ => ?_)) (fun v hv => mk_ok.ret hv)
  · have E1 := hE.ch q1
    have gT := mx_gT E1.1 E1.2.1.1
    obtain ⟨c1, c2, c3, c4⟩ := mk_p2c (A := A) (r := r) (p := p) (a := a) hb
    rw [e1, if_neg (fun z => absurd ((mn_lle (b := 60) (show b < 2147483648 by omega) (by decide)).mp z) (show ¬ 60 ≤ b by omega)), mn_rem10 hb, mn_div10 hb, mn_addl 1]
    refine mk_ok.let (mk_ok.let (mk_ok.bs gT ?_))
    by_cases o : mk_pok A (mk_tl A r p a) p b
    · have hv : mk_pv A r p m (61 + 60 * a + b) := (mk_pv2 ha hb hm).mpr ⟨ok, o⟩
      have hW2 := mk_tl_W hT hW1 hp o
      refine mk_ok.bs (mx_may1 hT hW1 E1.2.1 q2 hp o) ?_
      rw [if_neg (show ¬ (1 : Int32) = 0 by decide)]
      refine mk_ok.bind (Q := fun v : mm_H => mk_ch mk_DP2 h v ∧ mk_XS A 41 (mk_tl A r p a) v ∧ mk_PQ A E r p q m (61 + 60 * a + b + 1) v) ?_ (fun v ⟨g1, g2, g3⟩ => mk_ok.let (mk_ok.inl ⟨rfl, g1, g2, g3⟩))
      refine mk_ok.let (mk_ok.bs gT ?_)
      refine mk_ok.bind (mx_whisper1 hT hW1 E1.2.1 (Or.inr rfl) q2 hp o.1 (fun e => o.2.1 e.symm) o.2.2.1) (fun v22 ⟨w1, w2⟩ => ?_)
      have k22 : mk_ch mk_DP2 h v22 := q1.tr w1 (fun _ z => z) (fun c z => mk_DP2w rfl z)
      have Q22 := q3.ch w1 (by omega)
      have E22 := (hE.ch k22).tl hT hp o
      refine mk_ok.bind (mx_gain hT hW2 E22.1 E22.2.1 w2 E22.2.2 hp hq) (fun v24 ⟨y1, y2⟩ => ?_)
      refine mk_ok.bind (mx_keepGain hT (Q22.ch y2 (by omega)) hv (by rw [y1]; unfold mk_pg; rw [c1]) (by rw [c2]; rfl) c3.symm c4.symm) (fun v26 ⟨z1, z2⟩ => ?_)
      have S26 : mk_XS A 41 (mk_tl A (mk_tl A r p a) p b) v26 := ((show mk_XS A 41 (mk_tl A (mk_tl A r p a) p b) v22 from w2).ch y2 (fun j z => by omega)).ch z1 (fun j z => by omega)
      have f5 : s.2.1 41 5 = Int32.ofNat (mk_tl A r p a 76) := q2.2.2.2.1
      rw [f5]
      refine mk_ok.bind (mx_forget hT hW1 hp o.1 o.2.2.1 (mk_ct_0 o.2.2.2) S26) (fun v28 ⟨x1, x2⟩ => ?_)
      refine mk_ok.ret ⟨((k22.tr y2 (fun _ z => z) (fun c z => Or.inr (Or.inl z))).tr z1 (fun _ z => z) (fun c z => Or.inr (Or.inr z))).tr x1 (fun _ z => z) (fun c z => mk_DP2w rfl z), x2, z2.ch x1 (by omega)⟩
    · refine mk_ok.bs (mx_may0 hT hW1 E1.2.1 q2 hp hb o) ?_
      rw [if_pos (show (0 : Int32) = 0 from rfl)]
      refine mk_ok.bs rfl (mk_ok.let (mk_ok.inl ⟨rfl, q1, q2, q3.no (by omega) (fun s' h1 h2 hv => ?_)⟩))
      rw [show s' = 61 + 60 * a + b by omega] at hv
      exact o ((mk_pv2 ha hb hm).mp hv).2
  · rw [e1, if_pos (show (60 : Int32) ≤ Int32.ofNat 60 from Int32.le_refl _)]
    exact mk_ok.inr ⟨q1, q2, q3⟩
def mk_bd (i j : Nat) : Nat := if i = 0 then 1 + j else 61 + 60 * j
theorem mx_tryFirst {A : mk_A} {E : mk_E} {t m i : Nat} {r : Nat → Nat} {p q a : Nat} {h : mm_H} (hT : mk_T A) (hW : mk_W A r) (hp : p < A 263 0) (hq : q < A 263 0) (ha : a < 60) (hi : i < 2) (hm : i < m) (hE : mk_PE A E t r h) (hS : mk_XS A 41 r h) (hQ : mk_PQ A E r p q m (mk_bd i a) h) : mk_ok (f_X_tryFirst (Int32.ofNat p) (Int32.ofNat q) (Int32.ofNat (i + 1)) (Int32.ofNat a) h) (fun v => mk_ch mk_DP2 h v ∧ mk_XS A 41 r v ∧ mk_PQ A E r p q m (mk_bd i (a + 1)) v) := by
  have gT := mx_gT hE.1 hE.2.1.1
  obtain ⟨c1, c2, c3, c4⟩ := mk_p1 (A := A) (r := r) (p := p) ha
  unfold f_X_tryFirst
  rw [mn_rem10 ha, mn_div10 ha]
  refine mk_ok.let (mk_ok.let (mk_ok.bs gT ?_))
  by_cases o : mk_pok A r p a
  · have hW1 := mk_tl_W hT hW hp o
    refine mk_ok.bs (mx_may1 hT hW hE.2.1 hS hp o) ?_
    rw [if_neg (show ¬ (1 : Int32) = 0 by decide)]
    refine mk_ok.let (mk_ok.bs gT ?_)
    refine mk_ok.bind (mx_whisper1 hT hW hE.2.1 (Or.inr rfl) hS hp o.1 (fun e => o.2.1 e.symm) o.2.2.1) (fun v14 ⟨w1, w2⟩ => ?_)
    have k14 : mk_ch mk_DP2 h v14 := w1.mono (fun c z => mk_DP2w rfl z)
    have Q14 := hQ.ch w1 (by omega)
    have E14 := (hE.ch k14).tl hT hp o
    refine mk_ok.bind (Q := fun v : mm_H => mk_ch mk_DP2 h v ∧ mk_XS A 41 (mk_tl A r p a) v ∧ mk_PQ A E r p q m (mk_bd i (a + 1)) v) ?_ (fun v ⟨g1, g2, g3⟩ => ?_)
    · by_cases i0 : i = 0
      · subst i0
        have hv : mk_pv A r p m (1 + a) := (mk_pv1 ha (by omega)).mpr o
        rw [if_pos (show Int32.ofNat (0 + 1) = 1 from rfl)]
        refine mk_ok.bind (mx_gain hT hW1 E14.1 E14.2.1 w2 E14.2.2 hp hq) (fun v20 ⟨y1, y2⟩ => ?_)
        refine mk_ok.bind (mx_keepGain (n := 1 + a) hT (Q14.ch y2 (by omega)) hv (by rw [y1]; unfold mk_pg; rw [c1]) (by rw [c2]; rfl) c3.symm c4.symm) (fun v26 ⟨z1, z2⟩ => ?_)
        exact mk_ok.ret ⟨(k14.tr y2 (fun _ z => z) (fun c z => Or.inr (Or.inl z))).tr z1 (fun _ z => z) (fun c z => Or.inr (Or.inr z)), ((show mk_XS A 41 (mk_tl A r p a) v14 from w2).ch y2 (fun j z => by omega)).ch z1 (fun j z => by omega), z2⟩
      · have i1 : i = 1 := by omega
        subst i1
        rw [if_neg (show ¬ Int32.ofNat (1 + 1) = 1 by decide)]
        refine mk_ok.bind (mx_trySeconds hT hW hp hq ha (by omega) o E14 w2 Q14) (fun v18 ⟨y1, y2, y3⟩ => ?_)
        exact mk_ok.ret ⟨k14.tr y1 (fun _ z => z) (fun _ z => z), y2, by rw [show mk_bd 1 (a + 1) = 61 + 60 * a + 60 by unfold mk_bd; rw [if_neg (by omega)]; omega]; exact y3⟩
    · have f5 : h.1 41 5 = Int32.ofNat (r 76) := hS.2.2.2.1
      rw [f5]
      refine mk_ok.bind (mx_forget hT hW hp o.1 o.2.2.1 (mk_ct_0 o.2.2.2) g2) (fun v28 ⟨x1, x2⟩ => ?_)
      exact mk_ok.ret ⟨g1.tr x1 (fun _ z => z) (fun c z => mk_DP2w rfl z), x2, g3.ch x1 (by omega)⟩
  · refine mk_ok.bs (mx_may0 hT hW hE.2.1 hS hp ha o) ?_
    rw [if_pos (show (0 : Int32) = 0 from rfl)]
    refine mk_ok.ret ⟨mk_ch.rf, hS, hQ.no ?_ (fun s h1 h2 hv => ?_)⟩
    · unfold mk_bd; split <;> omega
    · unfold mk_bd at h1 h2
      by_cases i0 : i = 0
      · rw [if_pos i0] at h1 h2
        rw [show s = 1 + a by omega] at hv
        exact o ((mk_pv1 ha (by omega)).mp hv)
      · rw [if_neg i0] at h1 h2
        rw [show s = 61 + 60 * a + (s - 61 - 60 * a) by omega] at hv
        exact o ((mk_pv2 ha (by omega) (by omega)).mp hv).1
theorem mx_scheme {A : mk_A} {E : mk_E} {t m : Nat} {r : Nat → Nat} {p q : Nat} {h : mm_H} (hT : mk_T A) (hW : mk_W A r) (hp : p < A 263 0) (hq : q < A 263 0) (hm : m ≤ 2) (ht : h.2.2 32 14 = some t) (hX : mk_XT A E t h) (hR : mk_XR A 35 r h) : mk_ok (f_X_scheme (Int32.ofNat p) (Int32.ofNat q) (Int32.ofNat m) h) (fun v => mk_ch (fun c => (41 ≤ c ∧ c ≤ 46) ∨ (76 ≤ c ∧ c ≤ 78) ∨ c = t + 16) h v ∧ ∃ b, ¬ b = 0 ∧ mk_bst (mk_pv A r p m) (mk_pK A E r p q) b ∧ mk_PB A E r p q b v) := by
  have htt := hX.1
  unfold f_X_scheme
  refine mk_ok.bind (mx_copyFrom hT hR (by decide +kernel) (by omega)) (fun v2 ⟨a1, a2⟩ => ?_)
  have X2 := hX.ch a1 (fun j z => by omega)
  have t2 : v2.2.2 32 14 = some t := by rw [a1.2]; exact ht
  refine mk_ok.bind (mx_fillLawful hT t2 X2 a2.1) (fun v4 ⟨b1, b2⟩ => ?_)
  have X4 := X2.ch b1 (fun j z => by omega)
  have t4 : v4.2.2 32 14 = some t := by rw [b1.2]; exact t2
  have S4 := a2.1.ch b1 (fun j z => by omega)
  refine mk_ok.bind (mx_gain hT hW t4 X4 S4 b2 hp hq) (fun v6 ⟨c1, c2⟩ => ?_)
  have E6 : mk_PE A E t r v6.2 := (show mk_PE A E t r v4 from ⟨t4, X4, b2⟩).ch (c2.mono (fun c z => Or.inr (Or.inl z)))
  have S6 := S4.ch c2 (fun j z => by omega)
  have p78 : ∀ {g : mm_H} {j : Nat} {v : Int32}, mk_ch (fun c => c = 78) g (mm_pI g 78 j v) := fun {g j v} => mk_ch.pI rfl
  have tr : ∀ {h h1 h2 : mm_H}, mk_ch (fun c => c = 78) h h1 → mk_ch (fun c => c = 78) h1 h2 → mk_ch (fun c => c = 78) h h2 := fun a b => a.tr b (fun _ q => q) (fun _ q => q)
  have k8 : mk_ch (fun c => c = 78) v6.2 (mm_pI (mm_pI (mm_pI (mm_pI v6.2 78 0 v6.1) 78 1 0) 78 2 (-1)) 78 3 (-1)) := tr (tr (tr p78 p78) p78) p78
  have PB0 : mk_PB A E r p q 1 (mm_pI (mm_pI (mm_pI (mm_pI v6.2 78 0 v6.1) 78 1 0) 78 2 (-1)) 78 3 (-1)) := by
    refine ⟨?_, ?_, ?_, ?_⟩
    · rw [mp_I1, if_neg (by omega), mp_I1, if_neg (by omega), mp_I1, if_neg (by omega), mp_I1, if_pos ⟨rfl, rfl⟩, c1]; rfl
    · rw [mp_I1, if_neg (by omega), mp_I1, if_neg (by omega), mp_I1, if_pos ⟨rfl, rfl⟩]; rfl
    · rw [mp_I1, if_neg (by omega), mp_I1, if_pos ⟨rfl, rfl⟩]; rfl
    · rw [mp_I1, if_pos ⟨rfl, rfl⟩]; rfl
  refine mk_ok.let (mk_ok.let (mk_ok.let (mk_ok.let ?_)))
  revert k8 PB0
  generalize mm_pI (mm_pI (mm_pI (mm_pI v6.2 78 0 v6.1) 78 1 0) 78 2 (-1)) 78 3 (-1) = h13
  intro k8 PB0
  have Q13 : mk_PQ A E r p q m 1 h13 := ⟨1, by omega, ⟨fun z => absurd z (by omega), fun _ => ⟨⟨by omega, Or.inl rfl⟩, fun s hs => by rw [show s = 1 - 1 by omega]; exact Nat.le_refl _⟩⟩, PB0⟩
  have k13 : mk_ch (fun c => (41 ≤ c ∧ c ≤ 46) ∨ (76 ≤ c ∧ c ≤ 78) ∨ c = t + 16) h h13 := ((a1.tr b1 (D := fun c => (41 ≤ c ∧ c ≤ 46) ∨ (76 ≤ c ∧ c ≤ 78) ∨ c = t + 16) (fun c z => by omega) (fun c z => by omega)).tr c2 (fun _ z => z) (fun c z => by omega)).tr k8 (fun _ z => z) (fun c z => by omega)
  have E13 : mk_PE A E t r h13 := E6.ch (k8.mono (fun c z => Or.inr (Or.inr z)))
  have S13 := S6.ch k8 (fun j z => by omega)
  refine mk_ok.bind (mk_ok.for (ρ := mm_H) m (fun i (s : Int32 × mm_H) => s.1 = Int32.ofNat (i + 1) ∧ mk_ch mk_DP2 h13 s.2 ∧ mk_XS A 41 r s.2 ∧ mk_PQ A E r p q m (if i = 0 then 1 else if i = 1 then 61 else 3661) s.2) (Q := fun v => mk_ch mk_DP2 h13 v ∧ mk_PQ A E r p q m (if m = 0 then 1 else if m = 1 then 61 else 3661) v) ⟨rfl, mk_ch.rf, S13, Q13⟩ (fun i s hi ⟨e1, q1, q2, q3⟩ => ?_) (fun s ⟨e1, q1, q2, q3⟩ => ?_)) (fun v ⟨q1, q2⟩ => ?_)
  · rw [e1, if_neg (fun z => absurd ((mn_lt (by omega) (by omega)).mp z) (show ¬ m < i + 1 by omega))]
    have st : mk_bd i 0 = if i = 0 then 1 else if i = 1 then 61 else 3661 := by
      unfold mk_bd
      by_cases i0 : i = 0
      · rw [if_pos i0, if_pos i0]
      · rw [if_neg i0, if_neg i0, if_pos (by omega)]
    have en : mk_bd i 60 = if i + 1 = 0 then 1 else if i + 1 = 1 then 61 else 3661 := by
      unfold mk_bd
      by_cases i0 : i = 0
      · rw [if_pos i0, if_neg (by omega), if_pos (by omega)]
      · rw [if_neg i0, if_neg (by omega), if_neg (by omega)]
    rw [← st] at q3
    refine mk_ok.bind (mk_ok.for (ρ := mm_H) 60 (fun j (s : Int32 × mm_H) => s.1 = Int32.ofNat j ∧ mk_ch mk_DP2 h13 s.2 ∧ mk_XS A 41 r s.2 ∧ mk_PQ A E r p q m (mk_bd i j) s.2) (Q := fun v => mk_ch mk_DP2 h13 v ∧ mk_XS A 41 r v ∧ mk_PQ A E r p q m (mk_bd i 60) v) ⟨rfl, q1, q2, q3⟩ (fun j s hj ⟨f1, g1, g2, g3⟩ => ?_) (fun s ⟨f1, g1, g2, g3⟩ => ?_)) (fun v ⟨g1, g2, g3⟩ => ?_)
    · rw [f1, if_neg (fun z => absurd ((mn_lle (b := 60) (show j < 2147483648 by omega) (by decide)).mp z) (show ¬ 60 ≤ j by omega))]
      refine mk_ok.bind (mx_tryFirst hT hW hp hq hj (by omega) hi (E13.ch g1) g2 g3) (fun v28 ⟨d1, d2, d3⟩ => ?_)
      rw [mn_addl 1]
      exact mk_ok.let (mk_ok.inl ⟨rfl, g1.tr d1 (fun _ z => z) (fun _ z => z), d2, d3⟩)
    · rw [f1, if_pos (show (60 : Int32) ≤ Int32.ofNat 60 from Int32.le_refl _)]
      exact mk_ok.inr ⟨g1, g2, g3⟩
    · rw [en] at g3
      rw [mn_addl 1]
      exact mk_ok.let (mk_ok.inl ⟨rfl, g1, g2, g3⟩)
  · rw [e1, if_pos ((mn_lt (by omega) (by omega)).mpr (show m < m + 1 by omega))]
    exact mk_ok.inr ⟨q1, q3⟩
  · obtain ⟨b, b0, bb, bp⟩ := q2
    refine mk_ok.ret ⟨k13.tr q1 (fun _ z => z) (fun c z => by unfold mk_DP2 at z; omega), b, b0, bb.ext (fun s => ⟨fun z => z.2, fun z => ⟨?_, z⟩⟩), bp⟩
    have := mk_pv_lt z
    rcases z with z | z | z
    · rw [z]; split
      · omega
      · split <;> omega
    · rw [if_neg (by omega)]; split <;> omega
    · rw [if_neg (by omega), if_neg (by omega)]; omega
