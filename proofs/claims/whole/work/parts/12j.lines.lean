/-! a line of the gossip tried, both sides -/
def mk_go (A : mk_A) (E : mk_E) (r : Nat → Nat) (d w v x : Nat) : Bool × (Nat → Nat) := if d = 0 then (if mk_ct A r w v x = true then (true, mk_tell A r w v x) else (false, r)) else if d = 1 then (if mk_cp A E r w x = true then (true, mk_pay r w x) else (false, r)) else if d = 2 then (if r (70 + w) < 9 then (true, mk_rise r w) else (false, r)) else (true, mk_pass A r)
def mk_lw (A : mk_A) (d w v x : Nat) : Prop := d ≤ 3 ∧ (¬ d = 3 → w < A 263 0) ∧ (d = 0 → v < A 263 0 ∧ ¬ w = v ∧ x < A 263 1) ∧ (d = 1 → 0 < x ∧ x < 2 ^ A 263 1)
theorem mk_go_W {A : mk_A} {E : mk_E} {r : Nat → Nat} (hT : mk_T A) (hW : mk_W A r) {d w v x : Nat} (hl : mk_lw A d w v x) : mk_W A (mk_go A E r d w v x).2 := by
  obtain ⟨l0, l1, l2, l3⟩ := hl
  unfold mk_go
  by_cases d0 : d = 0
  · rw [if_pos d0]
    by_cases c : mk_ct A r w v x = true
    · rw [if_pos c]; exact mk_tell_W hT hW (l1 (by omega)) (l2 d0).1 (l2 d0).2.2
    · rw [if_neg c]; exact hW
  rw [if_neg d0]
  by_cases d1 : d = 1
  · rw [if_pos d1]
    by_cases c : mk_cp A E r w x = true
    · rw [if_pos c]; exact mk_pay_W (E := E) hT hW (l1 (by omega)) (l3 d1).2
    · rw [if_neg c]; exact hW
  rw [if_neg d1]
  by_cases d2 : d = 2
  · rw [if_pos d2]
    by_cases c : r (70 + w) < 9
    · rw [if_pos c]; exact mk_rise_W hT hW (l1 (by omega)) c
    · rw [if_neg c]; exact hW
  rw [if_neg d2]
  exact mk_pass_W hT hW
theorem mx_rises {A : mk_A} {a : Nat} {r : Nat → Nat} {h : mm_H} (hS : mk_XS A a r h) {p : Nat} (hS1 : A 263 1 ≤ 10) (hP : A 263 0 ≤ 6) (hp : p < A 263 0) : mk_XS A a (mk_rise r p) (mm_pI h (a + 3) p (Int32.ofNat (r (70 + p) + 1))) := by
  have n : ∀ j, ¬ j = 70 + p → mk_rise r p j = r j := fun j h1 => by unfold mk_rise; rw [if_neg h1]
  have np : mk_rise r p (70 + p) = r (70 + p) + 1 := if_pos rfl
  obtain ⟨s0, s1, s2, s3, s4, s5, s6, s7⟩ := hS
  refine ⟨s0, fun i hi => ?_, fun i hi => ⟨?_, ?_⟩, ?_, ?_, ?_, ?_, ?_⟩
  · rw [n _ (by omega), mp_I1, if_neg (by omega)]; exact s1 i hi
  · rw [mp_I1]
    by_cases e : i = p
    · subst e
      rw [if_pos ⟨rfl, rfl⟩, np]
    · rw [if_neg (fun z => e z.2), n _ (by omega)]; exact (s2 i hi).1
  · rw [n (79 + i) (by omega), mp_I1, if_neg (by omega)]; exact (s2 i hi).2
  · rw [n _ (by omega), mp_I1, if_neg (by omega)]; exact s3
  · rw [n _ (by omega), mp_I1, if_neg (by omega)]; exact s4
  · rw [n _ (by omega), mp_I1, if_neg (by omega)]; exact s5
  · rw [n _ (by omega), mp_I1, if_neg (by omega)]; exact s6
  · rw [n _ (by omega), mp_I1, if_neg (by omega)]; exact s7
def mk_DL (t : Nat) (c : Nat) : Prop := (41 ≤ c ∧ c ≤ 46) ∨ mk_DX t c
theorem mx_tryLine {A : mk_A} {E : mk_E} {t : Nat} {r : Nat → Nat} {h : mm_H} (hT : mk_T A) (hW : mk_W A r) (hh : h.2.2 32 14 = some t) (hX : mk_XT A E t h) (hS : mk_XS A 41 r h) (hA : mk_XA A 41 r h) {i d w v x : Nat} (hi : i < 30) (hl : mk_lw A d w v x) (hd3 : ¬ d = 3)
    (e0 : h.1 48 i = Int32.ofNat d) (e1 : h.1 49 i = Int32.ofNat w) (e2 : d = 0 → h.1 50 i = Int32.ofNat v) (e3 : d ≤ 1 → h.1 51 i = Int32.ofNat x) :
    mk_ok (f_X_tryLine (Int32.ofNat i) h) (fun z => z.1 = Int32.ofNat (mk_go A E r d w v x).1.toNat ∧ mk_ch (mk_DL t) h z.2 ∧ mk_XS A 41 (mk_go A E r d w v x).2 z.2 ∧ mk_XA A 41 (mk_go A E r d w v x).2 z.2) := by
  obtain ⟨l0, l1, l2, l3⟩ := hl
  have hP := hT.1.1
  have hS1 := hT.1.2.1
  have hw := l1 hd3
  have ix : mm_ix (Int32.ofNat i) 30 = some i := mn_ix (by omega) (by omega)
  unfold f_X_tryLine mk_go
  refine mk_ok.bs ix ?_
  refine mk_ok.let ?_
  refine mk_ok.bs ix ?_
  refine mk_ok.let ?_
  refine mk_ok.bs ix ?_
  refine mk_ok.let ?_
  refine mk_ok.bs ix ?_
  rw [e0, e1]
  by_cases d0 : d = 0
  · obtain ⟨hv, hwv, hx⟩ := l2 d0
    have h2 : mk_two A (Int32.ofNat w) (Int32.ofNat v) := ⟨⟨w, hw, rfl⟩, ⟨v, hv, rfl⟩, fun z => hwv ((mn_eq (by omega) (by omega)).mp z)⟩
    rw [e2 d0, e3 (by omega), if_pos ((mn_eql (b := 0) (show d < 4294967296 by omega) (by decide)).mpr d0), if_pos d0]
    refine mk_ok.bs (mx_gT hh hX.1) ?_
    refine mk_ok.bs (mx_mayTell1 hT hX hW hS h2 hw hv hx) ?_
    cases c : mk_ct A r w v x
    · rw [if_pos (by decide), if_neg (by decide)]
      exact mk_ok.ret ⟨rfl, mk_ch.rf, hS, hA⟩
    · rw [if_neg (by decide), if_pos rfl]
      refine mk_ok.bs (mx_gT hh hX.1) ?_
      refine mk_ok.bind (mx_whisper hT hW hX (Or.inr rfl) hS hA hw hv hwv hx) (fun v56 ⟨b1, b2, b3⟩ => ?_)
      exact mk_ok.ret ⟨rfl, b1.mono (fun c z => Or.inl (by omega)), b2, b3⟩
  rw [if_neg (fun z => d0 ((mn_eql (b := 0) (show d < 4294967296 by omega) (by decide)).mp z)), if_neg d0]
  refine mk_ok.bs (mx_gT hh hX.1) ?_
  rw [mx_hasPerson hT hX, if_pos ⟨w, hw, rfl⟩]
  refine mk_ok.bs rfl ?_
  rw [if_neg (by decide)]
  refine mk_ok.bs ix ?_
  rw [e0]
  by_cases d1 : d = 1
  · obtain ⟨x0, hx⟩ := l3 d1
    have xb := mk_s2 hS1 hx
    rw [e3 (by omega), if_pos ((mn_eql (b := 1) (show d < 4294967296 by omega) (by decide)).mpr d1), if_pos d1]
    refine mk_ok.bs (mx_gT hh hX.1) ?_
    refine mk_ok.bind (mx_weighed hT hW hh hX (Or.inr rfl) hS) (fun v35 ⟨c1, c2⟩ => ?_)
    have X35 := hX.ch c1 (mk_DX1 hX)
    have S35 := hS.ch c1 (fun j q => by have := mk_DX2 hX (Or.inr rfl : mk_sa 41) j q; omega)
    have A35 : mk_XA A 41 r v35 := hA.ch c1 (fun q => by have := mk_DX2 hX (Or.inr rfl : mk_sa 41) _ q; omega)
    refine mk_ok.bs (mx_mayPay hT X35 hW S35 c2 hw (by omega)) ?_
    cases c : mk_cp A E r w x
    · rw [if_pos (by decide), if_neg (by decide)]
      exact mk_ok.ret ⟨rfl, c1.mono (fun c z => Or.inr z), S35, A35⟩
    · rw [if_neg (by decide), if_pos rfl]
      refine mk_ok.bind (mx_take hT S35 hw) (fun v39 ⟨b1, b2, b3, b4⟩ => ?_)
      refine mk_ok.ret ⟨rfl, c1.tr b1 (fun c z => Or.inr z) (fun c z => Or.inl (by omega)), b2, fun p' q' k' h1 h2 h3 => ?_⟩
      have z : mk_pay r w x (10 + 10 * p' + k') = r (10 + 10 * p' + k') := by unfold mk_pay; rw [if_neg (by omega), if_neg (by omega)]
      show (v39.2.1 (41 + 2) p').toBitVec.getLsbD (q' * 10 + k') = (mk_pay r w x (10 + 10 * p' + k')).testBit q'
      rw [z, b3, A35 p' q' k' h1 h2 h3]
  rw [if_neg (fun z => d1 ((mn_eql (b := 1) (show d < 4294967296 by omega) (by decide)).mp z)), if_neg d1, if_pos (show d = 2 by omega)]
  have iw : mm_ix (Int32.ofNat w) 6 = some w := mn_ix (by omega) (by omega)
  have b9 := hW.2.1 w hw
  refine mk_ok.bs iw ?_
  have e44 : h.1 44 w = Int32.ofNat (r (70 + w)) := (hS.2.2.1 w hw).1
  rw [e44]
  by_cases h9 : r (70 + w) < 9
  · rw [if_pos ((mn_ltl (b := 9) (show r (70 + w) < 2147483648 by omega) (by decide)).mpr h9), if_pos h9]
    refine mk_ok.bs iw ?_
    refine mk_ok.bs iw ?_
    refine mk_ok.let ?_
    rw [e44, mn_addl 1]
    refine mk_ok.ret ⟨rfl, mk_ch.pI (Or.inl ⟨by omega, by omega⟩), mx_rises hS hS1 hP hw, fun p' q' k' h1 h2 h3 => ?_⟩
    have z : mk_rise r w (10 + 10 * p' + k') = r (10 + 10 * p' + k') := by unfold mk_rise; rw [if_neg (by omega)]
    show (h.2.1 (41 + 2) p').toBitVec.getLsbD (q' * 10 + k') = (mk_rise r w (10 + 10 * p' + k')).testBit q'
    rw [z]
    exact hA p' q' k' h1 h2 h3
  · rw [if_neg (fun z => h9 ((mn_ltl (b := 9) (show r (70 + w) < 2147483648 by omega) (by decide)).mp z)), if_neg h9]
    exact mk_ok.ret ⟨rfl, mk_ch.rf, hS, hA⟩
theorem mi_goes {A : mk_A} {E : mk_E} {r : Nat → Nat} {h : mm_H} (hT : mk_T A) (hW : mk_W A r) (hM : mk_MT A E h) (hR : mk_MR r h) {i d w v x : Nat} (hi : i < 30) (hl : mk_lw A d w v x)
    (e0 : h.1 294 i = Int32.ofNat d) (e1 : ¬ d = 3 → h.1 295 i = Int32.ofNat w) (e2 : d = 0 → h.1 296 i = Int32.ofNat v) (e3 : d ≤ 1 → h.1 297 i = Int32.ofNat x) :
    mk_ok (f_M_goes (Int32.ofNat i) h) (fun z => z.1 = Int32.ofNat (mk_go A E r d w v x).1.toNat ∧ mk_ch (fun c => c = 301 ∨ mk_DM c) h z.2 ∧ mk_MR (mk_go A E r d w v x).2 z.2) := by
  obtain ⟨l0, l1, l2, l3⟩ := hl
  have hP := hT.1.1
  have hS1 := hT.1.2.1
  have ix : mm_ix (Int32.ofNat i) 180 = some i := mn_ix (by omega) (by omega)
  unfold f_M_goes mk_go
  refine mk_ok.bs ix ?_
  refine mk_ok.let ?_
  refine mk_ok.bs ix ?_
  refine mk_ok.let ?_
  rw [e0]
  have E0 : ((Int32.ofNat d = 0) ↔ d = 0) := mn_eql (b := 0) (show d < 4294967296 by omega) (by decide)
  have E1 : ((Int32.ofNat d = 1) ↔ d = 1) := mn_eql (b := 1) (show d < 4294967296 by omega) (by decide)
  have E2 : ((Int32.ofNat d = 2) ↔ d = 2) := mn_eql (b := 2) (show d < 4294967296 by omega) (by decide)
  have E3 : ((Int32.ofNat d = 3) ↔ d = 3) := mn_eql (b := 3) (show d < 4294967296 by omega) (by decide)
  by_cases d0 : d = 0
  · obtain ⟨hv, hwv, hx⟩ := l2 d0
    have hw := l1 (by omega)
    have i0 := E0.mpr d0
    rw [e1 (by omega), if_pos d0]
    simp only [if_pos i0]
    refine mk_ok.bs (v := (Int32.ofNat (mk_ct A r w v x).toNat, h)) ?_ ?_
    · rw [mk_bs ix, mk_bs ix, e2 d0, e3 (by omega), mk_bs (mi_canTell hT hM hW hR hw hv hx)]
    dsimp only
    cases c : mk_ct A r w v x
    · rw [if_pos (by decide), if_neg (by decide)]
      exact mk_ok.ret ⟨rfl, mk_ch.rf, hR⟩
    · rw [if_neg (by decide), if_pos rfl]
      refine mk_ok.bs ix ?_
      refine mk_ok.bs ix ?_
      rw [e2 d0, e3 (by omega)]
      refine mk_ok.bind (mi_tells hT hM hR hw hv hwv hx) (fun v58 ⟨b1, b2⟩ => ?_)
      exact mk_ok.ret ⟨rfl, b1.mono (fun c z => Or.inl z), b2⟩
  have i0 : ¬ Int32.ofNat d = 0 := fun z => d0 (E0.mp z)
  simp only [if_neg i0]
  rw [if_neg d0]
  by_cases d1 : d = 1
  · obtain ⟨x0, hx⟩ := l3 d1
    have xb := mk_s2 hS1 hx
    have hw := l1 (by omega)
    have i1 := E1.mpr d1
    rw [e1 (by omega), if_pos d1]
    simp only [if_pos i1]
    refine mk_ok.bind (Q := fun z => z.1 = Int32.ofNat (mk_cp A E r w x).toNat ∧ mk_ch mk_DM h z.2) ?_ (fun j9 ⟨c1, c2⟩ => ?_)
    · refine mk_ok.bs ix ?_
      rw [e3 (by omega)]
      refine mk_ok.bind (mi_canPay hT hW hM hR hw (by omega)) (fun v22 q => mk_ok.ret q)
    rw [c1]
    cases c : mk_cp A E r w x
    · rw [if_pos (by decide), if_neg (by decide)]
      exact mk_ok.ret ⟨rfl, c2.mono (fun c z => Or.inr z), hR.ch c2 mk_DM2⟩
    · rw [if_neg (by decide), if_pos rfl]
      refine mk_ok.bs ix ?_
      rw [c2.e1 (c := 297) (fun z => by unfold mk_DM at z; omega), e3 (by omega)]
      refine mk_ok.bind (mi_pays (hR.ch c2 mk_DM2) (by omega)) (fun v49 ⟨b1, b2⟩ => ?_)
      exact mk_ok.ret ⟨rfl, c2.tr b1 (fun c z => Or.inr z) (fun c z => Or.inl z), b2⟩
  have i1 : ¬ Int32.ofNat d = 1 := fun z => d1 (E1.mp z)
  simp only [if_neg i1]
  rw [if_neg d1]
  by_cases d2 : d = 2
  · have hw := l1 (by omega)
    have b9 := hW.2.1 w hw
    have i2 := E2.mpr d2
    have i3 : ¬ Int32.ofNat d = 3 := fun z => by have := E3.mp z; omega
    rw [e1 (by omega), if_pos d2, mn_ladd 70]
    simp only [if_pos i2, if_neg i3]
    have iw : mm_ix (Int32.ofNat (70 + w)) 123 = some (70 + w) := mn_ix (by omega) (by omega)
    have er := hR (70 + w) (by omega)
    by_cases h9 : r (70 + w) < 9
    · rw [if_pos h9]
      refine mk_ok.bs (v := (1, h)) ?_ ?_
      · rw [mk_bs iw, er, if_neg (fun z => absurd ((mn_lle (b := 9) (show r (70 + w) < 2147483648 by omega) (by decide)).mp z) (show ¬ 9 ≤ r (70 + w) by omega))]
      · dsimp only
        rw [if_neg (show ¬ (1 : Int32) = 0 by decide)]
        refine mk_ok.bs iw ?_
        refine mk_ok.bs iw ?_
        refine mk_ok.let ?_
        rw [er, mn_addl 1]
        refine mk_ok.ret ⟨rfl, mk_ch.pI (Or.inl rfl), fun j hj => ?_⟩
        show (mm_pI h 301 (70 + w) (Int32.ofNat (r (70 + w) + 1))).1 301 j = Int32.ofNat (mk_rise r w j)
        rw [mp_I1]
        unfold mk_rise
        by_cases e : j = 70 + w
        · rw [if_pos ⟨rfl, e⟩, if_pos e]
        · rw [if_neg (fun z => e z.2), if_neg e]; exact hR j hj
    · rw [if_neg h9]
      refine mk_ok.bs (v := (0, h)) ?_ ?_
      · rw [mk_bs iw, er, if_pos ((mn_lle (b := 9) (show r (70 + w) < 2147483648 by omega) (by decide)).mpr (show 9 ≤ r (70 + w) by omega))]
      · rw [if_pos rfl]
        exact mk_ok.ret ⟨rfl, mk_ch.rf, hR⟩
  have i2 : ¬ Int32.ofNat d = 2 := fun z => d2 (E2.mp z)
  have i3 := E3.mpr (show d = 3 by omega)
  simp only [if_neg i2, if_pos i3]
  rw [if_neg d2]
  refine mk_ok.bs rfl ?_
  dsimp only
  rw [if_neg (show ¬ (1 : Int32) = 0 by decide)]
  refine mk_ok.bind (mi_passes hT hW hM hR) (fun v36 ⟨b1, b2, b3⟩ => ?_)
  exact mk_ok.ret ⟨rfl, b2.mono (fun c z => Or.inl z), b3⟩
theorem mi_fresh {A : mk_A} {E : mk_E} {h : mm_H} (hT : mk_T A) (hM : mk_MT A E h) : mk_ok (f_M_fresh h) (fun v => mk_ch (fun c => c = 301) h v ∧ mk_MR (mk_fresh A) v) := by
  have hP := hT.1.1
  have hS1 := hT.1.2.1
  unfold f_M_fresh
  refine mk_ok.bind (mk_ok.for (ρ := mm_H) (Q := fun v => mk_ch (fun c => c = 301) h v ∧ ∀ j, j < 123 → v.1 301 j = 0) 123 (fun i s => s.1 = Int32.ofNat i ∧ mk_ch (fun c => c = 301) h s.2 ∧ ∀ j, j < i → s.2.1 301 j = 0) ⟨rfl, mk_ch.rf, fun j hj => absurd hj (by omega)⟩ (fun i s hi ⟨e1, q1, q2⟩ => ?_) (fun s ⟨e1, q1, q2⟩ => ?_)) (fun v4 ⟨a1, a2⟩ => ?_)
  · rw [e1, if_neg (fun z => absurd ((mn_lle (b := 123) (show i < 2147483648 by omega) (by decide)).mp z) (show ¬ 123 ≤ i by omega))]
    refine mk_ok.bs (mn_ix hi (by omega)) ?_
    refine mk_ok.let ?_
    rw [mn_addl 1]
    refine mk_ok.inl ⟨rfl, q1.tr (mk_ch.pI (D := fun c => c = 301) rfl) (fun _ z => z) (fun _ z => z), fun j hj => ?_⟩
    rw [mp_I1]
    by_cases e : j = i
    · rw [if_pos ⟨rfl, e⟩]
    · rw [if_neg (fun z => e z.2)]; exact q2 j (by omega)
  · rw [e1, if_pos (by decide)]
    exact mk_ok.inr ⟨q1, q2⟩
  refine mk_ok.bind (mk_ok.for (ρ := mm_H) (Q := fun v => mk_ch (fun c => c = 301) h v ∧ ∀ j, j < 123 → v.1 301 j = if j < A 263 1 then Int32.ofNat (A 273 j) else 0) (A 263 1) (fun i s => s.1 = Int32.ofNat i ∧ mk_ch (fun c => c = 301) h s.2 ∧ ∀ j, j < 123 → s.2.1 301 j = if j < i then Int32.ofNat (A 273 j) else 0) ⟨rfl, a1, fun j hj => by rw [a2 j hj, if_neg (by omega)]⟩ (fun i s hi ⟨e1, q1, q2⟩ => ?_) (fun s ⟨e1, q1, q2⟩ => ?_)) (fun v19 ⟨b1, b2⟩ => ?_)
  · have eS : s.2.1 263 1 = Int32.ofNat (A 263 1) := by rw [q1.e1 (by omega)]; exact hM.1 1 (by omega)
    have eK : s.2.1 273 i = Int32.ofNat (A 273 i) := by rw [q1.e1 (by omega)]; exact (hM.2.2.1 i (by omega)).2.2.2.2.1
    rw [e1, eS, if_neg (fun z => absurd ((mn_le (by omega) (by omega)).mp z) (show ¬ A 263 1 ≤ i by omega))]
    refine mk_ok.bs (mn_ix (show i < 20 by omega) (by omega)) ?_
    refine mk_ok.bs (mn_ix (show i < 123 by omega) (by omega)) ?_
    refine mk_ok.let ?_
    rw [mn_addl 1, eK]
    refine mk_ok.inl ⟨rfl, q1.tr (mk_ch.pI (D := fun c => c = 301) rfl) (fun _ z => z) (fun _ z => z), fun j hj => ?_⟩
    rw [mp_I1]
    by_cases e : j = i
    · rw [if_pos ⟨rfl, e⟩, if_pos (by omega), e]
    · rw [if_neg (fun z => e z.2), q2 j hj]
      by_cases e2 : j < i
      · rw [if_pos e2, if_pos (by omega)]
      · rw [if_neg e2, if_neg (by omega)]
  · have eS : s.2.1 263 1 = Int32.ofNat (A 263 1) := by rw [q1.e1 (by omega)]; exact hM.1 1 (by omega)
    rw [e1, eS, if_pos (Int32.le_refl _)]
    exact mk_ok.inr ⟨q1, q2⟩
  refine mk_ok.bind (mk_ok.for (ρ := mm_H) (Q := fun v => mk_ch (fun c => c = 301) h v ∧ mk_MR (mk_fresh A) v) (A 263 0) (fun i s => s.1 = Int32.ofNat i ∧ mk_ch (fun c => c = 301) h s.2 ∧ ∀ j, j < 123 → s.2.1 301 j = if j < A 263 1 then Int32.ofNat (A 273 j) else if 70 ≤ j ∧ j < 70 + i then Int32.ofNat (A 267 (j - 70)) else 0) ⟨rfl, b1, fun j hj => by rw [b2 j hj]; congr 1; rw [if_neg (by omega)]⟩ (fun i s hi ⟨e1, q1, q2⟩ => ?_) (fun s ⟨e1, q1, q2⟩ => ?_)) (fun v36 q => mk_ok.ret q)
  · have eS : s.2.1 263 0 = Int32.ofNat (A 263 0) := by rw [q1.e1 (by omega)]; exact hM.1 0 (by omega)
    have eK : s.2.1 267 i = Int32.ofNat (A 267 i) := by rw [q1.e1 (by omega)]; exact (hM.2.1 i (by omega)).2.1
    rw [e1, eS, if_neg (fun z => absurd ((mn_le (by omega) (by omega)).mp z) (show ¬ A 263 0 ≤ i by omega))]
    refine mk_ok.bs (mn_ix (show i < 12 by omega) (by omega)) ?_
    rw [mn_ladd 70]
    refine mk_ok.bs (mn_ix (show 70 + i < 123 by omega) (by omega)) ?_
    refine mk_ok.let ?_
    rw [mn_addl 1, eK]
    refine mk_ok.inl ⟨rfl, q1.tr (mk_ch.pI (D := fun c => c = 301) rfl) (fun _ z => z) (fun _ z => z), fun j hj => ?_⟩
    rw [mp_I1]
    by_cases e : j = 70 + i
    · rw [if_pos ⟨rfl, e⟩, if_neg (by omega), if_pos (by omega), e, show 70 + i - 70 = i by omega]
    · rw [if_neg (fun z => e z.2), q2 j hj]
      by_cases e3 : j < A 263 1
      · rw [if_pos e3, if_pos e3]
      · rw [if_neg e3, if_neg e3]
        by_cases e2 : 70 ≤ j ∧ j < 70 + i
        · rw [if_pos e2, if_pos (by omega)]
        · rw [if_neg e2, if_neg (by omega)]
  · have eS : s.2.1 263 0 = Int32.ofNat (A 263 0) := by rw [q1.e1 (by omega)]; exact hM.1 0 (by omega)
    rw [e1, eS, if_pos (Int32.le_refl _)]
    refine mk_ok.inr ⟨q1, fun j hj => ?_⟩
    rw [q2 j hj]
    unfold mk_fresh
    by_cases e3 : j < A 263 1
    · rw [if_pos e3, if_pos e3]
    · rw [if_neg e3, if_neg e3]
      by_cases e2 : 70 ≤ j ∧ j < 70 + A 263 0
      · rw [if_pos e2, if_pos e2]
      · rw [if_neg e2, if_neg e2]; rfl
