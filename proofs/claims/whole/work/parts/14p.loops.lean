/-! plot: the reference's search, its loops -/
def mk_uT (V ok : Nat → Prop) (T : Nat → Nat → Prop) (x s : Nat) : Prop := V s ∨ ∃ y, y < x ∧ ok y ∧ T y s
theorem mk_uT_no {V ok : Nat → Prop} {T : Nat → Nat → Prop} {x y : Nat} (hx : x ≤ y) (h : ∀ z, x ≤ z → z < y → ¬ ok z) (s : Nat) : mk_uT V ok T x s ↔ mk_uT V ok T y s := by
  constructor
  · rintro (h0 | ⟨z, h1, h2⟩)
    · exact Or.inl h0
    · exact Or.inr ⟨z, by omega, h2⟩
  · rintro (h0 | ⟨z, h1, h2, h3⟩)
    · exact Or.inl h0
    · rcases Nat.lt_or_ge z x with l | l
      · exact Or.inr ⟨z, l, h2, h3⟩
      · exact absurd h2 (h z l h1)
theorem mi_restore {A : mk_A} {r1 : Nat → Nat} {p i k : Nat} {h : mm_H} (hT : mk_T A) (hW : mk_W A r1) (hp : p < A 263 0) (hi : i < A 263 0) (hk : k < A 263 1) (hb : (r1 k).testBit i = false) (hR : mk_MR (mk_tell A r1 p i k) h) : mk_MR r1 (mm_pI (mm_pI (mm_pI (mm_pI h 301 76 (Int32.ofNat (r1 76))) 301 (10 + 10 * p + k) (Int32.ofNat (r1 (10 + 10 * p + k)))) 301 (10 + 10 * i + k) (Int32.ofNat (r1 (10 + 10 * i + k)))) 301 k ((mm_pI (mm_pI (mm_pI h 301 76 (Int32.ofNat (r1 76))) 301 (10 + 10 * p + k) (Int32.ofNat (r1 (10 + 10 * p + k)))) 301 (10 + 10 * i + k) (Int32.ofNat (r1 (10 + 10 * i + k)))).1 301 k &&& (((1 : Int32) <<< (Int32.ofNat i &&& 31)) ^^^ (-1)))) := by
  have hP := hT.1.1
  have hS1 := hT.1.2.1
  have tk : mk_tell A r1 p i k k = r1 k ||| 2 ^ i := if_pos rfl
  have vk : (mm_pI (mm_pI (mm_pI h 301 76 (Int32.ofNat (r1 76))) 301 (10 + 10 * p + k) (Int32.ofNat (r1 (10 + 10 * p + k)))) 301 (10 + 10 * i + k) (Int32.ofNat (r1 (10 + 10 * i + k)))).1 301 k = Int32.ofNat (r1 k ||| 2 ^ i) := by
    rw [mp_I1, if_neg (by omega), mp_I1, if_neg (by omega), mp_I1, if_neg (by omega), hR k (by omega), tk]
  rw [vk, mn_unset (mk_p2 hP (hW.1 k hk)) (by omega) hb]
  intro j hj
  rw [mp_I1]
  by_cases c1 : j = k
  · rw [if_pos ⟨rfl, c1⟩, c1]
  · rw [if_neg (fun z => c1 z.2), mp_I1]
    by_cases c2 : j = 10 + 10 * i + k
    · rw [if_pos ⟨rfl, c2⟩, c2]
    · rw [if_neg (fun z => c2 z.2), mp_I1]
      by_cases c3 : j = 10 + 10 * p + k
      · rw [if_pos ⟨rfl, c3⟩, c3]
      · rw [if_neg (fun z => c3 z.2), mp_I1]
        by_cases c4 : j = 76
        · rw [if_pos ⟨rfl, c4⟩, c4]
        · rw [if_neg (fun z => c4 z.2), hR j hj]
          unfold mk_tell
          rw [if_neg c1, if_neg c3, if_neg c2, if_neg c4]
theorem mi_plots_loop {A : mk_A} {E : mk_E} {r r1 : Nat → Nat} {p q d : Nat} {m : Int32} {V : Nat → Prop} {T : Nat → Nat → Prop} {h : mm_H} {rp : Int32 → Int32 → Int32 → Int32 → mm_H → Option mm_H} (hT : mk_T A) (hW : mk_W A r1) (hM : mk_MT A E h) (hR : mk_MR r1 h) (hp : p < A 263 0) (hd : d < 2) (hQ : mk_MQ A E r p q V h)
    (Hrp : ∀ a h', a < 60 → mk_pok A r1 p a → mk_Mp h h' → mk_MR (mk_tl A r1 p a) h' → h'.1 308 d = Int32.ofNat a → (∀ j, j < d → h'.1 308 j = h.1 308 j) → mk_MQ A E r p q (mk_uT V (mk_pok A r1 p) T a) h' → mk_ok (rp (Int32.ofNat p) (Int32.ofNat q) (Int32.ofNat d + 1) m h') (fun v => mk_Mp h' v ∧ mk_MR (mk_tl A r1 p a) v ∧ (∀ j, j ≤ d → v.1 308 j = h'.1 308 j) ∧ mk_MQ A E r p q (mk_uT V (mk_pok A r1 p) T (a + 1)) v)) :
    mk_ok ((mm_while (σ := (Int32 × mm_H)) (ρ := mm_H) (fun s52 => if (s52.2.1 263 0) ≤ s52.1 then (some (Sum.inr s52.2)) else ((mm_while (σ := (Int32 × mm_H)) (ρ := mm_H) (fun s58 => if (s58.2.1 263 1) ≤ s58.1 then (some (Sum.inr s58.2)) else ((if s52.1 = Int32.ofNat p then (some s58.2) else ((f_M_canTell (Int32.ofNat p) s52.1 s58.1 s58.2).bind fun v67 => if v67 = 0 then (some s58.2) else (mm_let (s58.2.1 301 76) fun y68 => (mm_ix ((10 + (10 * Int32.ofNat p)) + s58.1) 123).bind fun k70 => mm_let (s58.2.1 301 k70) fun y72 => (mm_ix ((10 + (10 * s52.1)) + s58.1) 123).bind fun k74 => mm_let (s58.2.1 301 k74) fun y76 => (mm_ix (Int32.ofNat d) 2).bind fun k78 => mm_let (mm_pI s58.2 308 k78 ((10 * s52.1) + s58.1)) fun h80 => (f_M_tells (Int32.ofNat p) s52.1 s58.1 h80).bind fun v83 => (rp (Int32.ofNat p) (Int32.ofNat q) (Int32.ofNat d + 1) m v83).bind fun v85 => mm_let (mm_pI v85 301 76 y68) fun h86 => (mm_ix ((10 + (10 * Int32.ofNat p)) + s58.1) 123).bind fun k88 => mm_let (mm_pI h86 301 k88 y72) fun h90 => (mm_ix ((10 + (10 * s52.1)) + s58.1) 123).bind fun k92 => mm_let (mm_pI h90 301 k92 y76) fun h94 => (mm_ix s58.1 123).bind fun k96 => (mm_ix s58.1 123).bind fun k98 => mm_let (mm_pI h94 301 k98 ((h94.1 301 k96) &&& (((1 : Int32) <<< (s52.1 &&& 31)) ^^^ (-1)))) fun h100 => some h100)) : Option mm_H).bind fun j64 => mm_let (s58.1 + 1) fun y108 => some (Sum.inl (y108, j64)))) (0, s52.2)).bind fun v61 => mm_let (s52.1 + 1) fun y114 => some (Sum.inl (y114, v61)))) (0, h)).bind fun v55 => some v55) (fun v => mk_Mp h v ∧ mk_MR r1 v ∧ (∀ j, j < d → v.1 308 j = h.1 308 j) ∧ mk_MQ A E r p q (mk_uT V (mk_pok A r1 p) T 60) v) := by
  have hP := hT.1.1
  have hS1 := hT.1.2.1
  refine mk_ok.bind (mk_ok.for (ρ := mm_H) (A 263 0) (fun i (s : Int32 × mm_H) => s.1 = Int32.ofNat i ∧ mk_Mp h s.2 ∧ mk_MR r1 s.2 ∧ (∀ j, j < d → s.2.1 308 j = h.1 308 j) ∧ mk_MQ A E r p q (mk_uT V (mk_pok A r1 p) T (10 * i)) s.2) (Q := fun v => mk_Mp h v ∧ mk_MR r1 v ∧ (∀ j, j < d → v.1 308 j = h.1 308 j) ∧ mk_MQ A E r p q (mk_uT V (mk_pok A r1 p) T 60) v) ⟨rfl, mk_Mp.rf, hR, fun _ _ => rfl, hQ.ext (fun s => ⟨fun z => Or.inl z, fun z => by
    rcases z with z | ⟨y, h1, _⟩
    · exact z
    · exact absurd h1 (Nat.not_lt_zero _)⟩)⟩ (fun i s hi ⟨e1, q1, q2, q3, q4⟩ => ?_) (fun s ⟨e1, q1, q2, q3, q4⟩ => ?_)) (fun v hv => mk_ok.ret hv)
  · have M1 := hM.Mp q1
    rw [M1.1 0 (by omega), e1, if_neg (fun z => absurd ((mn_le (by omega) (by omega)).mp z) (show ¬ A 263 0 ≤ i by omega))]
    refine mk_ok.bind (mk_ok.for (ρ := mm_H) (A 263 1) (fun k (s : Int32 × mm_H) => s.1 = Int32.ofNat k ∧ mk_Mp h s.2 ∧ mk_MR r1 s.2 ∧ (∀ j, j < d → s.2.1 308 j = h.1 308 j) ∧ mk_MQ A E r p q (mk_uT V (mk_pok A r1 p) T (10 * i + k)) s.2) (Q := fun v => mk_Mp h v ∧ mk_MR r1 v ∧ (∀ j, j < d → v.1 308 j = h.1 308 j) ∧ mk_MQ A E r p q (mk_uT V (mk_pok A r1 p) T (10 * i + A 263 1)) v) ⟨rfl, q1, q2, q3, q4⟩ (fun k s hk ⟨f1, g1, g2, g3, g4⟩ => ?_) (fun s ⟨f1, g1, g2, g3, g4⟩ => ?_)) (fun v ⟨g1, g2, g3, g4⟩ => ?_)
    · have M2 := hM.Mp g1
      have dv : (10 * i + k) / 10 = i := by omega
      have dm : (10 * i + k) % 10 = k := by omega
      rw [M2.1 1 (by omega), f1, if_neg (fun z => absurd ((mn_le (by omega) (by omega)).mp z) (show ¬ A 263 1 ≤ k by omega)), show Int32.ofNat k + 1 = Int32.ofNat (k + 1) from mn_addl 1 k]
      refine mk_ok.bind (Q := fun v : mm_H => mk_Mp h v ∧ mk_MR r1 v ∧ (∀ j, j < d → v.1 308 j = h.1 308 j) ∧ mk_MQ A E r p q (mk_uT V (mk_pok A r1 p) T (10 * i + (k + 1))) v) ?_ (fun v z => mk_ok.let (mk_ok.inl ⟨rfl, z⟩))
      have skip : ¬ mk_pok A r1 p (10 * i + k) → mk_MQ A E r p q (mk_uT V (mk_pok A r1 p) T (10 * i + (k + 1))) s.2 := fun no => g4.ext (fun s => mk_uT_no (by omega) (fun z h1 h2 => by rw [show z = 10 * i + k by omega]; exact no) s)
      by_cases ip : i = p
      · rw [if_pos (by rw [ip])]
        refine mk_ok.ret ⟨g1, g2, g3, skip (fun z => ?_)⟩
        have := z.2.1
        rw [dv] at this
        exact this ip
      · rw [if_neg (fun z => ip ((mn_eq (by omega) (by omega)).mp z))]
        refine mk_ok.bs (mi_canTell hT M2 hW g2 hp hi hk) ?_
        cases ct : mk_ct A r1 p i k
        · rw [if_pos (show Int32.ofNat false.toNat = 0 from rfl)]
          refine mk_ok.ret ⟨g1, g2, g3, skip (fun z => ?_)⟩
          have := z.2.2.2
          rw [dv, dm, ct] at this
          exact absurd this (by decide)
        · have ok : mk_pok A r1 p (10 * i + k) := ⟨by rw [dv]; exact hi, by rw [dv]; exact ip, by rw [dm]; exact hk, by rw [dv, dm]; exact ct⟩
          have tle : mk_tl A r1 p (10 * i + k) = mk_tell A r1 p i k := by unfold mk_tl; rw [dv, dm]
          have ixp : mm_ix (10 + 10 * Int32.ofNat p + Int32.ofNat k) 123 = some (10 + 10 * p + k) := by
            rw [mn_lmul 10, mn_ladd 10, mn_add]
            exact mn_ix (show 10 + 10 * p + k < 123 by omega) (by omega)
          have ixi : mm_ix (10 + 10 * Int32.ofNat i + Int32.ofNat k) 123 = some (10 + 10 * i + k) := by
            rw [mn_lmul 10, mn_ladd 10, mn_add]
            exact mn_ix (show 10 + 10 * i + k < 123 by omega) (by omega)
          have ixk : mm_ix (Int32.ofNat k) 123 = some k := mn_ix (by omega) (by omega)
          have row : 10 * Int32.ofNat i + Int32.ofNat k = Int32.ofNat (10 * i + k) := by rw [mn_lmul 10, mn_add]
          rw [if_neg (show ¬ Int32.ofNat true.toNat = 0 by decide), g2 76 (by omega)]
          refine mk_ok.let (mk_ok.bs ixp ?_)
          rw [g2 (10 + 10 * p + k) (by omega)]
          refine mk_ok.let (mk_ok.bs ixi ?_)
          rw [g2 (10 + 10 * i + k) (by omega), row]
          refine mk_ok.let (mk_ok.bs (mn_ix (show d < 2 by omega) (by omega)) (mk_ok.let ?_))
          have c80 : mk_ch (fun c => c = 308) s.2 (mm_pI s.2 308 d (Int32.ofNat (10 * i + k))) := mk_ch.pI rfl
          have p80 : mk_Mp h (mm_pI s.2 308 d (Int32.ofNat (10 * i + k))) := g1.tr (mk_Mp.of c80 (fun c z => by omega))
          have a80 : (mm_pI s.2 308 d (Int32.ofNat (10 * i + k))).1 308 d = Int32.ofNat (10 * i + k) := by rw [mp_I1, if_pos ⟨rfl, rfl⟩]
          have o80 : ∀ j, j < d → (mm_pI s.2 308 d (Int32.ofNat (10 * i + k))).1 308 j = h.1 308 j := fun j hj => by rw [mp_I1, if_neg (by omega)]; exact g3 j hj
          have R80 : mk_MR r1 (mm_pI s.2 308 d (Int32.ofNat (10 * i + k))) := g2.ch c80 (by decide)
          have Q80 := g4.ch c80 (by decide)
          revert p80 a80 o80 R80 Q80
          generalize mm_pI s.2 308 d (Int32.ofNat (10 * i + k)) = h80
          intro p80 a80 o80 R80 Q80
          refine mk_ok.bind (mi_tells hT (hM.Mp p80) R80 hp hi (fun e => ip e.symm) hk) (fun v83 ⟨w1, w2⟩ => ?_)
          have p83 : mk_Mp h v83 := p80.tr (mk_Mp.of w1 (fun c z => by omega))
          have e308 : v83.1 308 = h80.1 308 := w1.e1 (by decide)
          refine mk_ok.bind (Hrp (10 * i + k) v83 (by omega) ok p83 (by rw [tle]; exact w2) (by rw [e308]; exact a80) (fun j hj => by rw [e308]; exact o80 j hj) (Q80.ch w1 (by decide))) (fun v85 ⟨x1, x2, x3, x4⟩ => ?_)
          rw [tle] at x2
          refine mk_ok.let (mk_ok.bs ixp (mk_ok.let (mk_ok.bs ixi (mk_ok.let (mk_ok.bs ixk (mk_ok.bs ixk (mk_ok.let (mk_ok.ret ?_))))))))
          have c3 : ∀ {g : mm_H} {j : Nat} {v : Int32}, mk_ch (fun c => c = 301) g (mm_pI g 301 j v) := fun {g j v} => mk_ch.pI rfl
          have tr : ∀ {h h1 h2 : mm_H}, mk_ch (fun c => c = 301) h h1 → mk_ch (fun c => c = 301) h1 h2 → mk_ch (fun c => c = 301) h h2 := fun a b => a.tr b (fun _ q => q) (fun _ q => q)
          have Rf := mi_restore hT hW hp hi hk (mk_ct_0 ct) x2
          have kf := tr (tr (tr (c3 (g := v85) (j := 76) (v := Int32.ofNat (r1 76))) (c3 (j := 10 + 10 * p + k) (v := Int32.ofNat (r1 (10 + 10 * p + k))))) (c3 (j := 10 + 10 * i + k) (v := Int32.ofNat (r1 (10 + 10 * i + k))))) (c3 (j := k) (v := ((mm_pI (mm_pI (mm_pI v85 301 76 (Int32.ofNat (r1 76))) 301 (10 + 10 * p + k) (Int32.ofNat (r1 (10 + 10 * p + k)))) 301 (10 + 10 * i + k) (Int32.ofNat (r1 (10 + 10 * i + k)))).1 301 k &&& (((1 : Int32) <<< (Int32.ofNat i &&& 31)) ^^^ (-1)))))
          refine ⟨(p83.tr x1).tr (mk_Mp.of kf (fun c z => by omega)), Rf, fun j hj => ?_, x4.ch kf (by decide)⟩
          rw [kf.e1 (c := 308) (by decide), x3 j (by omega), e308]
          exact o80 j hj
    · have M2 := hM.Mp g1
      rw [M2.1 1 (by omega), f1, if_pos (Int32.le_refl _)]
      exact mk_ok.inr ⟨g1, g2, g3, g4⟩
    · rw [mn_addl 1]
      refine mk_ok.let (mk_ok.inl ⟨rfl, g1, g2, g3, g4.ext (fun s => mk_uT_no (by omega) (fun z h1 h2 ok => ?_) s)⟩)
      have := ok.2.2.1
      omega
  · have M1 := hM.Mp q1
    rw [M1.1 0 (by omega), e1, if_pos (Int32.le_refl _)]
    refine mk_ok.inr ⟨q1, q2, q3, q4.ext (fun s => mk_uT_no (by omega) (fun z h1 h2 ok => ?_) s)⟩
    have := ok.1
    omega
