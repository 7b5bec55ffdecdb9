/-! plot: the reference's search, one state judged -/
def mk_MB (A : mk_A) (E : mk_E) (r : Nat → Nat) (p q b : Nat) (h : mm_H) : Prop := (b = 0 → h.1 261 61 = -1) ∧ (¬ b = 0 → h.1 261 60 = mk_pg A E r p q (b - 1) ∧ h.1 261 61 = Int32.ofNat (mk_pm (b - 1)) ∧ h.1 309 0 = mk_pa (b - 1) ∧ h.1 309 1 = mk_pb (b - 1))
def mk_MQ (A : mk_A) (E : mk_E) (r : Nat → Nat) (p q : Nat) (V : Nat → Prop) (h : mm_H) : Prop := ∃ b, mk_bst V (mk_pK A E r p q) b ∧ mk_MB A E r p q b h ∧ ∀ s, V s → s < 3661
def mk_DP3 (c : Nat) : Prop := (281 ≤ c ∧ c ≤ 292) ∨ c = 261 ∨ c = 301 ∨ c = 308 ∨ c = 309
def mk_Mp (h h' : mm_H) : Prop := mk_ch mk_DP3 h h' ∧ ∀ j, ¬ j = 60 → ¬ j = 61 → h'.1 261 j = h.1 261 j
theorem mk_Mp.rf {h : mm_H} : mk_Mp h h := ⟨mk_ch.rf, fun _ _ _ => rfl⟩
theorem mk_Mp.tr {h h1 h2 : mm_H} (a : mk_Mp h h1) (b : mk_Mp h1 h2) : mk_Mp h h2 := ⟨a.1.tr b.1 (fun _ z => z) (fun _ z => z), fun j n1 n2 => (b.2 j n1 n2).trans (a.2 j n1 n2)⟩
theorem mk_Mp.of {D : Nat → Prop} {h h1 : mm_H} (k : mk_ch D h h1) (hD : ∀ c, D c → (281 ≤ c ∧ c ≤ 292) ∨ c = 301 ∨ c = 308 ∨ c = 309) : mk_Mp h h1 := ⟨k.mono (fun c z => by have := hD c z; unfold mk_DP3; omega), fun j _ _ => by rw [k.e1 (fun z => by have := hD _ z; omega)]⟩
theorem mk_Mp.p {h : mm_H} {j : Nat} {v : Int32} (hj : j = 60 ∨ j = 61) : mk_Mp h (mm_pI h 261 j v) := ⟨mk_ch.pI (D := mk_DP3) (Or.inr (Or.inl rfl)), fun i n1 n2 => by rw [mp_I1, if_neg (by omega)]⟩
theorem mk_MT.Mp {A : mk_A} {E : mk_E} {h h' : mm_H} (q : mk_MT A E h) (k : mk_Mp h h') : mk_MT A E h' := q.ch k.1 (fun c z => by unfold mk_DP3 at z; omega)
theorem mk_MB.ch {D : Nat → Prop} {A : mk_A} {E : mk_E} {r : Nat → Nat} {p q b : Nat} {h h' : mm_H} (z : mk_MB A E r p q b h) (k : mk_ch D h h') (hD : ¬ D 261 ∧ ¬ D 309) : mk_MB A E r p q b h' := by
  unfold mk_MB
  rw [k.e1 hD.1, k.e1 hD.2]; exact z
theorem mk_MQ.ch {D : Nat → Prop} {A : mk_A} {E : mk_E} {r : Nat → Nat} {p q : Nat} {V : Nat → Prop} {h h' : mm_H} (z : mk_MQ A E r p q V h) (k : mk_ch D h h') (hD : ¬ D 261 ∧ ¬ D 309) : mk_MQ A E r p q V h' := by
  obtain ⟨b, h0, h1, h2⟩ := z
  exact ⟨b, h0, h1.ch k hD, h2⟩
theorem mk_MQ.ext {A : mk_A} {E : mk_E} {r : Nat → Nat} {p q : Nat} {V V' : Nat → Prop} {h : mm_H} (z : mk_MQ A E r p q V h) (e : ∀ s, V s ↔ V' s) : mk_MQ A E r p q V' h := by
  rw [show V' = V from funext (fun s => propext (e s).symm)]
  exact z
theorem mk_pm_a {n : Nat} (h : mk_pm n ≤ 0) : mk_pa n = -1 := by
  unfold mk_pm at h
  by_cases c : n = 0
  · rw [c]; rfl
  · rw [if_neg c] at h
    split at h <;> omega
theorem mk_pm_b {n : Nat} (h : mk_pm n ≤ 1) : mk_pb n = -1 := by
  unfold mk_pm at h
  unfold mk_pb
  by_cases c : n = 0
  · rw [if_pos (by omega)]
  · rw [if_neg c] at h
    by_cases d : n < 61
    · rw [if_pos d]
    · rw [if_neg d] at h; omega
theorem mk_pm_le (n : Nat) : mk_pm n ≤ 2 := by unfold mk_pm; split; omega; split <;> omega
theorem mk_pm_mono {a b : Nat} (h : a ≤ b) : mk_pm a ≤ mk_pm b := by
  unfold mk_pm
  by_cases c : a = 0
  · rw [if_pos c]; omega
  · rw [if_neg c, if_neg (show ¬ b = 0 by omega)]
    by_cases d : a < 61
    · rw [if_pos d]; split <;> omega
    · rw [if_neg d, if_neg (by omega)]; omega
theorem mi_visit {A : mk_A} {E : mk_E} {r : Nat → Nat} {p q n : Nat} {V : Nat → Prop} {h : mm_H} {K : mm_H → Option mm_H} {R : mm_H → Prop} (hT : mk_T A) (hW : mk_W A (mk_prw A r p n)) (hM : mk_MT A E h) (hR : mk_MR (mk_prw A r p n) h) (hp : p < A 263 0) (hq : q < A 263 0) (hQ : mk_MQ A E r p q V h) (hn : n < 3661) (hV : ∀ c, V c → c < n ∨ mk_pm n < mk_pm c) (a1 : mk_pm n = 0 ∨ h.1 308 0 = mk_pa n) (a2 : mk_pm n < 2 ∨ h.1 308 1 = mk_pb n) (HK : ∀ v, mk_Mp h v → v.1 301 = h.1 301 → v.1 308 = h.1 308 → mk_MQ A E r p q (fun s => V s ∨ s = n) v → mk_ok (K v) R) : mk_ok ((f_M_purse (Int32.ofNat p) h).bind fun v2 => (f_M_purse (Int32.ofNat q) v2.2).bind fun v4 => mm_let (v2.1 - v4.1) fun y5 => (mm_jp (fun (j9 : Unit) => (mm_let (mm_pI v4.2 261 60 y5) fun h12 => mm_let (mm_pI h12 261 61 (Int32.ofNat (mk_pm n))) fun h14 => (mm_while (σ := (Int32 × mm_H)) (ρ := mm_H) (fun s16 => if 2 ≤ s16.1 then (some (Sum.inr s16.2)) else ((if (Int32.ofNat (mk_pm n)) ≤ s16.1 then (some (-1)) else ((mm_ix s16.1 2).bind fun k24 => some (s16.2.1 308 k24)) : Option Int32).bind fun j22 => (mm_ix s16.1 2).bind fun k29 => mm_let (mm_pI s16.2 309 k29 j22) fun h31 => mm_let (s16.1 + 1) fun y33 => some (Sum.inl (y33, h31)))) (0, h14)).bind fun v19 => some v19)) fun k11 => if (v4.2.1 261 61) < 0 then (k11 ()) else (if (v4.2.1 261 60) < y5 then (k11 ()) else (if y5 = (v4.2.1 261 60) then (if (v4.2.1 261 61) ≤ (Int32.ofNat (mk_pm n)) then (some v4.2) else (k11 ())) else (some v4.2))) : Option mm_H).bind fun j7 => K j7) R := by
  have hP := hT.1.1
  have pl := mk_pm_le n
  refine mk_ok.bind (mi_purse hT hW hM hR (show p < 31 by omega)) (fun v2 ⟨b1, b2⟩ => ?_)
  have M2 := hM.ch b2 (fun c z => by unfold mk_DM at z; omega)
  have R2 := hR.ch b2 (by unfold mk_DM; omega)
  refine mk_ok.bind (mi_purse hT hW M2 R2 (show q < 31 by omega)) (fun v4 ⟨c1, c2⟩ => ?_)
  have k4 : mk_ch mk_DM h v4.2 := b2.tr c2 (fun _ z => z) (fun _ z => z)
  have y5 : v2.1 - v4.1 = mk_pg A E r p q n := by rw [b1, c1]; rfl
  rw [y5]
  refine mk_ok.let ?_
  have e301 : v4.2.1 301 = h.1 301 := k4.e1 (by unfold mk_DM; omega)
  have e308 : v4.2.1 308 = h.1 308 := k4.e1 (by unfold mk_DM; omega)
  have p4 : mk_Mp h v4.2 := mk_Mp.of k4 (fun c z => by unfold mk_DM at z; omega)
  obtain ⟨b, h0, h1, h2⟩ := hQ.ch k4 (by unfold mk_DM; omega)
  simp only [mm_jp]
  refine mk_ok.bind (Q := fun v : mm_H => mk_Mp h v ∧ v.1 301 = h.1 301 ∧ v.1 308 = h.1 308 ∧ mk_MQ A E r p q (fun s => V s ∨ s = n) v) ?_ (fun v ⟨z1, z2, z3, z4⟩ => HK v z1 z2 z3 z4)
  have upd : (b = 0 ∨ mk_pK A E r p q n < mk_pK A E r p q (b - 1)) → mk_ok (mm_let (mm_pI v4.2 261 60 (mk_pg A E r p q n)) fun h12 => mm_let (mm_pI h12 261 61 (Int32.ofNat (mk_pm n))) fun h14 => (mm_while (σ := (Int32 × mm_H)) (ρ := mm_H) (fun s16 => if 2 ≤ s16.1 then (some (Sum.inr s16.2)) else ((if (Int32.ofNat (mk_pm n)) ≤ s16.1 then (some (-1)) else ((mm_ix s16.1 2).bind fun k24 => some (s16.2.1 308 k24)) : Option Int32).bind fun j22 => (mm_ix s16.1 2).bind fun k29 => mm_let (mm_pI s16.2 309 k29 j22) fun h31 => mm_let (s16.1 + 1) fun y33 => some (Sum.inl (y33, h31)))) (0, h14)).bind fun v19 => some v19) (fun v : mm_H => mk_Mp h v ∧ v.1 301 = h.1 301 ∧ v.1 308 = h.1 308 ∧ mk_MQ A E r p q (fun s => V s ∨ s = n) v) := by
    intro tk
    have nb := h0.take (P' := fun s => V s ∨ s = n) (Or.inr rfl) (fun s z => z) tk
    have p14 : mk_Mp h (mm_pI (mm_pI v4.2 261 60 (mk_pg A E r p q n)) 261 61 (Int32.ofNat (mk_pm n))) := (p4.tr (mk_Mp.p (Or.inl rfl))).tr (mk_Mp.p (Or.inr rfl))
    have f1 : (mm_pI (mm_pI v4.2 261 60 (mk_pg A E r p q n)) 261 61 (Int32.ofNat (mk_pm n))).1 261 60 = mk_pg A E r p q n := by rw [mp_I1, if_neg (by omega), mp_I1, if_pos ⟨rfl, rfl⟩]
    have f2 : (mm_pI (mm_pI v4.2 261 60 (mk_pg A E r p q n)) 261 61 (Int32.ofNat (mk_pm n))).1 261 61 = Int32.ofNat (mk_pm n) := by rw [mp_I1, if_pos ⟨rfl, rfl⟩]
    have f3 : ∀ c, ¬ c = 261 → (mm_pI (mm_pI v4.2 261 60 (mk_pg A E r p q n)) 261 61 (Int32.ofNat (mk_pm n))).1 c = v4.2.1 c := fun c hc => by
      funext x
      rw [mp_I1, if_neg (fun z => hc z.1), mp_I1, if_neg (fun z => hc z.1)]
    refine mk_ok.let (mk_ok.let ?_)
    revert p14 f1 f2 f3
    generalize mm_pI (mm_pI v4.2 261 60 (mk_pg A E r p q n)) 261 61 (Int32.ofNat (mk_pm n)) = h14
    intro p14 f1 f2 f3
    refine mk_ok.bind (mk_ok.for (ρ := mm_H) 2 (fun i (s : Int32 × mm_H) => s.1 = Int32.ofNat i ∧ mk_ch (fun c => c = 309) h14 s.2 ∧ ∀ j, j < i → s.2.1 309 j = if j = 0 then mk_pa n else mk_pb n) (Q := fun v => mk_ch (fun c => c = 309) h14 v ∧ ∀ j, j < 2 → v.1 309 j = if j = 0 then mk_pa n else mk_pb n) ⟨rfl, mk_ch.rf, fun j hj => absurd hj (Nat.not_lt_zero j)⟩ (fun i s hi ⟨e1, q1, q2⟩ => ?_) (fun s ⟨e1, q1, q2⟩ => ?_)) (fun v ⟨q1, q2⟩ => ?_)
    · rw [e1, if_neg (fun z => absurd ((mn_lle (b := 2) (show i < 2147483648 by omega) (by decide)).mp z) (show ¬ 2 ≤ i by omega))]
      have ix : mm_ix (Int32.ofNat i) 2 = some i := mn_ix (by omega) (by omega)
      have s308 : s.2.1 308 = h.1 308 := by rw [q1.e1 (c := 308) (by decide), f3 308 (by decide), e308]
      refine mk_ok.bs (v := if i = 0 then mk_pa n else mk_pb n) ?_ ?_
      · by_cases c : mk_pm n ≤ i
        · rw [if_pos ((mn_le (by omega) (by omega)).mpr c)]
          by_cases i0 : i = 0
          · rw [if_pos i0, mk_pm_a (by omega)]
          · rw [if_neg i0, mk_pm_b (by omega)]
        · rw [if_neg (fun z => c ((mn_le (by omega) (by omega)).mp z)), mk_bs ix, s308]
          by_cases i0 : i = 0
          · rw [if_pos i0, i0, a1.resolve_left (by omega)]
          · rw [if_neg i0, show i = 1 by omega, a2.resolve_left (by omega)]
      · refine mk_ok.bs ix ?_
        rw [mn_addl 1]
        refine mk_ok.let (mk_ok.let (mk_ok.inl ⟨rfl, q1.tr (mk_ch.pI (D := fun c => c = 309) rfl) (fun _ z => z) (fun _ z => z), fun j hj => ?_⟩))
        rw [mp_I1]
        by_cases e : j = i
        · rw [if_pos ⟨rfl, e⟩, e]
        · rw [if_neg (fun z => e z.2)]; exact q2 j (by omega)
    · rw [e1, if_pos (show (2 : Int32) ≤ Int32.ofNat 2 from Int32.le_refl _)]
      exact mk_ok.inr ⟨q1, q2⟩
    · refine mk_ok.ret ⟨p14.tr (mk_Mp.of q1 (fun c z => by omega)), ?_, ?_, n + 1, nb, ⟨fun z => absurd z (by omega), fun _ => ?_⟩, fun s z => ?_⟩
      · rw [q1.e1 (c := 301) (by decide), f3 301 (by decide), e301]
      · rw [q1.e1 (c := 308) (by decide), f3 308 (by decide), e308]
      · rw [show n + 1 - 1 = n by omega, q1.e1 (c := 261) (by decide)]
        exact ⟨f1, f2, q2 0 (by omega), q2 1 (by omega)⟩
      · rcases z with z | z
        · exact h2 s z
        · omega
  have keep : ¬ b = 0 → ¬ mk_pK A E r p q n < mk_pK A E r p q (b - 1) → mk_ok (some v4.2) (fun v : mm_H => mk_Mp h v ∧ v.1 301 = h.1 301 ∧ v.1 308 = h.1 308 ∧ mk_MQ A E r p q (fun s => V s ∨ s = n) v) := fun n0 nl =>
    mk_ok.ret ⟨p4, e301, e308, b, h0.skip (fun s z => Or.inl z) (fun s z => z) (fun _ => ⟨n0, by omega⟩), h1, fun s z => by
      rcases z with z | z
      · exact h2 s z
      · omega⟩
  by_cases b0 : b = 0
  · rw [h1.1 b0, if_pos (show (-1 : Int32) < 0 by decide)]
    exact upd (Or.inl b0)
  · obtain ⟨g1, g2, g3, g4⟩ := h1.2 b0
    have vb := (h0.2 b0).1
    have vl := h2 _ vb
    have lt := mk_pK_lt (E := E) (r := r) (p := p) (q := q) hT (c := n) (d := b - 1) (by omega) (by omega)
    have pb2 := mk_pm_le (b - 1)
    rw [g1, g2, if_neg (fun y => absurd y (Int32.not_lt.mpr ((mn_lle (b := 0) (show mk_pm (b - 1) < 2147483648 by omega) (by decide)).mpr (Nat.zero_le _))))]
    by_cases c1 : mk_pg A E r p q (b - 1) < mk_pg A E r p q n
    · rw [if_pos c1]
      exact upd (Or.inr (lt.mpr (Or.inl (Int32.not_le.mpr c1))))
    · rw [if_neg c1]
      by_cases c2 : mk_pg A E r p q n = mk_pg A E r p q (b - 1)
      · rw [if_pos c2]
        by_cases c3 : mk_pm (b - 1) ≤ mk_pm n
        · rw [if_pos ((mn_le (by omega) (by omega)).mpr c3)]
          refine keep b0 (fun y => ?_)
          rcases lt.mp y with y | y
          · exact y (Int32.not_lt.mp c1)
          · rcases hV _ vb with w | w
            · omega
            · omega
        · rw [if_neg (fun z => c3 ((mn_le (by omega) (by omega)).mp z))]
          refine upd (Or.inr (lt.mpr (Or.inr ⟨c2, ?_⟩)))
          rcases Nat.lt_or_ge n (b - 1) with l | l
          · exact l
          · exact absurd (mk_pm_mono l) c3
      · rw [if_neg c2]
        refine keep b0 (fun y => ?_)
        rcases lt.mp y with y | y
        · exact y (Int32.not_lt.mp c1)
        · exact c2 y.1
