/-! least, the reference's side -/
theorem mi_leastOf {A : mk_A} {E : mk_E} {r : Nat → Nat} {h : mm_H} (hT : mk_T A) (hW : mk_W A r) (hM : mk_MT A E h) (hR : mk_MR r h) {p : Nat} (hp : p < A 263 0) : mk_ok (f_M_leastOf (Int32.ofNat p) h) (fun v => v.1 = Int32.ofNat (mk_LS A E r p) - 1 ∧ mk_ch mk_DM h v.2) := by
  have hS1 := hT.1.2.1
  have hP := hT.1.1
  have h1k := mk_pow10 hS1
  have hpos : 0 < 2 ^ A 263 1 := Nat.pos_of_ne_zero (by intro z; have := Nat.pow_eq_zero.mp z; omega)
  have l1 : mk_lst A E r p 1 = 0 := by
    show (if mk_cp A E r p 0 = true ∧ _ then 0 + 1 else 0) = 0
    rw [if_neg (fun z => absurd (mk_cp_lt z.1).2 (by omega))]
  unfold f_M_leastOf
  refine mk_ok.bind (mk_ok.for (ρ := Int32 × mm_H) (2 ^ A 263 1 - 1) (fun i (s : Int32 × Int32 × Int32 × mm_H) => s.2.2.1 = Int32.ofNat (1 + i) ∧ s.1 = Int32.ofNat (mk_lst A E r p (1 + i)) - 1 ∧ (¬ mk_lst A E r p (1 + i) = 0 → s.2.1 = Int32.ofNat (mk_ws A E r (mk_lst A E r p (1 + i) - 1))) ∧ mk_ch mk_DM h s.2.2.2) (Q := fun v : Int32 × mm_H => v.1 = Int32.ofNat (mk_LS A E r p) - 1 ∧ mk_ch mk_DM h v.2) ⟨rfl, by rw [show 1 + 0 = 1 by omega, l1]; rfl, fun z => absurd l1 z, mk_ch.rf⟩ (fun i s hi ⟨e1, a1, a2, a3⟩ => ?_) (fun s ⟨e1, a1, a2, a3⟩ => ?_)) (fun v q => mk_ok.ret q)
  · have M' := hM.ch a3 mk_DM1
    have R' := hR.ch a3 mk_DM2
    refine mk_ok.bs (mi_allSecrets hT M') ?_
    rw [show 1 + (i + 1) = (1 + i) + 1 by omega]
    generalize hn : 1 + i = n at e1 a1 a2 ⊢
    have LE := mk_lst_le (A := A) (E := E) (r := r) (p := p) n
    have es : mk_lst A E r p (n + 1) = if mk_cp A E r p n = true ∧ (mk_lst A E r p n = 0 ∨ mk_K A E r n < mk_K A E r (mk_lst A E r p n - 1)) then n + 1 else mk_lst A E r p n := rfl
    rw [es]
    generalize mk_lst A E r p n = b at *
    rw [e1, if_neg (fun z => absurd ((mn_lt (by omega) (by omega)).mp z) (show ¬ 2 ^ A 263 1 - 1 < n by omega))]
    have KK := mk_K_lt (E := E) (r := r) hT (show n < 1024 by omega) (show b - 1 < 1024 by omega)
    have p1 := mk_pc_le n
    have p2 := mk_pc_le (b - 1)
    have w1 := mk_ws_le (E := E) (r := r) (s := n) hT
    have w2 := mk_ws_le (E := E) (r := r) (s := b - 1) hT
    generalize hb' : (if mk_cp A E r p n = true ∧ (b = 0 ∨ mk_K A E r n < mk_K A E r (b - 1)) then n + 1 else b) = b'
    have tk : mk_cp A E r p n = true → (b = 0 ∨ mk_K A E r n < mk_K A E r (b - 1)) → b' = n + 1 := fun x y => by rw [← hb', if_pos ⟨x, y⟩]
    have sk : ¬ (mk_cp A E r p n = true ∧ (b = 0 ∨ mk_K A E r n < mk_K A E r (b - 1))) → b' = b := fun x => by rw [← hb', if_neg x]
    have LEp : b' ≤ n + 1 := by
      rw [← hb']
      split <;> omega
    refine mk_ok.bind (Q := fun v : Int32 × Int32 × mm_H => v.1 = Int32.ofNat b' - 1 ∧ (¬ b' = 0 → v.2.1 = Int32.ofNat (mk_ws A E r (b' - 1))) ∧ mk_ch mk_DM h v.2.2) ?_ (fun v ⟨b1, b2, b3⟩ => ?_)
    · simp only [mm_jp]
      have new : ∀ (k : Int32 × mm_H), k.1 = Int32.ofNat (mk_ws A E r n) → mk_ch mk_DM h k.2 → mk_cp A E r p n = true → (b = 0 ∨ mk_K A E r n < mk_K A E r (b - 1)) → mk_ok (some (Int32.ofNat n, k.1, k.2)) (fun v : Int32 × Int32 × mm_H => v.1 = Int32.ofNat b' - 1 ∧ (¬ b' = 0 → v.2.1 = Int32.ofNat (mk_ws A E r (b' - 1))) ∧ mk_ch mk_DM h v.2.2) := fun k g1 g2 g3 g4 => by
        rw [tk g3 g4]
        exact mk_ok.ret ⟨by rw [mn_on1 (by omega)]; rfl, fun _ => g1, g2⟩
      have old : ∀ (y : Int32) (k : mm_H), (¬ b = 0 → y = s.2.1) → mk_ch mk_DM h k → ¬ (mk_cp A E r p n = true ∧ (b = 0 ∨ mk_K A E r n < mk_K A E r (b - 1))) → mk_ok (some (s.1, y, k)) (fun v : Int32 × Int32 × mm_H => v.1 = Int32.ofNat b' - 1 ∧ (¬ b' = 0 → v.2.1 = Int32.ofNat (mk_ws A E r (b' - 1))) ∧ mk_ch mk_DM h v.2.2) := fun y k g0 g2 g3 => by
        rw [sk g3]
        exact mk_ok.ret ⟨a1, fun z => (g0 z).trans (a2 z), g2⟩
      have inner : (b = 0 ∨ mk_pc n ≤ mk_pc (b - 1)) → mk_ok ((f_M_canPay (Int32.ofNat p) (Int32.ofNat n) s.2.2.2).bind fun v15 => if v15.1 = 0 then (some (s.1, s.2.1, v15.2)) else ((f_M_worthsOf (Int32.ofNat n) v15.2).bind fun v17 => if s.1 < 0 then (some (Int32.ofNat n, v17.1, v17.2)) else ((f_M_bits (Int32.ofNat n)).bind fun v22 => (f_M_bits s.1).bind fun v24 => if v22 = v24 then (if v17.1 < s.2.1 then (some (Int32.ofNat n, v17.1, v17.2)) else (some (s.1, s.2.1, v17.2))) else (some (Int32.ofNat n, v17.1, v17.2))))) (fun v : Int32 × Int32 × mm_H => v.1 = Int32.ofNat b' - 1 ∧ (¬ b' = 0 → v.2.1 = Int32.ofNat (mk_ws A E r (b' - 1))) ∧ mk_ch mk_DM h v.2.2) := by
        intro g
        refine mk_ok.bind (mi_canPay hT hW M' R' hp (by omega)) (fun v15 ⟨c1, c2⟩ => ?_)
        have c3 := a3.tr c2 (fun _ z => z) (fun _ z => (z : mk_DM _))
        rw [c1]
        cases c : mk_cp A E r p n
        · rw [if_pos (by decide)]
          exact old _ _ (fun _ => rfl) c3 (fun z => by rw [c] at z; exact absurd z.1 (by decide))
        · rw [if_neg (by decide)]
          refine mk_ok.bind (mi_worthsOf hT hW (hM.ch c3 mk_DM1) (hR.ch c3 mk_DM2) (by omega)) (fun v17 ⟨d1, d2⟩ => ?_)
          have d3 := c3.tr d2 (fun _ z => z) (fun _ z => (z : mk_DM _))
          by_cases z : b = 0
          · rw [a1, if_pos ((mn_neg (by omega)).mpr z)]
            exact new v17 d1 d3 c (Or.inl z)
          · rw [if_neg (fun y => by rw [a1] at y; exact z ((mn_neg (by omega)).mp y))]
            refine mk_ok.bs (mn_mbits (by omega)) ?_
            refine mk_ok.bs (show f_M_bits s.1 = some (Int32.ofNat (mk_pc (b - 1))) by rw [a1, mn_on1 z]; exact mn_mbits (by omega)) ?_
            by_cases x : mk_pc n = mk_pc (b - 1)
            · rw [if_pos ((mn_eq (by omega) (by omega)).mpr x), d1, a2 z]
              by_cases w : mk_ws A E r n < mk_ws A E r (b - 1)
              · rw [if_pos ((mn_lt (by omega) (by omega)).mpr w)]
                exact new (Int32.ofNat (mk_ws A E r n), v17.2) rfl d3 c (Or.inr (KK.mpr (by omega)))
              · rw [if_neg (fun y => w ((mn_lt (by omega) (by omega)).mp y))]
                exact old _ _ (fun _ => (a2 z).symm) d3 (fun y => by have := y.2.resolve_left z; have := KK.mp this; omega)
            · rw [if_neg (fun y => x ((mn_eq (by omega) (by omega)).mp y))]
              exact new v17 d1 d3 c (Or.inr (KK.mpr (by omega)))
      by_cases z : b = 0
      · rw [if_pos (show s.1 < 0 by rw [a1]; exact (mn_neg (by omega)).mpr z)]
        exact inner (Or.inl z)
      · rw [if_neg (show ¬ s.1 < 0 from fun y => by rw [a1] at y; exact z ((mn_neg (by omega)).mp y))]
        refine mk_ok.bs (mn_mbits (by omega)) ?_
        refine mk_ok.bs (show f_M_bits s.1 = some (Int32.ofNat (mk_pc (b - 1))) by rw [a1, mn_on1 z]; exact mn_mbits (by omega)) ?_
        by_cases y : mk_pc n ≤ mk_pc (b - 1)
        · rw [if_neg (fun x => absurd ((mn_lt (by omega) (by omega)).mp x) (by omega))]
          exact inner (Or.inr y)
        · rw [if_pos ((mn_lt (by omega) (by omega)).mpr (by omega))]
          exact old _ _ (fun _ => rfl) a3 (fun x => by have := x.2.resolve_left z; have := KK.mp this; omega)
    · refine mk_ok.let ?_
      rw [mn_addl 1]
      exact mk_ok.inl ⟨rfl, b1, b2, b3⟩
  · have M' := hM.ch a3 mk_DM1
    refine mk_ok.bs (mi_allSecrets hT M') ?_
    rw [show 1 + (2 ^ A 263 1 - 1) = 2 ^ A 263 1 by omega] at e1 a1
    rw [e1, if_pos ((mn_lt (by omega) (by omega)).mpr (show 2 ^ A 263 1 - 1 < 2 ^ A 263 1 by omega))]
    exact mk_ok.inr ⟨a1, a3⟩
theorem mc_least (x1 : Int32) : mk_call (f_X_least x1) (f_M_least x1) := by
  refine mk_callof (fun A E t r u hw => ?_)
  have hT := hw.1
  have hW := hw.2.1
  have hP := hT.1.1
  have hS1 := hT.1.2.1
  by_cases hs : mk_is (A 263 0) x1
  · obtain ⟨p, hp, rfl⟩ := id hs
    refine ⟨Int32.ofNat (mk_LS A E r p) - 1, r, u, t, hw, fun h hX => ?_, fun h hM => ?_⟩
    · unfold f_X_least
      have ht := hX.2.1.1
      refine mk_ok.bs (mx_gT hX.1.1 ht) ?_
      rw [mx_hasPerson hT hX.2.1, if_pos hs]
      refine mk_ok.bs rfl ?_
      rw [if_neg (by decide)]
      refine mk_ok.bs (mx_gT hX.1.1 ht) ?_
      refine mk_ok.bind (mx_weighed hT hW hX.1.1 hX.2.1 (Or.inl rfl) hX.2.2.1.1) (fun v8 ⟨c1, c2⟩ => ?_)
      have X8 := hX.DX hw c1
      refine mk_ok.bind (mx_weighSets hT X8.2.1 c2) (fun v10 ⟨d1, d2⟩ => ?_)
      have X10 : mk_X A E t r u v10 := X8.ch hw d1 (fun c z => by unfold mk_sx; omega)
      refine mk_ok.bs (mx_gT X10.1.1 ht) ?_
      refine mk_ok.bs (mx_fewest hT X10.2.1 hW X10.2.2.1.1 d2 hp) ?_
      exact mk_ok.ret ⟨rfl, X10, (mk_DXs c1 ht).tr (mk_fM.of d1 (fun c z => by omega))⟩
    · unfold f_M_least
      refine mk_ok.let ?_
      have p0 : mk_s2m h (mm_pI h 261 0 0) := mk_s2m.pI ⟨by decide, by decide⟩
      have hM1 := hM.s2 p0
      revert p0 hM1
      generalize mm_pI h 261 0 0 = h1
      intro p0 hM1
      rw [mi_isPerson hT hM1.1, if_pos hs]
      refine mk_ok.bs rfl ?_
      rw [if_neg (by decide)]
      refine mk_ok.bind (mi_leastOf hT hW hM1.1 hM1.2.1 hp) (fun v6 ⟨c1, c2⟩ => ?_)
      obtain ⟨d1, d2⟩ := hM1.DM c2
      exact mk_ok.ret ⟨c1, d1, (mk_fX.s2 p0).tr d2⟩
  · refine ⟨-1, r, u, t, hw, fun h hX => ?_, fun h hM => ?_⟩
    · unfold f_X_least
      refine mk_ok.bs (mx_gT hX.1.1 hX.2.1.1) ?_
      rw [mx_hasPerson hT hX.2.1, if_neg hs]
      refine mk_ok.bs rfl ?_
      rw [if_pos rfl]
      exact mk_ok.ret ⟨rfl, hX, mk_fM.rf⟩
    · unfold f_M_least
      refine mk_ok.let ?_
      have p0 : mk_s2m h (mm_pI h 261 0 0) := mk_s2m.pI ⟨by decide, by decide⟩
      have hM1 := hM.s2 p0
      revert p0 hM1
      generalize mm_pI h 261 0 0 = h1
      intro p0 hM1
      rw [mi_isPerson hT hM1.1, if_neg hs]
      refine mk_ok.bs rfl ?_
      rw [if_pos rfl]
      exact mk_ok.ret ⟨rfl, hM1, mk_fX.s2 p0⟩
