theorem mi_rests {A : mk_A} {E : mk_E} {r g : Nat → Nat} {n : Nat} {x : Int32} {h : mm_H} (hT : mk_T A) (hW : mk_W A r) (hM : mk_MT A E h) (hR : mk_MR r h) (hn : n ≤ 3) (h68 : h.1 261 68 = Int32.ofNat n) (hg : ∀ j, j < n → h.1 314 j = Int32.ofNat (g j) ∧ g j < A 263 0) : mk_ok (mm_while (σ := (Int32 × Int32 × mm_H)) (ρ := (Int32 × mm_H)) (fun s34 => if Int32.ofNat (11 ^ n) ≤ s34.2.1 then (if x = (-1) then (some (Sum.inr (s34.1, s34.2.2))) else (some (Sum.inr ((-1), s34.2.2)))) else (mm_let ((s34.2.2.1 261 68) - 1) fun y40 => (mm_while (σ := (Int32 × Int32 × Int32 × mm_H)) (ρ := (Int32 × mm_H)) (fun s42 => if s42.2.2.1 < 0 then (some (Sum.inr (s42.2.1, s42.2.2.2))) else ((mm_ix s42.2.2.1 3).bind fun k48 => mm_let (mm_pI s42.2.2.2 315 k48 (s42.1 - s42.1 / 11 * 11)) fun h50 => (if s42.2.1 = 0 then (some 0) else ((mm_ix s42.2.2.1 3).bind fun k54 => (f_M_may s42.2.2.1 (h50.1 315 k54) h50).bind fun v57 => if v57 = 0 then (some 0) else (some 1)) : Option Int32).bind fun j52 => mm_let (s42.1 / 11) fun y64 => mm_let (s42.2.2.1 + (-1)) fun y66 => some (Sum.inl (y64, j52, y66, h50)))) (s34.2.1, 1, y40, s34.2.2)).bind fun v45 => mm_jp (fun (j72 : (Int32 × mm_H)) => (mm_let (s34.2.1 + 1) fun y75 => some (Sum.inl (j72.1, y75, j72.2)))) fun k74 => if v45.1 = 0 then (k74 (s34.1, v45.2)) else ((f_M_isRest v45.2).bind fun v78 => if v78.1 = 0 then (k74 (s34.1, v78.2)) else (if s34.1 = x then (some (Sum.inr (s34.2.1, v78.2))) else (mm_let (s34.1 + 1) fun y79 => k74 (y79, v78.2)))))) (0, 0, h)) (fun v => v.1 = mk_fans (mk_rst A E r g n) x (11 ^ n) ∧ mk_ch mk_DR h v.2) := by
  have hN := mk_11_le hn
  have DR : ∀ c, mk_DR c → c = 315 ∨ (281 ≤ c ∧ c ≤ 292) := fun c z => z
  have mM : ∀ {v}, mk_ch mk_DR h v → mk_MT A E v := fun k => hM.ch k (fun c z => by have := DR c z; omega)
  have mR : ∀ {v}, mk_ch mk_DR h v → mk_MR r v := fun k => hR.ch k (fun z => by have := DR _ z; omega)
  have m68 : ∀ {v}, mk_ch mk_DR h v → v.1 261 68 = Int32.ofNat n := fun k => by rw [k.e1 (fun z => by have := DR _ z; omega)]; exact h68
  have m314 : ∀ {v}, mk_ch mk_DR h v → ∀ j, j < n → v.1 314 j = Int32.ofNat (g j) ∧ g j < A 263 0 := fun k j hj => by rw [k.e1 (fun z => by have := DR _ z; omega)]; exact hg j hj
  refine mk_ok.lp (fun s : Int32 × Int32 × mm_H => ∃ i, i ≤ 11 ^ n ∧ s.2.1 = Int32.ofNat i ∧ s.1 = Int32.ofNat (mk_cnt (mk_rst A E r g n) i) ∧ mk_fnd (mk_rst A E r g n) x i = none ∧ mk_ch mk_DR h s.2.2) (fun s => 11 ^ n - s.2.1.toInt.toNat) ⟨0, Nat.zero_le _, rfl, rfl, rfl, mk_ch.rf⟩ (fun s hs => ?_)
  obtain ⟨c, hc, e1, e2, q1, q2⟩ := hs
  by_cases z : 11 ^ n ≤ c
  · have ec : c = 11 ^ n := by omega
    rw [e1, e2, if_pos ((mn_le (by omega) (by omega)).mpr z)]
    rw [ec] at q1
    have fa := mk_fans_n q1
    by_cases ex : x = -1
    · rw [if_pos ex] at fa ⊢
      exact mk_ok.lpr ⟨by rw [fa, ec], q2⟩
    · rw [if_neg ex] at fa ⊢
      exact mk_ok.lpr ⟨fa.symm, q2⟩
  · have st : mk_cnt (mk_rst A E r g n) (c + 1) = mk_cnt (mk_rst A E r g n) c + (mk_rst A E r g n c).toNat := rfl
    rw [e1, if_neg (fun y => z ((mn_le (by omega) (by omega)).mp y))]
    have ad : Int32.ofNat c + 1 = Int32.ofNat (c + 1) := mn_addl 1 c
    have ml : ∀ u v : Nat, u < 3000 → v < 3000 → u < v → 11 ^ n - (Int32.ofNat v).toInt.toNat < 11 ^ n - (Int32.ofNat u).toInt.toNat ∨ 11 ^ n ≤ u := fun u v h1 h2 h3 => by
      rw [Int32.toInt_ofNat_of_lt (by omega), Int32.toInt_ofNat_of_lt (by omega)]
      omega
    have mu := (ml c (c + 1) (by omega) (by omega) (by omega)).resolve_right z
    have cl := mk_cnt_le (mk_rst A E r g n) c
    refine mk_ok.let ?_
    rw [m68 q2]
    refine mk_ok.bind (mi_digits (A := A) (E := E) (r := r) (g := g) hT hW (mM q2) (mR q2) hn (show c < 2000 by omega) (m314 q2)) (fun v21 ⟨a2, a1, a3⟩ => ?_)
    have q3 : mk_ch mk_DR h v21.2 := q2.tr a1 (fun _ z => z) (fun _ z => Or.inl z)
    simp only [mm_jp, mm_let]
    rw [a2, ad]
    cases al : mk_al (fun j => mk_my A r (g j) (mk_dig c n j)) n
    · rw [if_pos (show Int32.ofNat false.toNat = 0 from rfl)]
      have f0 : mk_rst A E r g n c = false := by unfold mk_rst; rw [al]; rfl
      rw [f0] at st
      exact mk_ok.lpl ⟨⟨c + 1, by omega, rfl, by rw [st]; exact e2, mk_fnd_no q1 (fun y => by rw [f0] at y; exact absurd y.1 (by decide)), q3⟩, mu⟩
    · rw [if_neg (show ¬ Int32.ofNat true.toNat = 0 by decide)]
      have f1 : mk_rst A E r g n c = mk_al (mk_rsk A r (mk_w A E r) g (mk_dig c n) n) n := by unfold mk_rst; rw [al]; rfl
      refine mk_ok.bind (mi_isRest (A := A) (E := E) (r := r) (g := g) (ch := mk_dig c n) (n := n) hT hW (mM q3) (mR q3) hn (m68 q3) (m314 q3) (fun j hj => ⟨a3 j hj, mk_dig_le c n j⟩) (fun j hj => mk_al_e (f := fun j => mk_my A r (g j) (mk_dig c n j)) al hj)) (fun v78 ⟨b1, b2⟩ => ?_)
      have q4 : mk_ch mk_DR h v78.2 := q3.tr b2 (fun _ z => z) (fun _ z => z)
      rw [b1, ← f1]
      cases f : mk_rst A E r g n c
      · rw [f] at st
        rw [if_pos (show Int32.ofNat false.toNat = 0 from rfl)]
        exact mk_ok.lpl ⟨⟨c + 1, by omega, rfl, by rw [st]; exact e2, mk_fnd_no q1 (fun y => by rw [f] at y; exact absurd y.1 (by decide)), q4⟩, mu⟩
      · rw [f] at st
        rw [if_neg (show ¬ Int32.ofNat true.toNat = 0 by decide), e2]
        by_cases ex : Int32.ofNat (mk_cnt (mk_rst A E r g n) c) = x
        · rw [if_pos ex]
          exact mk_ok.lpr ⟨(mk_fans_s (mk_fnd_up q1 ⟨f, ex⟩ _ (by omega))).symm, q4⟩
        · rw [if_neg ex, mn_addl 1]
          exact mk_ok.lpl ⟨⟨c + 1, by omega, rfl, by rw [st]; rfl, mk_fnd_no q1 (fun y => ex y.2), q4⟩, mu⟩
theorem mc_rests (x1 x2 : Int32) : mk_call (f_X_rests x1 x2) (f_M_rests x1 x2) := by
  refine mk_callof (fun A E t r u hw => ?_)
  have hT := hw.1
  have hW := hw.2.1
  have hP := hT.1.1
  have hP6 := mk_pow6 hP
  have shl : (1 : Int32) <<< (Int32.ofNat (A 263 0) &&& 31) = Int32.ofNat (2 ^ A 263 0) := mn_pow (by omega)
  by_cases hv : ∃ G, G < 2 ^ A 263 0 ∧ x1 = Int32.ofNat G ∧ 2 ≤ mk_pc G ∧ mk_pc G ≤ 3 ∧ -1 ≤ x2
  · obtain ⟨G, hG, rfl, p2, p3, hx⟩ := hv
    have ex : mk_pc G = mk_cnt G.testBit (A 263 0) := mk_cnt_hi hG 10 (by omega)
    have e6 : mk_cnt G.testBit 6 = mk_cnt G.testBit (A 263 0) := mk_cnt_hi hG 6 hP
    have nonneg : ¬ Int32.ofNat G < 0 := fun y => absurd y (Int32.not_lt.mpr ((mn_lle (b := 0) (show G < 2147483648 by omega) (by decide)).mpr (Nat.zero_le _)))
    have small : ¬ Int32.ofNat (2 ^ A 263 0) ≤ Int32.ofNat G := fun y => absurd ((mn_le (by omega) (by omega)).mp y) (by omega)
    have n2 : ¬ Int32.ofNat (mk_pc G) < 2 := fun y => absurd ((mn_ltl (b := 2) (show mk_pc G < 2147483648 by omega) (by decide)).mp y) (show ¬ mk_pc G < 2 by omega)
    have n3 : ¬ 3 < Int32.ofNat (mk_pc G) := fun y => absurd ((mn_llt (b := 3) (show mk_pc G < 2147483648 by omega) (by decide)).mp y) (show ¬ 3 < mk_pc G by omega)
    refine ⟨mk_fans (mk_rst A E r (mk_gu G (A 263 0)) (mk_cnt G.testBit (A 263 0))) x2 (11 ^ mk_cnt G.testBit (A 263 0)), r, u, t, hw, fun h hX => ?_, fun h hM => ?_⟩
    · unfold f_X_rests
      have ht := hX.2.1.1
      refine mk_ok.bs (mn_bc (show G < 1024 by omega)) ?_
      rw [if_neg nonneg]
      refine mk_ok.bs (mx_gT hX.1.1 ht) ?_
      rw [show h.1 t 0 = Int32.ofNat (A 263 0) from hX.2.1.2.1.1, shl, if_neg small, if_neg n2, if_neg n3, if_pos hx]
      refine mk_ok.bs (mx_gT hX.1.1 ht) ?_
      refine mk_ok.bind (mx_invite hT hW hX.2.1 hX.2.2.1.1 hG (by omega)) (fun v8 ⟨a1, a2, a3⟩ => ?_)
      have X8 : mk_X A E t r u v8 := hX.ch hw a1 (fun c z => by unfold mk_sx; omega)
      refine mk_ok.bind (mx_weighed hT hW X8.1.1 X8.2.1 (Or.inl rfl) X8.2.2.1.1) (fun v10 ⟨c1, c2⟩ => ?_)
      have X10 := X8.DX hw c1
      have DXn : ∀ c, c = 68 ∨ c = 69 → ¬ mk_DX t c := fun c z => by unfold mk_DX; omega
      refine mk_ok.bind (mx_atRest (E := E) (g := mk_gu G (A 263 0)) (n := mk_cnt G.testBit (A 263 0)) (x := x2) hT (by omega) (by rw [c1.e1 (DXn 68 (Or.inl rfl))]; exact a2) (fun j hj => by rw [c1.e1 (DXn 69 (Or.inr rfl))]; exact a3 j hj) c2) (fun v12 ⟨b1, b2⟩ => ?_)
      have X12 : mk_X A E t r u v12.2 := X10.ch hw b2 (fun c z => by unfold mk_sx; omega)
      exact mk_ok.ret ⟨b1, X12, ((mk_fM.of a1 (fun c z => by omega)).tr (mk_DXs c1 ht)).tr (mk_fM.of b2 (fun c z => by omega))⟩
    · unfold f_M_rests
      refine mk_ok.let ?_
      have p0 : mk_s2m h (mm_pI h 261 0 0) := mk_s2m.pI ⟨by decide, by decide⟩
      have hM1 := hM.s2 p0
      revert p0 hM1
      generalize mm_pI h 261 0 0 = h1
      intro p0 hM1
      rw [if_neg nonneg, show h1.1 263 0 = Int32.ofNat (A 263 0) from hM1.1.1 0 (by omega), shl, if_neg small, if_neg (fun y => absurd y (Int32.not_lt.mpr hx))]
      refine mk_ok.bs (mn_mbits (show G < 2147483648 by omega)) ?_
      have wi : f_M_within (Int32.ofNat (mk_pc G)) 2 3 = some 1 := by
        unfold f_M_within
        rw [if_neg n2, if_neg n3]
      refine mk_ok.bs wi ?_
      rw [if_neg (show ¬ (1 : Int32) = 0 by decide)]
      refine mk_ok.let ?_
      refine mk_ok.bind (mi_invite (h := h1) (show G < 64 by omega) (by omega)) (fun v12 ⟨a1, a2, a3, a4⟩ => ?_)
      rw [e6] at a1 a3 a4
      have hM2 := hM1.s2 a2
      rw [a1]
      refine mk_ok.cons (mi_rests (E := E) (g := mk_gu G (A 263 0)) (n := mk_cnt G.testBit (A 263 0)) (x := x2) hT hW hM2.1 hM2.2.1 (by omega) a3 (fun j hj => ⟨by rw [← mk_gu_hi hG hj 6 hP]; exact a4 j hj, (mk_gu_lt hj).1⟩)) (fun v ⟨b1, b2⟩ => ?_)
      have p1 : mk_s2m v12.2 v.2 := mk_s2m.of b2 (fun c z => by
        have : c = 315 ∨ (281 ≤ c ∧ c ≤ 292) := z
        unfold mk_sm; omega)
      exact ⟨b1, hM2.s2 p1, ((mk_fX.s2 p0).tr (mk_fX.s2 a2)).tr (mk_fX.s2 p1)⟩
  · refine ⟨-1, r, u, t, hw, fun h hX => ?_, fun h hM => ?_⟩
    · unfold f_X_rests
      have ht := hX.2.1.1
      obtain ⟨v2, e2⟩ : ∃ v, f_JI_bitCount x1 = some v := ⟨_, rfl⟩
      refine mk_ok.bs e2 ?_
      by_cases c1 : x1 < 0
      · rw [if_pos c1]; exact mk_ok.ret ⟨rfl, hX, mk_fM.rf⟩
      · rw [if_neg c1]
        refine mk_ok.bs (mx_gT hX.1.1 ht) ?_
        rw [show h.1 t 0 = Int32.ofNat (A 263 0) from hX.2.1.2.1.1, shl]
        by_cases c2 : Int32.ofNat (2 ^ A 263 0) ≤ x1
        · rw [if_pos c2]; exact mk_ok.ret ⟨rfl, hX, mk_fM.rf⟩
        · rw [if_neg c2]
          obtain ⟨G, hG, rfl⟩ := mn_of (Int32.not_lt.mp c1)
          have hG2 : G < 2 ^ A 263 0 := by
            rcases Nat.lt_or_ge G (2 ^ A 263 0) with q | q
            · exact q
            · exact absurd ((mn_le (by omega) hG).mpr q) c2
          rw [mn_bc (show G < 1024 by omega)] at e2
          obtain rfl := Option.some.inj e2
          by_cases c3 : Int32.ofNat (mk_pc G) < 2
          · rw [if_pos c3]; exact mk_ok.ret ⟨rfl, hX, mk_fM.rf⟩
          · rw [if_neg c3]
            by_cases c4 : 3 < Int32.ofNat (mk_pc G)
            · rw [if_pos c4]; exact mk_ok.ret ⟨rfl, hX, mk_fM.rf⟩
            · rw [if_neg c4]
              by_cases c5 : -1 ≤ x2
              · have pl := mk_pc_le G
                refine absurd ⟨G, hG2, rfl, ?_, ?_, c5⟩ hv
                · rcases Nat.lt_or_ge (mk_pc G) 2 with q | q
                  · exact absurd ((mn_ltl (b := 2) (show mk_pc G < 2147483648 by omega) (by decide)).mpr q) c3
                  · exact q
                · rcases Nat.lt_or_ge 3 (mk_pc G) with q | q
                  · exact absurd ((mn_llt (b := 3) (show mk_pc G < 2147483648 by omega) (by decide)).mpr q) c4
                  · exact q
              · rw [if_neg c5]; exact mk_ok.ret ⟨rfl, hX, mk_fM.rf⟩
    · unfold f_M_rests
      refine mk_ok.let ?_
      have p0 : mk_s2m h (mm_pI h 261 0 0) := mk_s2m.pI ⟨by decide, by decide⟩
      have hM1 := hM.s2 p0
      revert p0 hM1
      generalize mm_pI h 261 0 0 = h1
      intro p0 hM1
      rw [show h1.1 263 0 = Int32.ofNat (A 263 0) from hM1.1.1 0 (by omega), shl]
      by_cases c1 : x1 < 0
      · rw [if_pos c1]; exact mk_ok.ret ⟨rfl, hM1, mk_fX.s2 p0⟩
      · rw [if_neg c1]
        by_cases c2 : Int32.ofNat (2 ^ A 263 0) ≤ x1
        · rw [if_pos c2]; exact mk_ok.ret ⟨rfl, hM1, mk_fX.s2 p0⟩
        · rw [if_neg c2]
          by_cases c5 : x2 < -1
          · rw [if_pos c5]; exact mk_ok.ret ⟨rfl, hM1, mk_fX.s2 p0⟩
          · rw [if_neg c5]
            obtain ⟨G, hG, rfl⟩ := mn_of (Int32.not_lt.mp c1)
            have hG2 : G < 2 ^ A 263 0 := by
              rcases Nat.lt_or_ge G (2 ^ A 263 0) with q | q
              · exact q
              · exact absurd ((mn_le (by omega) hG).mpr q) c2
            refine mk_ok.bs (mn_mbits hG) ?_
            have wi : f_M_within (Int32.ofNat (mk_pc G)) 2 3 = some 0 := by
              unfold f_M_within
              by_cases c3 : Int32.ofNat (mk_pc G) < 2
              · rw [if_pos c3]
              · rw [if_neg c3]
                by_cases c4 : 3 < Int32.ofNat (mk_pc G)
                · rw [if_pos c4]
                · have pl := mk_pc_le G
                  refine absurd ⟨G, hG2, rfl, ?_, ?_, Int32.not_lt.mp c5⟩ hv
                  · rcases Nat.lt_or_ge (mk_pc G) 2 with q | q
                    · exact absurd ((mn_ltl (b := 2) (show mk_pc G < 2147483648 by omega) (by decide)).mpr q) c3
                    · exact q
                  · rcases Nat.lt_or_ge 3 (mk_pc G) with q | q
                    · exact absurd ((mn_llt (b := 3) (show mk_pc G < 2147483648 by omega) (by decide)).mpr q) c4
                    · exact q
            refine mk_ok.bs wi ?_
            rw [if_pos (show (0 : Int32) = 0 from rfl)]
            exact mk_ok.ret ⟨rfl, hM1, mk_fX.s2 p0⟩
