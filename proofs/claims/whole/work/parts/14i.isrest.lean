/-! rests: whether a choice is at rest, the reference's side -/
theorem mk_oth_up {ch : Nat → Nat} {k y z : Nat} : ∀ n, mk_oth (fun j => if j = k then z else ch j) k y n = mk_oth ch k y n := fun n => by
  unfold mk_oth
  refine mk_cnt_congr (fun i _ => ?_)
  by_cases e : i = k
  · rw [decide_eq_true e]; rfl
  · rw [decide_eq_false e]
    show (!false && decide ((if i = k then z else ch i) = y)) = _
    rw [if_neg e]
theorem mk_shr_up {w ch : Nat → Nat} {n k y z : Nat} : mk_shr w (fun j => if j = k then z else ch j) n k y = mk_shr w ch n k y := by
  unfold mk_shr
  rw [mk_oth_up]
theorem mk_al_cut {f : Nat → Bool} {a : Nat} (h : ∀ i, a ≤ i → f i = true) : ∀ n, a ≤ n → mk_al f n = mk_al f a
  | 0, q => by rw [show a = 0 by omega]
  | n + 1, q => by
    by_cases e : a = n + 1
    · rw [e]
    · show (mk_al f n && f n) = _
      rw [h n (by omega), mk_al_cut h n (by omega), Bool.and_true]
theorem mk_ok.lp {σ ρ : Type} {step : σ → Option (σ ⊕ ρ)} (I : σ → Prop) (μ : σ → Nat) {Q : ρ → Prop} {s0 : σ} (h0 : I s0) (H : ∀ s, I s → mk_ok (step s) (fun x => (∃ s', x = .inl s' ∧ I s' ∧ μ s' < μ s) ∨ ∃ r, x = .inr r ∧ Q r)) : mk_ok (mm_while step s0) Q :=
  mp_loop I μ Q (fun s hs => by
    obtain ⟨x, e, q⟩ := H s hs
    rcases q with ⟨s', rfl, q⟩ | ⟨r, rfl, q⟩
    · exact Or.inl ⟨s', e, q⟩
    · exact Or.inr ⟨r, e, q⟩) s0 h0
theorem mk_ok.lpl {σ ρ : Type} {I : σ → Prop} {m : Nat} {μ : σ → Nat} {Q : ρ → Prop} {s' : σ} (h : I s' ∧ μ s' < m) : mk_ok (some (Sum.inl s' : σ ⊕ ρ)) (fun x => (∃ s', x = .inl s' ∧ I s' ∧ μ s' < m) ∨ ∃ r, x = .inr r ∧ Q r) := ⟨_, rfl, Or.inl ⟨s', rfl, h⟩⟩
theorem mk_ok.lpr {σ ρ : Type} {I : σ → Prop} {m : Nat} {μ : σ → Nat} {Q : ρ → Prop} {r : ρ} (h : Q r) : mk_ok (some (Sum.inr r : σ ⊕ ρ)) (fun x => (∃ s', x = .inl s' ∧ I s' ∧ μ s' < m) ∨ ∃ r, x = .inr r ∧ Q r) := ⟨_, rfl, Or.inr ⟨r, rfl, h⟩⟩
def mk_DR (c : Nat) : Prop := c = 315 ∨ mk_DM c
theorem mi_isRest {A : mk_A} {E : mk_E} {r g ch : Nat → Nat} {n : Nat} {h : mm_H} (hT : mk_T A) (hW : mk_W A r) (hM : mk_MT A E h) (hR : mk_MR r h) (hn : n ≤ 3) (h68 : h.1 261 68 = Int32.ofNat n) (hg : ∀ j, j < n → h.1 314 j = Int32.ofNat (g j) ∧ g j < A 263 0) (h315 : ∀ j, j < n → h.1 315 j = Int32.ofNat (ch j) ∧ ch j ≤ 10) (hmy : ∀ j, j < n → mk_my A r (g j) (ch j) = true) : mk_ok (f_M_isRest h) (fun v => v.1 = Int32.ofNat (mk_al (mk_rsk A r (mk_w A E r) g ch n) n).toNat ∧ mk_ch mk_DR h v.2) := by
  have hS := hT.1.2.1
  have DR : ∀ c, mk_DR c → c = 315 ∨ (281 ≤ c ∧ c ≤ 292) := fun c z => z
  have D5 : mk_DR 315 := Or.inl rfl
  have DMR : ∀ c, mk_DM c → mk_DR c := fun c z => Or.inr z
  have mM : ∀ {v}, mk_ch mk_DR h v → mk_MT A E v := fun k => hM.ch k (fun c z => by have := DR c z; omega)
  have mR : ∀ {v}, mk_ch mk_DR h v → mk_MR r v := fun k => hR.ch k (fun z => by have := DR _ z; omega)
  have m68 : ∀ {v}, mk_ch mk_DR h v → v.1 261 68 = Int32.ofNat n := fun k => by rw [k.e1 (fun z => by have := DR _ z; omega)]; exact h68
  have m314 : ∀ {v}, mk_ch mk_DR h v → ∀ j, j < n → v.1 314 j = Int32.ofNat (g j) := fun k j hj => by rw [k.e1 (fun z => by have := DR _ z; omega)]; exact (hg j hj).1
  unfold f_M_isRest
  refine mk_ok.lp (fun s : Int32 × mm_H => ∃ i, i ≤ n ∧ s.1 = Int32.ofNat i ∧ mk_al (mk_rsk A r (mk_w A E r) g ch n) i = true ∧ mk_ch mk_DR h s.2 ∧ ∀ j, j < n → s.2.1 315 j = Int32.ofNat (ch j)) (fun s => n - s.1.toInt.toNat) ⟨0, by omega, rfl, rfl, mk_ch.rf, fun j hj => (h315 j hj).1⟩ (fun s hs => ?_)
  obtain ⟨k, hk, e1, e2, q1, q2⟩ := hs
  rw [m68 q1, e1]
  by_cases z : n ≤ k
  · rw [if_pos ((mn_le (by omega) (by omega)).mpr z)]
    rw [show k = n by omega] at e2
    exact mk_ok.lpr ⟨by rw [e2]; rfl, q1⟩
  · rw [if_neg (fun y => z ((mn_le (by omega) (by omega)).mp y)), mk_bs (mn_ix (show k < 3 by omega) (by omega)), q2 k (by omega)]
    have ck := (h315 k (by omega)).2
    obtain ⟨g1, g2⟩ := hg k (by omega)
    have ixk : mm_ix (Int32.ofNat k) 3 = some k := mn_ix (by omega) (by omega)
    simp only [mm_let]
    refine mk_ok.bind (mi_hasBy (ch := ch) hT hW (mM q1) (mR q1) hn (by omega) (m68 q1) (fun j hj => ⟨q2 j hj, (h315 j hj).2⟩) (fun z => mk_my_S (hmy k (by omega)) z)) (fun v9 ⟨c1, c2⟩ => ?_)
    have n9 : mk_ch mk_DR h v9.2 := q1.tr c2 (fun _ z => z) DMR
    have o9 : ∀ j, j < n → ¬ j = k → v9.2.1 315 j = Int32.ofNat (ch j) := fun j hj _ => by rw [c2.e1 (c := 315) (by unfold mk_DM; omega)]; exact q2 j hj
    rw [c1]
    refine mk_ok.bind (mk_ok.for (ρ := Int32 × mm_H) (A 263 1 + 1) (fun i (s : Int32 × Int32 × mm_H) => s.2.1 = Int32.ofNat i ∧ s.1 = Int32.ofNat (!mk_al (mk_rk1 A r (mk_w A E r) g ch n k) i).toNat ∧ mk_ch mk_DR h s.2.2 ∧ ∀ j, j < n → ¬ j = k → s.2.2.1 315 j = Int32.ofNat (ch j)) (Q := fun v => v.1 = Int32.ofNat (!mk_rsk A r (mk_w A E r) g ch n k).toNat ∧ mk_ch mk_DR h v.2 ∧ ∀ j, j < n → ¬ j = k → v.2.1 315 j = Int32.ofNat (ch j)) ⟨rfl, rfl, n9, o9⟩ (fun y s hy ⟨a1, a2, a3, a4⟩ => ?_) (fun s ⟨a1, a2, a3, a4⟩ => ?_)) (fun v13 ⟨b1, b2, b3⟩ => ?_)
    · have st : mk_al (mk_rk1 A r (mk_w A E r) g ch n k) (y + 1) = (mk_al (mk_rk1 A r (mk_w A E r) g ch n k) y && mk_rk1 A r (mk_w A E r) g ch n k y) := rfl
      have may := mi_may (A := A) (E := E) (r := r) (p := g k) (k := k) (y := y) (h := s.2.2) hT hW (mM a3) (mR a3) (by omega) g2 (by omega) (m314 a3 k (by omega))
      rw [(mM a3).1 1 (by omega), a1, if_neg (fun x => absurd ((mn_lt (by omega) (by omega)).mp x) (show ¬ A 263 1 < y by omega)), mk_bs may]
      refine mk_ok.bind (Q := fun v : Int32 × mm_H => v.1 = Int32.ofNat (!mk_al (mk_rk1 A r (mk_w A E r) g ch n k) (y + 1)).toNat ∧ mk_ch mk_DR h v.2 ∧ ∀ j, j < n → ¬ j = k → v.2.1 315 j = Int32.ofNat (ch j)) ?_ (fun v b => ?_)
      · cases m : mk_my A r (g k) y
        · rw [if_pos (show Int32.ofNat false.toNat = 0 from rfl), st, mk_rk1_n m, Bool.and_true]
          exact mk_ok.ret ⟨a2, a3, a4⟩
        · rw [if_neg (show ¬ Int32.ofNat true.toNat = 0 by decide), mk_bs ixk, st, mk_rk1_y m, a2]
          have p3 : mk_ch mk_DR h (mm_pI s.2.2 315 k (Int32.ofNat y)) := a3.tr (mk_ch.pI (D := mk_DR) D5) (fun _ z => z) (fun _ z => z)
          have p4 : ∀ j, j < n → ¬ j = k → (mm_pI s.2.2 315 k (Int32.ofNat y)).1 315 j = Int32.ofNat (ch j) := fun j hj e => by rw [mp_I1, if_neg (fun z => e z.2)]; exact a4 j hj e
          have p5 : (mm_pI s.2.2 315 k (Int32.ofNat y)).1 315 k = Int32.ofNat y := by rw [mp_I1, if_pos ⟨rfl, rfl⟩]
          generalize mm_pI s.2.2 315 k (Int32.ofNat y) = h2 at p3 p4 p5 ⊢
          refine mk_ok.bind (Q := fun v : Int32 × mm_H => v.1 = Int32.ofNat (!(mk_al (mk_rk1 A r (mk_w A E r) g ch n k) y && decide (mk_shr (mk_w A E r) ch n k y ≤ mk_shr (mk_w A E r) ch n k (ch k)))).toNat ∧ mk_ch mk_DR h v.2 ∧ ∀ j, j < n → ¬ j = k → v.2.1 315 j = Int32.ofNat (ch j)) ?_ (fun v b => mk_ok.ret b)
          cases al : mk_al (mk_rk1 A r (mk_w A E r) g ch n k) y
          · rw [if_neg (show ¬ Int32.ofNat (!false).toNat = 0 by decide)]
            exact mk_ok.ret ⟨rfl, p3, p4⟩
          · rw [if_pos (show Int32.ofNat (!true).toNat = 0 from rfl)]
            refine mk_ok.bind (mi_hasBy (ch := fun j => if j = k then y else ch j) hT hW (mM p3) (mR p3) hn (by omega) (m68 p3) (fun j hj => ?_) (fun z => ?_)) (fun v27 ⟨f1, f2⟩ => ?_)
            · by_cases e : j = k
              · rw [if_pos e, e]; exact ⟨p5, by omega⟩
              · rw [if_neg e]; exact ⟨p4 j hj e, (h315 j hj).2⟩
            · skip
              rw [if_pos rfl] at z ⊢
              exact mk_my_S m z
            · rw [mk_shr_up] at f1
              skip
              rw [if_pos rfl] at f1
              have n7 : mk_ch mk_DR h v27.2 := p3.tr f2 (fun _ z => z) DMR
              have o7 : ∀ j, j < n → ¬ j = k → v27.2.1 315 j = Int32.ofNat (ch j) := fun j hj e => by rw [f2.e1 (c := 315) (by unfold mk_DM; omega)]; exact p4 j hj e
              rw [f1]
              by_cases le : mk_shr (mk_w A E r) ch n k y ≤ mk_shr (mk_w A E r) ch n k (ch k)
              · rw [if_pos le, decide_eq_true le]
                exact mk_ok.ret ⟨rfl, n7, o7⟩
              · rw [if_neg le, decide_eq_false le]
                exact mk_ok.ret ⟨rfl, n7, o7⟩
      · have ad : Int32.ofNat y + 1 = Int32.ofNat (y + 1) := mn_addl 1 y
        rw [ad]
        exact mk_ok.inl ⟨rfl, b⟩
    · rw [(mM a3).1 1 (by omega), a1, if_pos ((mn_lt (by omega) (by omega)).mpr (show A 263 1 < A 263 1 + 1 by omega))]
      have cut : mk_al (mk_rk1 A r (mk_w A E r) g ch n k) 11 = mk_al (mk_rk1 A r (mk_w A E r) g ch n k) (A 263 1 + 1) := mk_al_cut (fun i hi => by
        cases m : mk_my A r (g k) i
        · exact mk_rk1_n m
        · exact absurd (mk_my_S m (by omega)) (by omega)) 11 (by omega)
      refine mk_ok.inr ⟨?_, a3, a4⟩
      unfold mk_rsk
      rw [cut]
      exact a2
    refine mk_ok.bs ixk ?_
    have p6 : mk_ch mk_DR h (mm_pI v13.2 315 k (Int32.ofNat (ch k))) := b2.tr (mk_ch.pI (D := mk_DR) D5) (fun _ z => z) (fun _ z => z)
    have p7 : ∀ j, j < n → (mm_pI v13.2 315 k (Int32.ofNat (ch k))).1 315 j = Int32.ofNat (ch j) := fun j hj => by
      rw [mp_I1]
      by_cases e : j = k
      · rw [if_pos ⟨rfl, e⟩, e]
      · rw [if_neg (fun z => e z.2)]; exact b3 j hj e
    have st : mk_al (mk_rsk A r (mk_w A E r) g ch n) (k + 1) = (mk_al (mk_rsk A r (mk_w A E r) g ch n) k && mk_rsk A r (mk_w A E r) g ch n k) := rfl
    rw [b1]
    cases rs : mk_rsk A r (mk_w A E r) g ch n k
    · rw [if_neg (show ¬ Int32.ofNat (!false).toNat = 0 by decide)]
      refine mk_ok.lpr ⟨?_, p6⟩
      rw [mk_al_f (i := k) rs n (by omega)]; rfl
    · rw [if_pos (show Int32.ofNat (!true).toNat = 0 from rfl)]
      have ad : Int32.ofNat k + 1 = Int32.ofNat (k + 1) := mn_addl 1 k
      rw [ad]
      refine mk_ok.lpl ⟨⟨k + 1, by omega, rfl, by rw [st, e2, rs]; rfl, p6, p7⟩, ?_⟩
      dsimp only
      rw [Int32.toInt_ofNat_of_lt (by omega), Int32.toInt_ofNat_of_lt (by omega)]
      omega
