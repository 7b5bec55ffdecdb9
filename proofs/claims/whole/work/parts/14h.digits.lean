/-! rests: a choice's digits, the reference's side -/
theorem mi_digits {A : mk_A} {E : mk_E} {r g : Nat → Nat} {n c : Nat} {h : mm_H} (hT : mk_T A) (hW : mk_W A r) (hM : mk_MT A E h) (hR : mk_MR r h) (hn : n ≤ 3) (hc : c < 2000) (hg : ∀ j, j < n → h.1 314 j = Int32.ofNat (g j) ∧ g j < A 263 0) : mk_ok (mm_while (σ := (Int32 × Int32 × Int32 × mm_H)) (ρ := (Int32 × mm_H)) (fun s42 => if s42.2.2.1 < 0 then (some (Sum.inr (s42.2.1, s42.2.2.2))) else ((mm_ix s42.2.2.1 3).bind fun k48 => mm_let (mm_pI s42.2.2.2 315 k48 (s42.1 - s42.1 / 11 * 11)) fun h50 => (if s42.2.1 = 0 then (some 0) else ((mm_ix s42.2.2.1 3).bind fun k54 => (f_M_may s42.2.2.1 (h50.1 315 k54) h50).bind fun v57 => if v57 = 0 then (some 0) else (some 1)) : Option Int32).bind fun j52 => mm_let (s42.1 / 11) fun y64 => mm_let (s42.2.2.1 + (-1)) fun y66 => some (Sum.inl (y64, j52, y66, h50)))) (Int32.ofNat c, 1, Int32.ofNat n - 1, h)) (fun v => v.1 = Int32.ofNat (mk_al (fun j => mk_my A r (g j) (mk_dig c n j)) n).toNat ∧ mk_ch (fun c => c = 315) h v.2 ∧ ∀ j, j < n → v.2.1 315 j = Int32.ofNat (mk_dig c n j)) := by
  refine mp_loop (fun s : Int32 × Int32 × Int32 × mm_H => ∃ m b, m ≤ n ∧ s.1 = Int32.ofNat (c / 11 ^ m) ∧ s.2.1 = Int32.ofNat (Bool.toNat b) ∧ (b = true ↔ ∀ j, n - m ≤ j → j < n → mk_my A r (g j) (mk_dig c n j) = true) ∧ s.2.2.1 = Int32.ofNat (n - m) - 1 ∧ mk_ch (fun c => c = 315) h s.2.2.2 ∧ ∀ j, n - m ≤ j → j < n → s.2.2.2.1 315 j = Int32.ofNat (mk_dig c n j)) (fun s => (s.2.2.1.toInt + 1).toNat) _ (fun s hs => ?_) _ ⟨0, true, by omega, by rw [Nat.pow_zero, Nat.div_one], rfl, ⟨fun _ j h1 h2 => absurd h1 (by omega), fun _ => rfl⟩, by rw [Nat.sub_zero], mk_ch.rf, fun j h1 h2 => absurd h1 (by omega)⟩
  obtain ⟨m, b, hm, e1, e2, e3, e4, q1, q2⟩ := hs
  by_cases z : n - m = 0
  · right
    rw [e4, if_pos ((mn_neg (by omega)).mpr z)]
    have al : b = mk_al (fun j => mk_my A r (g j) (mk_dig c n j)) n := by
      cases b
      · cases f : mk_al (fun j => mk_my A r (g j) (mk_dig c n j)) n
        · rfl
        · refine e3.mpr (fun j _ h2 => ?_)
          cases k : mk_my A r (g j) (mk_dig c n j)
          · rw [mk_al_f (i := j) k n h2] at f; exact absurd f (by decide)
          · rfl
      · exact (mk_al_t n (fun i hi => e3.mp rfl i (by omega) hi)).symm
    rw [← al]
    exact ⟨_, rfl, e2, q1, fun j hj => q2 j (by omega) hj⟩
  · have e5 : s.2.2.1 = Int32.ofNat (n - m - 1) := by rw [e4, mn_on1 z]
    have cd : c / 11 ^ m ≤ c := Nat.div_le_self _ _
    have dg : mk_dig c n (n - m - 1) = c / 11 ^ m % 11 := by unfold mk_dig; rw [show n - 1 - (n - m - 1) = m by omega]
    have dl : c / 11 ^ m % 11 < 11 := Nat.mod_lt _ (by omega)
    have rm : Int32.ofNat (c / 11 ^ m) - Int32.ofNat (c / 11 ^ m) / 11 * 11 = Int32.ofNat (c / 11 ^ m % 11) := mn_reml (b := 11) (by omega) (by decide)
    have dv : Int32.ofNat (c / 11 ^ m) / 11 = Int32.ofNat (c / 11 ^ (m + 1)) := by
      rw [mn_divl (b := 11) (by omega) (by decide), Nat.pow_succ, ← Nat.div_div_eq_div_mul]
    have kk : mk_ch (fun c => c = 315) h (mm_pI s.2.2.2 315 (n - m - 1) (Int32.ofNat (c / 11 ^ m % 11))) := q1.tr (mk_ch.pI (D := fun c => c = 315) rfl) (fun _ z => z) (fun _ z => z)
    have at0 : (mm_pI s.2.2.2 315 (n - m - 1) (Int32.ofNat (c / 11 ^ m % 11))).1 315 (n - m - 1) = Int32.ofNat (c / 11 ^ m % 11) := by rw [mp_I1, if_pos ⟨rfl, rfl⟩]
    have oth : ∀ j, ¬ j = n - m - 1 → (mm_pI s.2.2.2 315 (n - m - 1) (Int32.ofNat (c / 11 ^ m % 11))).1 315 j = s.2.2.2.1 315 j := fun j hj => by rw [mp_I1, if_neg (fun z => hj z.2)]
    obtain ⟨g1, g2⟩ := hg (n - m - 1) (by omega)
    have mc := mi_may (A := A) (E := E) (r := r) (p := g (n - m - 1)) (k := n - m - 1) (y := c / 11 ^ m % 11) (h := mm_pI s.2.2.2 315 (n - m - 1) (Int32.ofNat (c / 11 ^ m % 11))) hT hW (hM.ch kk (fun c z => by omega)) (hR.ch kk (by decide)) (by omega) g2 (by omega) (by rw [kk.e1 (c := 314) (by decide)]; exact g1)
    rw [e5, if_neg (fun y => absurd y (Int32.not_lt.mpr ((mn_lle (b := 0) (show n - m - 1 < 2147483648 by omega) (by decide)).mpr (Nat.zero_le _)))), mk_bs (mn_ix (show n - m - 1 < 3 by omega) (by omega)), e1, rm, dv]
    generalize mm_pI s.2.2.2 315 (n - m - 1) (Int32.ofNat (c / 11 ^ m % 11)) = h8 at kk at0 mc oth ⊢
    simp only [mm_let]
    have bit : (if s.2.1 = 0 then (some 0) else ((mm_ix (Int32.ofNat (n - m - 1)) 3).bind fun k54 => (f_M_may (Int32.ofNat (n - m - 1)) (h8.1 315 k54) h8).bind fun v57 => if v57 = 0 then (some 0) else (some 1)) : Option Int32) = some (Int32.ofNat (b && mk_my A r (g (n - m - 1)) (c / 11 ^ m % 11)).toNat) := by
      cases b
      · rw [e2, if_pos (show Int32.ofNat false.toNat = 0 from rfl)]; rfl
      · rw [e2, if_neg (show ¬ Int32.ofNat true.toNat = 0 by decide), mk_bs (mn_ix (show n - m - 1 < 3 by omega) (by omega)), at0, mk_bs mc, Bool.true_and]
        cases mk_my A r (g (n - m - 1)) (c / 11 ^ m % 11)
        · rw [if_pos (show Int32.ofNat false.toNat = 0 from rfl)]; rfl
        · rw [if_neg (show ¬ Int32.ofNat true.toNat = 0 by decide)]; rfl
    rw [mk_bs bit]
    have nx : Int32.ofNat (n - m - 1) + (-1) = Int32.ofNat (n - (m + 1)) - 1 := by rw [show n - (m + 1) = n - m - 1 by omega]; grind
    left
    refine ⟨_, rfl, ⟨m + 1, _, by omega, rfl, rfl, ⟨fun bb j h1 h2 => ?_, fun al => ?_⟩, nx, kk, fun j h1 h2 => ?_⟩, ?_⟩
    · obtain ⟨b1, b2⟩ := (Bool.and_eq_true _ _).mp bb
      by_cases e : j = n - m - 1
      · rw [e, dg]; exact b2
      · exact e3.mp b1 j (by omega) h2
    · refine (Bool.and_eq_true _ _).mpr ⟨e3.mpr (fun j h1 h2 => al j (by omega) h2), ?_⟩
      have := al (n - m - 1) (by omega) (by omega)
      rw [dg] at this
      exact this
    · by_cases e : j = n - m - 1
      · rw [e, at0, dg]
      · rw [oth j e]; exact q2 j (by omega) h2
    · dsimp only
      rw [nx]
      have t1 : (Int32.ofNat (n - m - 1)).toInt = (n - m - 1 : Nat) := Int32.toInt_ofNat_of_lt (by omega)
      have t2 : (Int32.ofNat (n - (m + 1)) - 1).toInt = ((n - (m + 1) : Nat) : Int) - 1 := by
        rw [Int32.toInt_sub, Int32.toInt_ofNat_of_lt (by omega)]
        have : (1 : Int32).toInt = 1 := by decide
        rw [this]
        simp only [Int.bmod]
        split <;> omega
      rw [t1, t2]
      omega
