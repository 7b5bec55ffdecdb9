/-! rests: a choice's digits, the class's side -/
def mk_dig (c n j : Nat) : Nat := c / 11 ^ (n - 1 - j) % 11
theorem mx_choose {A : mk_A} {r g : Nat → Nat} {n c : Nat} {h : mm_H} (hT : mk_T A) (hn : n ≤ 3) (hc : c < 2000) (h68 : h.1 68 2 = Int32.ofNat n) (h69 : ∀ j, j < n → h.1 69 j = Int32.ofNat (mk_kb A r (g j))) : mk_ok (f_Fe_choose (Int32.ofNat c) h) (fun v => mk_ch (fun c => c = 70) h v.2 ∧ v.1 = Int32.ofNat (mk_al (fun j => mk_my A r (g j) (mk_dig c n j)) n).toNat ∧ (mk_al (fun j => mk_my A r (g j) (mk_dig c n j)) n = true → ∀ j, j < n → v.2.1 70 j = Int32.ofNat (mk_dig c n j))) := by
  unfold f_Fe_choose
  rw [h68]
  refine mk_ok.let ?_
  refine mp_loop (fun s : Int32 × Int32 × mm_H => ∃ m, m ≤ n ∧ s.1 = Int32.ofNat (c / 11 ^ m) ∧ s.2.1 = Int32.ofNat (n - m) - 1 ∧ mk_ch (fun c => c = 70) h s.2.2 ∧ ∀ j, n - m ≤ j → j < n → s.2.2.1 70 j = Int32.ofNat (mk_dig c n j) ∧ mk_my A r (g j) (mk_dig c n j) = true) (fun s => (s.2.1.toInt + 1).toNat) _ (fun s hs => ?_) _ ⟨0, by omega, by rw [Nat.pow_zero, Nat.div_one], by rw [Nat.sub_zero], mk_ch.rf, fun j h1 h2 => absurd h1 (by omega)⟩
  obtain ⟨m, hm, e1, e2, q1, q2⟩ := hs
  by_cases z : n - m = 0
  · right
    rw [e2, if_pos ((mn_neg (by omega)).mpr z)]
    have al : mk_al (fun j => mk_my A r (g j) (mk_dig c n j)) n = true := mk_al_t n (fun i hi => (q2 i (by omega) hi).2)
    exact ⟨_, rfl, q1, by rw [al]; rfl, fun _ j hj => (q2 j (by omega) hj).1⟩
  · have e3 : s.2.1 = Int32.ofNat (n - m - 1) := by rw [e2, mn_on1 z]
    have cd : c / 11 ^ m ≤ c := Nat.div_le_self _ _
    have dg : mk_dig c n (n - m - 1) = c / 11 ^ m % 11 := by unfold mk_dig; rw [show n - 1 - (n - m - 1) = m by omega]
    have dl : c / 11 ^ m % 11 < 11 := Nat.mod_lt _ (by omega)
    have rm : Int32.ofNat (c / 11 ^ m) - Int32.ofNat (c / 11 ^ m) / 11 * 11 = Int32.ofNat (c / 11 ^ m % 11) := mn_reml (b := 11) (by omega) (by decide)
    have dv : Int32.ofNat (c / 11 ^ m) / 11 = Int32.ofNat (c / 11 ^ (m + 1)) := by
      rw [mn_divl (b := 11) (by omega) (by decide), Nat.pow_succ, ← Nat.div_div_eq_div_mul]
    have kk : mk_ch (fun c => c = 70) h (mm_pI s.2.2 70 (n - m - 1) (Int32.ofNat (c / 11 ^ m % 11))) := q1.tr (mk_ch.pI (D := fun c => c = 70) rfl) (fun _ z => z) (fun _ z => z)
    have at0 : (mm_pI s.2.2 70 (n - m - 1) (Int32.ofNat (c / 11 ^ m % 11))).1 70 (n - m - 1) = Int32.ofNat (c / 11 ^ m % 11) := by rw [mp_I1, if_pos ⟨rfl, rfl⟩]
    have mc := mx_mayChoose (A := A) (r := r) (p := g (n - m - 1)) (k := n - m - 1) (y := c / 11 ^ m % 11) (h := mm_pI s.2.2 70 (n - m - 1) (Int32.ofNat (c / 11 ^ m % 11))) hT (by omega) (by omega) (by rw [kk.e1 (c := 69) (by omega)]; exact h69 _ (by omega))
    have oth : ∀ j, ¬ j = n - m - 1 → (mm_pI s.2.2 70 (n - m - 1) (Int32.ofNat (c / 11 ^ m % 11))).1 70 j = s.2.2.1 70 j := fun j hj => by rw [mp_I1, if_neg (fun z => hj z.2)]
    rw [e3, if_neg (fun y => absurd y (Int32.not_lt.mpr ((mn_lle (b := 0) (show n - m - 1 < 2147483648 by omega) (by decide)).mpr (Nat.zero_le _)))), mk_bs (mn_ix (show n - m - 1 < 3 by omega) (by omega)), e1, rm, dv]
    generalize mm_pI s.2.2 70 (n - m - 1) (Int32.ofNat (c / 11 ^ m % 11)) = h8 at kk at0 mc oth ⊢
    simp only [mm_let]
    rw [mk_bs (mn_ix (show n - m - 1 < 3 by omega) (by omega)), at0, mk_bs mc]
    cases b : mk_my A r (g (n - m - 1)) (c / 11 ^ m % 11)
    · right
      rw [if_pos (by decide)]
      have al : mk_al (fun j => mk_my A r (g j) (mk_dig c n j)) n = false := mk_al_f (i := n - m - 1) (by rw [dg]; exact b) n (by omega)
      exact ⟨_, rfl, kk, by rw [al]; rfl, fun q => by rw [al] at q; exact absurd q (by decide)⟩
    · left
      rw [if_neg (by decide)]
      have nx : Int32.ofNat (n - m - 1) + (-1) = Int32.ofNat (n - (m + 1)) - 1 := by rw [show n - (m + 1) = n - m - 1 by omega]; grind
      refine ⟨_, rfl, ⟨m + 1, by omega, rfl, nx, kk, fun j h1 h2 => ?_⟩, ?_⟩
      · by_cases e : j = n - m - 1
        · rw [e, at0, dg]; exact ⟨rfl, b⟩
        · rw [oth j e]; exact q2 j (by omega) h2
      · dsimp only
        rw [nx]
        have t1 : (Int32.ofNat (n - m - 1)).toInt = (n - m - 1 : Nat) := Int32.toInt_ofNat_of_lt (by omega)
        have t2 : (Int32.ofNat (n - (m + 1)) - 1).toInt = ((n - (m + 1) : Nat) : Int) - 1 := by
          rw [Int32.toInt_sub, Int32.toInt_ofNat_of_lt (by omega)]
          have : (1 : Int32).toInt = 1 := by decide
          rw [this]
          simp only [Int.bmod]
          split <;> omega
        rw [t1, t2]
        omega
