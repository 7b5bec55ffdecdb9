/-! rests -/
def mk_fnd (f : Nat → Bool) (x : Int32) : Nat → Option Nat
  | 0 => none
  | c + 1 => match mk_fnd f x c with
    | some y => some y
    | none => if f c = true ∧ Int32.ofNat (mk_cnt f c) = x then some c else none
theorem mk_fnd_s {f : Nat → Bool} {x : Int32} (c : Nat) : mk_fnd f x (c + 1) = match mk_fnd f x c with
    | some y => some y
    | none => if f c = true ∧ Int32.ofNat (mk_cnt f c) = x then some c else none := rfl
theorem mk_fnd_no {f : Nat → Bool} {x : Int32} {c : Nat} (h : mk_fnd f x c = none) (n : ¬ (f c = true ∧ Int32.ofNat (mk_cnt f c) = x)) : mk_fnd f x (c + 1) = none := by
  rw [mk_fnd_s, h]
  exact if_neg n
theorem mk_fnd_up {f : Nat → Bool} {x : Int32} {c : Nat} (h : mk_fnd f x c = none) (n : f c = true ∧ Int32.ofNat (mk_cnt f c) = x) : ∀ m, c < m → mk_fnd f x m = some c
  | 0, q => absurd q (Nat.not_lt_zero _)
  | m + 1, q => by
    by_cases e : c = m
    · subst e
      rw [mk_fnd_s, h]
      exact if_pos n
    · rw [mk_fnd_s, mk_fnd_up h n m (by omega)]
def mk_fans (f : Nat → Bool) (x : Int32) (N : Nat) : Int32 := match mk_fnd f x N with
  | some c => Int32.ofNat c
  | none => if x = -1 then Int32.ofNat (mk_cnt f N) else -1
theorem mk_fans_s {f : Nat → Bool} {x : Int32} {N c : Nat} (h : mk_fnd f x N = some c) : mk_fans f x N = Int32.ofNat c := by
  unfold mk_fans; rw [h]
theorem mk_fans_n {f : Nat → Bool} {x : Int32} {N : Nat} (h : mk_fnd f x N = none) : mk_fans f x N = if x = -1 then Int32.ofNat (mk_cnt f N) else -1 := by
  unfold mk_fans; rw [h]
theorem mk_al_e {f : Nat → Bool} {n i : Nat} (h : mk_al f n = true) (hi : i < n) : f i = true := by
  cases c : f i
  · rw [mk_al_f c n hi] at h; exact absurd h (by decide)
  · rfl
def mk_rst (A : mk_A) (E : mk_E) (r g : Nat → Nat) (n c : Nat) : Bool := mk_al (fun j => mk_my A r (g j) (mk_dig c n j)) n && mk_al (mk_rsk A r (mk_w A E r) g (mk_dig c n) n) n
theorem mk_dig_le (c n j : Nat) : mk_dig c n j ≤ 10 := by
  have : mk_dig c n j < 11 := Nat.mod_lt _ (by omega)
  omega
theorem mk_11_le {n : Nat} (hn : n ≤ 3) : 11 ^ n ≤ 1331 := Nat.pow_le_pow_right (n := 11) (by omega) hn
theorem mx_atRest {A : mk_A} {E : mk_E} {r g : Nat → Nat} {n : Nat} {x : Int32} {h : mm_H} (hT : mk_T A) (hn : n ≤ 3) (h68 : h.1 68 2 = Int32.ofNat n) (h69 : ∀ j, j < n → h.1 69 j = Int32.ofNat (mk_kb A r (g j))) (h76 : ∀ k, k < A 263 1 → h.1 76 k = Int32.ofNat (mk_w A E r k)) : mk_ok (f_Fe_atRest 76 x h) (fun v => v.1 = mk_fans (mk_rst A E r g n) x (11 ^ n) ∧ mk_ch (fun c => c = 70) h v.2) := by
  have hN := mk_11_le hn
  unfold f_Fe_atRest
  rw [if_pos mk_t76.1]
  refine mk_ok.bind (mk_ok.for (ρ := Int32) n (fun i (s : Int32 × Int32) => s.2 = Int32.ofNat i ∧ s.1 = Int32.ofNat (11 ^ i)) (Q := fun v => v = Int32.ofNat (11 ^ n)) ⟨rfl, rfl⟩ (fun i s hi ⟨e1, e2⟩ => ?_) (fun s ⟨e1, e2⟩ => ?_)) (fun v4 b => ?_)
  · rw [h68, e1, e2, if_neg (fun z => absurd ((mn_le (by omega) (by omega)).mp z) (show ¬ n ≤ i by omega)), mn_mull 11, mn_addl 1]
    refine mk_ok.let (mk_ok.let (mk_ok.inl ⟨rfl, ?_⟩))
    rw [Nat.pow_succ]
  · rw [h68, e1, if_pos (Int32.le_refl _)]
    exact mk_ok.inr e2
  subst b
  refine mk_ok.lp (fun s : Int32 × Int32 × mm_H => ∃ i, i ≤ 11 ^ n ∧ s.2.1 = Int32.ofNat i ∧ s.1 = Int32.ofNat (mk_cnt (mk_rst A E r g n) i) ∧ mk_fnd (mk_rst A E r g n) x i = none ∧ mk_ch (fun c => c = 70) h s.2.2) (fun s => 11 ^ n - s.2.1.toInt.toNat) ⟨0, Nat.zero_le _, rfl, rfl, rfl, mk_ch.rf⟩ (fun s hs => ?_)
  obtain ⟨c, hc, e1, e2, q1, q2⟩ := hs
  by_cases z : 11 ^ n ≤ c
  · have ec : c = 11 ^ n := by omega
    rw [e1, e2, if_pos ((mn_le (by omega) (by omega)).mpr z)]
    rw [ec] at q1
    have fa := mk_fans_n q1
    by_cases ex : x = -1
    · rw [if_pos ex] at fa ⊢
      exact mk_ok.lpr ⟨by rw [fa, ec], q2⟩
    · rw [if_neg ex] at fa ⊢
      exact mk_ok.lpr ⟨fa.symm, q2⟩
  · have st : mk_cnt (mk_rst A E r g n) (c + 1) = mk_cnt (mk_rst A E r g n) c + (mk_rst A E r g n c).toNat := rfl
    rw [e1, if_neg (fun y => z ((mn_le (by omega) (by omega)).mp y))]
    have ad : Int32.ofNat c + 1 = Int32.ofNat (c + 1) := mn_addl 1 c
    have ml : ∀ u v : Nat, u < 3000 → v < 3000 → u < v → 11 ^ n - (Int32.ofNat v).toInt.toNat < 11 ^ n - (Int32.ofNat u).toInt.toNat ∨ 11 ^ n ≤ u := fun u v h1 h2 h3 => by
      rw [Int32.toInt_ofNat_of_lt (by omega), Int32.toInt_ofNat_of_lt (by omega)]
      omega
    have mu := (ml c (c + 1) (by omega) (by omega) (by omega)).resolve_right z
    have cl := mk_cnt_le (mk_rst A E r g n) c
    refine mk_ok.bind (mx_choose (A := A) (r := r) (g := g) hT hn (show c < 2000 by omega) (by rw [q2.e1 (c := 68) (by decide)]; exact h68) (fun j hj => by rw [q2.e1 (c := 69) (by decide)]; exact h69 j hj)) (fun v21 ⟨a1, a2, a3⟩ => ?_)
    have q3 : mk_ch (fun c => c = 70) h v21.2 := q2.tr a1 (fun _ z => z) (fun _ z => z)
    simp only [mm_jp, mm_let]
    rw [a2, ad]
    cases al : mk_al (fun j => mk_my A r (g j) (mk_dig c n j)) n
    · rw [if_pos (show Int32.ofNat false.toNat = 0 from rfl)]
      have f0 : mk_rst A E r g n c = false := by unfold mk_rst; rw [al]; rfl
      rw [f0] at st
      exact mk_ok.lpl ⟨⟨c + 1, by omega, rfl, by rw [st]; exact e2, mk_fnd_no q1 (fun y => by rw [f0] at y; exact absurd y.1 (by decide)), q3⟩, mu⟩
    · rw [if_neg (show ¬ Int32.ofNat true.toNat = 0 by decide)]
      have f1 : mk_rst A E r g n c = mk_al (mk_rsk A r (mk_w A E r) g (mk_dig c n) n) n := by unfold mk_rst; rw [al]; rfl
      have rs := mx_rest (A := A) (r := r) (w := mk_w A E r) (g := g) (ch := mk_dig c n) (h := v21.2) hT hn (by rw [q3.e1 (c := 68) (by decide)]; exact h68) (fun j hj => by rw [q3.e1 (c := 69) (by decide)]; exact h69 j hj) (fun j hj => ⟨a3 al j hj, mk_dig_le c n j⟩) (fun k hk => ⟨by rw [q3.e1 (c := 76) (by decide)]; exact h76 k hk, by have := mk_w_lt (E := E) (r := r) hT hk; omega⟩) (fun j hj => mk_al_e (f := fun j => mk_my A r (g j) (mk_dig c n j)) al hj)
      rw [← f1] at rs
      refine mk_ok.bs rs ?_
      cases f : mk_rst A E r g n c
      · rw [f] at st
        rw [if_neg (show ¬ false = true by decide), if_pos (show (0 : Int32) = 0 from rfl)]
        exact mk_ok.lpl ⟨⟨c + 1, by omega, rfl, by rw [st]; exact e2, mk_fnd_no q1 (fun y => by rw [f] at y; exact absurd y.1 (by decide)), q3⟩, mu⟩
      · rw [f] at st
        rw [if_pos (show true = true from rfl), if_neg (show ¬ (1 : Int32) = 0 by decide), e2]
        by_cases ex : Int32.ofNat (mk_cnt (mk_rst A E r g n) c) = x
        · rw [if_pos ex]
          exact mk_ok.lpr ⟨(mk_fans_s (mk_fnd_up q1 ⟨f, ex⟩ _ (by omega))).symm, q3⟩
        · rw [if_neg ex, mn_addl 1]
          exact mk_ok.lpl ⟨⟨c + 1, by omega, rfl, by rw [st]; rfl, mk_fnd_no q1 (fun y => ex y.2), q3⟩, mu⟩
