/-! plot: the tellings and their code, the best of them; the class's side -/
def mk_pok (A : mk_A) (r : Nat → Nat) (p a : Nat) : Prop := a / 10 < A 263 0 ∧ ¬ a / 10 = p ∧ a % 10 < A 263 1 ∧ mk_ct A r p (a / 10) (a % 10) = true
def mk_tl (A : mk_A) (r : Nat → Nat) (p a : Nat) : Nat → Nat := mk_tell A r p (a / 10) (a % 10)
def mk_prw (A : mk_A) (r : Nat → Nat) (p c : Nat) : Nat → Nat := if c = 0 then r else if c < 61 then mk_tl A r p (c - 1) else mk_tl A (mk_tl A r p ((c - 61) / 60)) p ((c - 61) % 60)
def mk_pv (A : mk_A) (r : Nat → Nat) (p m c : Nat) : Prop := c = 0 ∨ (1 ≤ c ∧ c < 61 ∧ 1 ≤ m ∧ mk_pok A r p (c - 1)) ∨ (61 ≤ c ∧ c < 3661 ∧ 2 ≤ m ∧ mk_pok A r p ((c - 61) / 60) ∧ mk_pok A (mk_tl A r p ((c - 61) / 60)) p ((c - 61) % 60))
def mk_pw (A : mk_A) (E : mk_E) (r : Nat → Nat) (p c x : Nat) : Nat := mk_ws A E (mk_prw A r p c) (mk_kb A (mk_prw A r p c) x)
def mk_pK (A : mk_A) (E : mk_E) (r : Nat → Nat) (p q c : Nat) : Nat := (200000 + mk_pw A E r p c q - mk_pw A E r p c p) * 4000 + c
def mk_pg (A : mk_A) (E : mk_E) (r : Nat → Nat) (p q c : Nat) : Int32 := mk_gap A E (mk_prw A r p c) p q
def mk_pm (c : Nat) : Nat := if c = 0 then 0 else if c < 61 then 1 else 2
def mk_pa (c : Nat) : Int32 := if c = 0 then -1 else if c < 61 then Int32.ofNat (c - 1) else Int32.ofNat ((c - 61) / 60)
def mk_pb (c : Nat) : Int32 := if c < 61 then -1 else Int32.ofNat ((c - 61) % 60)
theorem mk_pw_le {A : mk_A} {E : mk_E} {r : Nat → Nat} {p c x : Nat} (hT : mk_T A) : mk_pw A E r p c x ≤ 99900 := mk_ws_le hT
theorem mk_pv_lt {A : mk_A} {r : Nat → Nat} {p m c : Nat} (h : mk_pv A r p m c) : c < 3661 := by
  rcases h with h | h | h <;> omega
theorem mk_p1 {A : mk_A} {r : Nat → Nat} {p a : Nat} (ha : a < 60) : mk_prw A r p (1 + a) = mk_tl A r p a ∧ mk_pm (1 + a) = 1 ∧ mk_pa (1 + a) = Int32.ofNat a ∧ mk_pb (1 + a) = -1 := by
  unfold mk_prw mk_pm mk_pa mk_pb
  rw [if_neg (by omega), if_pos (by omega), if_neg (by omega), if_pos (by omega), if_neg (by omega), if_pos (by omega), if_pos (by omega), show 1 + a - 1 = a by omega]
  exact ⟨rfl, rfl, rfl, rfl⟩
theorem mk_p2c {A : mk_A} {r : Nat → Nat} {p a b : Nat} (hb : b < 60) : mk_prw A r p (61 + 60 * a + b) = mk_tl A (mk_tl A r p a) p b ∧ mk_pm (61 + 60 * a + b) = 2 ∧ mk_pa (61 + 60 * a + b) = Int32.ofNat a ∧ mk_pb (61 + 60 * a + b) = Int32.ofNat b := by
  unfold mk_prw mk_pm mk_pa mk_pb
  rw [if_neg (by omega), if_neg (by omega), if_neg (by omega), if_neg (by omega), if_neg (by omega), if_neg (by omega), if_neg (by omega), show (61 + 60 * a + b - 61) / 60 = a by omega, show (61 + 60 * a + b - 61) % 60 = b by omega]
  exact ⟨rfl, rfl, rfl, rfl⟩
theorem mk_pv1 {A : mk_A} {r : Nat → Nat} {p m a : Nat} (ha : a < 60) (hm : 1 ≤ m) : mk_pv A r p m (1 + a) ↔ mk_pok A r p a := by
  unfold mk_pv
  rw [show 1 + a - 1 = a by omega]
  exact ⟨fun h => by
    rcases h with h | h | h
    · omega
    · exact h.2.2.2
    · omega, fun h => Or.inr (Or.inl ⟨by omega, by omega, hm, h⟩)⟩
theorem mk_pv2 {A : mk_A} {r : Nat → Nat} {p m a b : Nat} (ha : a < 60) (hb : b < 60) (hm : 2 ≤ m) : mk_pv A r p m (61 + 60 * a + b) ↔ mk_pok A r p a ∧ mk_pok A (mk_tl A r p a) p b := by
  unfold mk_pv
  rw [show (61 + 60 * a + b - 61) / 60 = a by omega, show (61 + 60 * a + b - 61) % 60 = b by omega]
  exact ⟨fun h => by
    rcases h with h | h | h
    · omega
    · omega
    · exact h.2.2.2, fun h => Or.inr (Or.inr ⟨by omega, by omega, hm, h⟩)⟩
theorem mn_gap {a b c d : Nat} (ha : a ≤ 99900) (hb : b ≤ 99900) (hc : c ≤ 99900) (hd : d ≤ 99900) : (Int32.ofNat a - Int32.ofNat b ≤ Int32.ofNat c - Int32.ofNat d) ↔ a + d ≤ c + b := by
  have key : ∀ x y : Nat, x ≤ 99900 → y ≤ 99900 → (Int32.ofNat x - Int32.ofNat y).toInt = (x : Int) - y := fun x y hx hy => by
    rw [Int32.toInt_sub, Int32.toInt_ofNat_of_lt (by omega), Int32.toInt_ofNat_of_lt (by omega)]
    simp only [Int.bmod]
    split <;> omega
  rw [Int32.le_iff_toInt_le, key a b ha hb, key c d hc hd]
  omega
theorem mn_gap_eq {a b c d : Nat} (ha : a ≤ 99900) (hb : b ≤ 99900) (hc : c ≤ 99900) (hd : d ≤ 99900) : (Int32.ofNat a - Int32.ofNat b = Int32.ofNat c - Int32.ofNat d) ↔ a + d = c + b := by
  have h1 := mn_gap ha hb hc hd
  have h2 := mn_gap hc hd ha hb
  constructor
  · intro e
    rw [e] at h1 h2
    have := h1.mp (Int32.le_refl _)
    have := h2.mp (Int32.le_refl _)
    omega
  · intro e
    exact Int32.le_antisymm (h1.mpr (by omega)) (h2.mpr (by omega))
theorem mk_pg_le {A : mk_A} {E : mk_E} {r : Nat → Nat} {p q c d : Nat} (hT : mk_T A) : (mk_pg A E r p q c ≤ mk_pg A E r p q d) ↔ mk_pw A E r p c p + mk_pw A E r p d q ≤ mk_pw A E r p d p + mk_pw A E r p c q := mn_gap (mk_pw_le hT) (mk_pw_le hT) (mk_pw_le hT) (mk_pw_le hT)
theorem mk_pg_eq {A : mk_A} {E : mk_E} {r : Nat → Nat} {p q c d : Nat} (hT : mk_T A) : (mk_pg A E r p q c = mk_pg A E r p q d) ↔ mk_pw A E r p c p + mk_pw A E r p d q = mk_pw A E r p d p + mk_pw A E r p c q := mn_gap_eq (mk_pw_le hT) (mk_pw_le hT) (mk_pw_le hT) (mk_pw_le hT)
theorem mk_pK_lt {A : mk_A} {E : mk_E} {r : Nat → Nat} {p q c d : Nat} (hT : mk_T A) (hc : c < 4000) (hd : d < 4000) : mk_pK A E r p q c < mk_pK A E r p q d ↔ ¬ mk_pg A E r p q c ≤ mk_pg A E r p q d ∨ (mk_pg A E r p q c = mk_pg A E r p q d ∧ c < d) := by
  rw [mk_pg_le hT, mk_pg_eq hT]
  unfold mk_pK
  have h1 := mk_pw_le (E := E) (r := r) (p := p) (c := c) (x := p) hT
  have h2 := mk_pw_le (E := E) (r := r) (p := p) (c := c) (x := q) hT
  have h3 := mk_pw_le (E := E) (r := r) (p := p) (c := d) (x := p) hT
  have h4 := mk_pw_le (E := E) (r := r) (p := p) (c := d) (x := q) hT
  omega
theorem mk_pK_inj {A : mk_A} {E : mk_E} {r : Nat → Nat} {p q c d : Nat} (hT : mk_T A) (hc : c < 4000) (hd : d < 4000) (h : mk_pK A E r p q c = mk_pK A E r p q d) : c = d := by
  unfold mk_pK at h
  omega
theorem mk_bst.ext {P P' : Nat → Prop} {K : Nat → Nat} {b : Nat} (h : mk_bst P K b) (e : ∀ s, P s ↔ P' s) : mk_bst P' K b := by
  rw [show P' = P from funext (fun s => propext (e s).symm)]
  exact h
theorem mk_bst_ex {P : Nat → Prop} {K : Nat → Nat} {s0 : Nat} (h0 : P s0) : ∃ b, ¬ b = 0 ∧ mk_bst P K b := by
  have key : ∀ k, (∃ s, P s ∧ K s ≤ k) → ∃ s, P s ∧ ∀ x, P x → K s ≤ K x := by
    intro k
    induction k with
    | zero =>
      intro ⟨s, h1, h2⟩
      exact ⟨s, h1, fun x _ => by omega⟩
    | succ k ih =>
      intro ⟨s, h1, h2⟩
      by_cases c : ∃ s, P s ∧ K s ≤ k
      · exact ih c
      · refine ⟨s, h1, fun x hx => ?_⟩
        rcases Nat.lt_or_ge k (K x) with l | l
        · omega
        · exact absurd ⟨x, hx, l⟩ c
  obtain ⟨s, h1, h2⟩ := key (K s0) ⟨s0, h0, Nat.le_refl _⟩
  exact ⟨s + 1, by omega, fun z => absurd z (by omega), fun _ => ⟨h1, h2⟩⟩
def mk_PB (A : mk_A) (E : mk_E) (r : Nat → Nat) (p q b : Nat) (h : mm_H) : Prop := h.1 78 0 = mk_pg A E r p q (b - 1) ∧ h.1 78 1 = Int32.ofNat (mk_pm (b - 1)) ∧ h.1 78 2 = mk_pa (b - 1) ∧ h.1 78 3 = mk_pb (b - 1)
def mk_PQ (A : mk_A) (E : mk_E) (r : Nat → Nat) (p q m n : Nat) (h : mm_H) : Prop := ∃ b, ¬ b = 0 ∧ mk_bst (fun s => s < n ∧ mk_pv A r p m s) (mk_pK A E r p q) b ∧ mk_PB A E r p q b h
theorem mk_PB.ch {D : Nat → Prop} {A : mk_A} {E : mk_E} {r : Nat → Nat} {p q b : Nat} {h h' : mm_H} (z : mk_PB A E r p q b h) (k : mk_ch D h h') (hD : ¬ D 78) : mk_PB A E r p q b h' := by
  unfold mk_PB
  rw [k.e1 hD]; exact z
theorem mk_PQ.ch {D : Nat → Prop} {A : mk_A} {E : mk_E} {r : Nat → Nat} {p q m n : Nat} {h h' : mm_H} (z : mk_PQ A E r p q m n h) (k : mk_ch D h h') (hD : ¬ D 78) : mk_PQ A E r p q m n h' := by
  obtain ⟨b, h0, h1, h2⟩ := z
  exact ⟨b, h0, h1, h2.ch k hD⟩
theorem mk_PQ.no {A : mk_A} {E : mk_E} {r : Nat → Nat} {p q m n n' : Nat} {h : mm_H} (z : mk_PQ A E r p q m n h) (hn : n ≤ n') (no : ∀ s, n ≤ s → s < n' → ¬ mk_pv A r p m s) : mk_PQ A E r p q m n' h := by
  obtain ⟨b, h0, h1, h2⟩ := z
  refine ⟨b, h0, h1.ext (fun s => ⟨fun x => ⟨by omega, x.2⟩, fun x => ⟨?_, x.2⟩⟩), h2⟩
  rcases Nat.lt_or_ge s n with l | l
  · exact l
  · exact absurd x.2 (no s l x.1)
theorem mx_keepGain {A : mk_A} {E : mk_E} {r : Nat → Nat} {p q m n : Nat} {h : mm_H} (hT : mk_T A) (z : mk_PQ A E r p q m n h) (hv : mk_pv A r p m n) {x1 x2 x3 x4 : Int32} (e1 : x1 = mk_pg A E r p q n) (e2 : x2 = Int32.ofNat (mk_pm n)) (e3 : x3 = mk_pa n) (e4 : x4 = mk_pb n) : mk_ok (f_X_keepGain x1 x2 x3 x4 h) (fun v => mk_ch (fun c => c = 78) h v ∧ mk_PQ A E r p q m (n + 1) v) := by
  obtain ⟨b, h0, h1, h2⟩ := z
  have nl := mk_pv_lt hv
  have bl : b - 1 < n := (h1.2 h0).1.1
  have lt := mk_pK_lt (E := E) (r := r) (p := p) (q := q) hT (c := n) (d := b - 1) (by omega) (by omega)
  have cases' : ∀ s, (s < n + 1 ∧ mk_pv A r p m s) → (s < n ∧ mk_pv A r p m s) ∨ s = n := fun s x => by
    by_cases e : s = n
    · exact Or.inr e
    · exact Or.inl ⟨by omega, x.2⟩
  unfold f_X_keepGain
  rw [e1, h2.1]
  by_cases c : mk_pg A E r p q n ≤ mk_pg A E r p q (b - 1)
  · rw [if_pos c]
    refine mk_ok.ret ⟨mk_ch.rf, b, h0, h1.skip (fun s x => ⟨by omega, x.2⟩) cases' (fun _ => ⟨h0, ?_⟩), h2⟩
    rcases Nat.lt_or_ge (mk_pK A E r p q n) (mk_pK A E r p q (b - 1)) with l | l
    · rcases lt.mp l with y | y
      · exact absurd c y
      · omega
    · exact l
  · rw [if_neg c, e2, e3, e4]
    have p78 : ∀ {g : mm_H} {j : Nat} {v : Int32}, mk_ch (fun c => c = 78) g (mm_pI g 78 j v) := fun {g j v} => mk_ch.pI rfl
    have tr : ∀ {h h1 h2 : mm_H}, mk_ch (fun c => c = 78) h h1 → mk_ch (fun c => c = 78) h1 h2 → mk_ch (fun c => c = 78) h h2 := fun a b => a.tr b (fun _ q => q) (fun _ q => q)
    refine mk_ok.let (mk_ok.let (mk_ok.let (mk_ok.let (mk_ok.ret ⟨tr (tr (tr p78 p78) p78) p78, n + 1, by omega, h1.take ⟨by omega, hv⟩ cases' (Or.inr (lt.mpr (Or.inl c))), ?_⟩))))
    unfold mk_PB
    rw [show n + 1 - 1 = n by omega]
    refine ⟨?_, ?_, ?_, ?_⟩
    · rw [mp_I1, if_neg (by omega), mp_I1, if_neg (by omega), mp_I1, if_neg (by omega), mp_I1, if_pos ⟨rfl, rfl⟩]
    · rw [mp_I1, if_neg (by omega), mp_I1, if_neg (by omega), mp_I1, if_pos ⟨rfl, rfl⟩]
    · rw [mp_I1, if_neg (by omega), mp_I1, if_pos ⟨rfl, rfl⟩]
    · rw [mp_I1, if_pos ⟨rfl, rfl⟩]
def mk_DP2 (c : Nat) : Prop := (41 ≤ c ∧ c ≤ 43) ∨ c = 76 ∨ c = 78
def mk_PE (A : mk_A) (E : mk_E) (t : Nat) (r : Nat → Nat) (h : mm_H) : Prop := h.2.2 32 14 = some t ∧ mk_XT A E t h ∧ mk_tb A E r h
theorem mk_PE.ch {A : mk_A} {E : mk_E} {t : Nat} {r : Nat → Nat} {h h' : mm_H} (z : mk_PE A E t r h) (k : mk_ch mk_DP2 h h') : mk_PE A E t r h' := by
  have tt := z.2.1.1
  refine ⟨by rw [k.2]; exact z.1, z.2.1.ch k (fun j y => by unfold mk_DP2 at y; omega), fun i j hi hj => ?_⟩
  rw [k.e1 (fun y => by unfold mk_DP2 at y; omega)]
  exact z.2.2 i j hi hj
theorem mk_tl_hi {A : mk_A} {r : Nat → Nat} {p a : Nat} (hT : mk_T A) (hp : p < A 263 0) (h : mk_pok A r p a) {j : Nat} (hj : 70 ≤ j ∧ ¬ j = 76) : mk_tl A r p a j = r j := by
  have hP := hT.1.1
  have hS1 := hT.1.2.1
  have h1 := h.1
  have h2 := h.2.2.1
  unfold mk_tl mk_tell
  rw [if_neg (by omega), if_neg (by omega), if_neg (by omega), if_neg (by omega)]
theorem mk_PE.tl {A : mk_A} {E : mk_E} {t p a : Nat} {r : Nat → Nat} {h : mm_H} (hT : mk_T A) (hp : p < A 263 0) (ok : mk_pok A r p a) (z : mk_PE A E t r h) : mk_PE A E t (mk_tl A r p a) h := by
  have hP := hT.1.1
  refine ⟨z.1, z.2.1, fun i j hi hj => ?_⟩
  obtain ⟨t1, t2, t3, t4, t5, t6, t7⟩ := hT.2.2.1 i hi
  rw [z.2.2 i j hi hj]
  unfold mk_b
  rw [mk_tl_hi hT hp ok (show 70 ≤ 85 ∧ ¬ 85 = 76 by omega), mk_tl_hi hT hp ok (show 70 ≤ 70 + A 270 i ∧ ¬ 70 + A 270 i = 76 by omega)]
theorem mk_tl_W {A : mk_A} {r : Nat → Nat} {p a : Nat} (hT : mk_T A) (hW : mk_W A r) (hp : p < A 263 0) (h : mk_pok A r p a) : mk_W A (mk_tl A r p a) := mk_tell_W hT hW hp h.1 h.2.2.1
theorem mk_pok_two {A : mk_A} {r : Nat → Nat} {p a : Nat} (hT : mk_T A) (hp : p < A 263 0) (h : a / 10 < A 263 0 ∧ ¬ a / 10 = p) : mk_two A (Int32.ofNat p) (Int32.ofNat (a / 10)) := by
  have hP := hT.1.1
  exact ⟨⟨p, hp, rfl⟩, ⟨_, h.1, rfl⟩, fun e => h.2 ((mn_eq (by omega) (by omega)).mp e).symm⟩
theorem mx_may1 {A : mk_A} {E : mk_E} {t : Nat} {r : Nat → Nat} {h : mm_H} {p a : Nat} (hT : mk_T A) (hW : mk_W A r) (hX : mk_XT A E t h) (hS : mk_XS A 41 r h) (hp : p < A 263 0) (ok : mk_pok A r p a) : f_St_mayTell 41 t (Int32.ofNat p) (Int32.ofNat (a / 10)) (Int32.ofNat (a % 10)) h = some 1 := by
  rw [mx_mayTell1 hT hX hW hS (mk_pok_two hT hp ⟨ok.1, ok.2.1⟩ (r := r)) hp ok.1 ok.2.2.1, ok.2.2.2]
  rfl
theorem mx_may0 {A : mk_A} {E : mk_E} {t : Nat} {r : Nat → Nat} {h : mm_H} {p a : Nat} (hT : mk_T A) (hW : mk_W A r) (hX : mk_XT A E t h) (hS : mk_XS A 41 r h) (hp : p < A 263 0) (ha : a < 60) (no : ¬ mk_pok A r p a) : f_St_mayTell 41 t (Int32.ofNat p) (Int32.ofNat (a / 10)) (Int32.ofNat (a % 10)) h = some 0 := by
  have hP := hT.1.1
  have hS1 := hT.1.2.1
  by_cases c : (a / 10 < A 263 0 ∧ ¬ a / 10 = p) ∧ a % 10 < A 263 1
  · rw [mx_mayTell1 hT hX hW hS (mk_pok_two hT hp c.1 (r := r)) hp c.1.1 c.2]
    cases b : mk_ct A r p (a / 10) (a % 10)
    · rfl
    · exact absurd ⟨c.1.1, c.1.2, c.2, b⟩ no
  · refine mx_mayTell0 hT hX hS (fun z => c ⟨⟨?_, fun e => ?_⟩, ?_⟩)
    · obtain ⟨y, hy, e⟩ := z.1.2.1
      rw [(mn_eq (by omega) (by omega)).mp e]; exact hy
    · exact z.1.2.2 (by rw [e])
    · obtain ⟨y, hy, e⟩ := z.2
      rw [(mn_eq (by omega) (by omega)).mp e]; exact hy
