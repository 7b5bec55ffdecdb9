/-! loops that may end early; leaks -/
def mk_al (f : Nat → Bool) : Nat → Bool
  | 0 => true
  | n + 1 => mk_al f n && f n
theorem mk_al_f {f : Nat → Bool} {i : Nat} (h : f i = false) : ∀ n, i < n → mk_al f n = false
  | 0, q => absurd q (by omega)
  | n + 1, q => by
    show (mk_al f n && f n) = false
    by_cases e : i = n
    · subst e; rw [h, Bool.and_false]
    · rw [mk_al_f h n (by omega), Bool.false_and]
theorem mk_al_t {f : Nat → Bool} : ∀ n, (∀ i, i < n → f i = true) → mk_al f n = true
  | 0, _ => rfl
  | n + 1, q => by
    show (mk_al f n && f n) = true
    rw [mk_al_t n (fun i hi => q i (by omega)), q n (by omega)]; rfl
theorem mk_chk {step : Int32 → Option (Int32 ⊕ Int32)} {f : Nat → Bool} {n : Nat} (a b : Int32) (H : ∀ i, i < n → step (Int32.ofNat i) = some (if f i = true then Sum.inl (Int32.ofNat (i + 1)) else Sum.inr b)) (E : step (Int32.ofNat n) = some (Sum.inr a)) : mm_while step 0 = some (if mk_al f n = true then a else b) := by
  have key : ∀ k, k ≤ n → mk_al f (n - k) = true → mm_while step (Int32.ofNat (n - k)) = some (if mk_al f n = true then a else b) := by
    intro k
    induction k with
    | zero =>
      intro _ h
      rw [Nat.sub_zero] at h ⊢
      rw [if_pos h]
      exact mm_while_inr E
    | succ k ih =>
      intro hk h
      have hh := H (n - (k + 1)) (by omega)
      cases c : f (n - (k + 1))
      · rw [c, if_neg (by decide)] at hh
        rw [mk_al_f c n (by omega), if_neg (by decide)]
        exact mm_while_inr hh
      · rw [c, if_pos rfl] at hh
        rw [mm_while_inl hh, show n - (k + 1) + 1 = n - k by omega]
        refine ih (by omega) ?_
        rw [show n - k = n - (k + 1) + 1 by omega]
        show (mk_al f _ && f _) = true
        rw [h, c]; rfl
  have := key n (Nat.le_refl _) (by rw [Nat.sub_self]; rfl)
  rw [Nat.sub_self] at this
  exact this
def mk_asn (r : Nat → Nat) (u : mk_U) (s i : Nat) : Bool := decide ((if r (u 35 i) &&& s = 0 then 0 else 1) = u 36 i)
theorem mn_b01 {x : Nat} (h : x ≤ 1) : (Int32.ofNat x = 0 ↔ x = 0) ∧ (Int32.ofNat x = 1 ↔ x = 1) := ⟨mn_eql (b := 0) (show x < 4294967296 by omega) (by decide), mn_eql (b := 1) (show x < 4294967296 by omega) (by decide)⟩
theorem mk_and_lt {x y n : Nat} (h : x < n) : x &&& y < n := Nat.lt_of_le_of_lt Nat.and_le_left h
theorem mx_explains {A : mk_A} {E : mk_E} {t : Nat} {r : Nat → Nat} {u : mk_U} {h : mm_H} (hw : mk_wf A r u) (hS : mk_XS A 35 r h) (hTX : mk_TX u 47 0 h) {s : Nat} : f_X_explains (Int32.ofNat s) h = some (if mk_al (mk_asn r u s) (u 30 1) = true then 1 else 0) := by
  have hT := hw.1
  have hW := hw.2.1
  have hP := hT.1.1
  have hS1 := hT.1.2.1
  obtain ⟨w1, w2, w3, w4⟩ := hw.2.2.2.2.1
  obtain ⟨x1, x2, x3, x4⟩ := hTX
  have w2 : u 30 1 ≤ 10 := w2
  have x2 : h.1 47 5 = Int32.ofNat (u 30 1) := x2
  unfold f_X_explains
  refine mk_chk (f := mk_asn r u s) 1 0 (fun i hi => ?_) ?_
  · have y1 : h.1 52 i = Int32.ofNat (u 35 i) := (x4 i hi).1
    have y2 : h.1 53 i = Int32.ofNat (u 36 i) := (x4 i hi).2
    have z1 : u 35 i < A 263 1 := (w4 i hi).1
    have z2 : u 36 i ≤ 1 := (w4 i hi).2
    have rb := mk_p2 hP (hW.1 _ z1)
    have e1 : h.1 36 (u 35 i) = Int32.ofNat (r (u 35 i)) := hS.2.1 _ z1
    have al : r (u 35 i) &&& s < 64 := mk_and_lt rb
    rw [x2, if_neg (fun z => absurd ((mn_le (by omega) (by omega)).mp z) (show ¬ u 30 1 ≤ i by omega)), mk_bs (mn_ix (show i < 10 by omega) (by omega)), y1, mk_bs (mn_ix (show u 35 i < 10 by omega) (by omega)), e1, mn_and]
    have ea : ((if Int32.ofNat (r (u 35 i) &&& s) = 0 then some 0 else some 1) : Option Int32) = some (Int32.ofNat (if r (u 35 i) &&& s = 0 then 0 else 1)) := by
      have := mn_eql (b := 0) (show r (u 35 i) &&& s < 4294967296 by omega) (by decide)
      by_cases c : r (u 35 i) &&& s = 0
      · rw [if_pos (this.mpr c), if_pos c]; rfl
      · rw [if_neg (fun z => c (this.mp z)), if_neg c]; rfl
    rw [mk_bs ea, mk_bs (mn_ix (show i < 10 by omega) (by omega)), y2]
    have eb : ((if Int32.ofNat (u 36 i) = 1 then some 1 else some 0) : Option Int32) = some (Int32.ofNat (u 36 i)) := by
      by_cases c : u 36 i = 1
      · rw [if_pos ((mn_b01 z2).2.mpr c), c]; rfl
      · rw [if_neg (fun z => c ((mn_b01 z2).2.mp z)), show u 36 i = 0 by omega]; rfl
    rw [mk_bs eb]
    have ei : (if r (u 35 i) &&& s = 0 then 0 else 1) < 4294967296 := by split <;> omega
    unfold mk_asn
    by_cases c : (if r (u 35 i) &&& s = 0 then 0 else 1) = u 36 i
    · rw [if_pos ((mn_eq ei (by omega)).mpr c), decide_eq_true c, if_pos rfl]
      show some (Sum.inl (Int32.ofNat i + 1)) = _
      rw [mn_addl 1]
    · rw [if_neg (fun z => c ((mn_eq ei (by omega)).mp z)), decide_eq_false c, if_neg (by decide)]
  · rw [x2, if_pos (Int32.le_refl _)]
theorem mi_isAsSeen {A : mk_A} {r : Nat → Nat} {u : mk_U} {h : mm_H} (hw : mk_wf A r u) (hR : mk_MR r h) (hTM : mk_TM u 0 h) {s : Nat} : f_M_isAsSeen (Int32.ofNat s) h = some (if mk_al (mk_asn r u s) (u 30 1) = true then 1 else 0) := by
  have hT := hw.1
  have hW := hw.2.1
  have hP := hT.1.1
  have hS1 := hT.1.2.1
  obtain ⟨w1, w2, w3, w4⟩ := hw.2.2.2.2.1
  obtain ⟨x1, x2, x3, x4⟩ := hTM
  have w2 : u 30 1 ≤ 10 := w2
  have x2 : h.1 298 0 = Int32.ofNat (u 30 1) := x2
  unfold f_M_isAsSeen
  refine mk_chk (f := mk_asn r u s) 1 0 (fun i hi => ?_) ?_
  · have y := x4 i hi
    rw [show 10 * 0 + i = i by omega] at y
    have y1 : h.1 299 i = Int32.ofNat (u 35 i) := y.1
    have y2 : h.1 300 i = Int32.ofNat (u 36 i) := y.2
    have z1 : u 35 i < A 263 1 := (w4 i hi).1
    have z2 : u 36 i ≤ 1 := (w4 i hi).2
    have rb := mk_p2 hP (hW.1 _ z1)
    have e1 : h.1 301 (u 35 i) = Int32.ofNat (r (u 35 i)) := hR _ (by omega)
    have al : r (u 35 i) &&& s < 64 := mk_and_lt rb
    rw [x2, if_neg (fun z => absurd ((mn_le (by omega) (by omega)).mp z) (show ¬ u 30 1 ≤ i by omega)), mk_bs (mn_ix (show i < 50 by omega) (by omega)), y1, mk_bs (mn_ix (show u 35 i < 123 by omega) (by omega)), e1, mn_and]
    have ea : ((if Int32.ofNat (r (u 35 i) &&& s) = 0 then some 0 else some 1) : Option Int32) = some (Int32.ofNat (if r (u 35 i) &&& s = 0 then 0 else 1)) := by
      have := mn_eql (b := 0) (show r (u 35 i) &&& s < 4294967296 by omega) (by decide)
      by_cases c : r (u 35 i) &&& s = 0
      · rw [if_pos (this.mpr c), if_pos c]; rfl
      · rw [if_neg (fun z => c (this.mp z)), if_neg c]; rfl
    rw [mk_bs ea, mk_bs (mn_ix (show i < 50 by omega) (by omega)), y2]
    have ei : (if r (u 35 i) &&& s = 0 then 0 else 1) < 4294967296 := by split <;> omega
    unfold mk_asn
    by_cases c : (if r (u 35 i) &&& s = 0 then 0 else 1) = u 36 i
    · rw [if_pos ((mn_eq ei (by omega)).mpr c), decide_eq_true c, if_pos rfl]
      show some (Sum.inl (Int32.ofNat i + 1)) = _
      rw [mn_addl 1]
    · rw [if_neg (fun z => c ((mn_eq ei (by omega)).mp z)), decide_eq_false c, if_neg (by decide)]
  · rw [x2, if_pos (Int32.le_refl _)]
/-- how many explain, what all hold, what any holds, the first of the least (one more) -/
def mk_lk (r : Nat → Nat) (u : mk_U) : Nat → Nat × Nat × Nat × Nat
  | 0 => (0, 63, 0, 0)
  | n + 1 => if mk_al (mk_asn r u n) (u 30 1) = true then ((mk_lk r u n).1 + 1, (mk_lk r u n).2.1 &&& n, (mk_lk r u n).2.2.1 ||| n, if (mk_lk r u n).2.2.2 = 0 ∨ mk_pc n < mk_pc ((mk_lk r u n).2.2.2 - 1) then n + 1 else (mk_lk r u n).2.2.2) else mk_lk r u n
theorem mk_lk_le {r : Nat → Nat} {u : mk_U} : ∀ n, (mk_lk r u n).1 ≤ n ∧ (mk_lk r u n).2.2.2 ≤ n
  | 0 => ⟨Nat.le_refl _, Nat.le_refl _⟩
  | n + 1 => by
    obtain ⟨a, b⟩ := mk_lk_le (r := r) (u := u) n
    unfold mk_lk
    split
    · refine ⟨Nat.succ_le_succ a, ?_⟩
      dsimp only
      split
      · exact Nat.le_refl _
      · exact Nat.le_succ_of_le b
    · exact ⟨Nat.le_succ_of_le a, Nat.le_succ_of_le b⟩
def mk_lks (q : Nat × Nat × Nat × Nat) (a b c d : Int32) : Prop := a = Int32.ofNat q.1 ∧ b = Int32.ofNat q.2.1 ∧ c = Int32.ofNat q.2.2.1 ∧ d = Int32.ofNat q.2.2.2 - 1
theorem mn_pow {P : Nat} (hP : P ≤ 10) : (1 : Int32) <<< (Int32.ofNat P &&& 31) = Int32.ofNat (2 ^ P) := mn_shl (by omega)
theorem mk_pow6 {P : Nat} (hP : P ≤ 6) : 2 ^ P ≤ 64 := Nat.pow_le_pow_right (n := 2) (by omega) hP
theorem mk_pow10 {P : Nat} (hP : P ≤ 10) : 2 ^ P ≤ 1024 := Nat.pow_le_pow_right (n := 2) (by omega) hP
theorem mx_findLeaks {A : mk_A} {E : mk_E} {t : Nat} {r : Nat → Nat} {u : mk_U} {h : mm_H} (hw : mk_wf A r u) (hX : mk_X A E t r u h) : mk_ok (f_X_findLeaks h) (fun v => mk_ch (fun c => c = 78) h v ∧ mk_lks (mk_lk r u (2 ^ A 263 0)) (v.1 78 0) (v.1 78 1) (v.1 78 2) (v.1 78 3)) := by
  have hT := hw.1
  have hP := hT.1.1
  have h64 := mk_pow6 hP
  have hXT := hX.2.1
  have ht := hXT.1
  unfold f_X_findLeaks
  refine mk_ok.let ?_
  refine mk_ok.let ?_
  refine mk_ok.let ?_
  refine mk_ok.let ?_
  have k1 : ∀ (g : mm_H) j v, mk_ch (fun c => c = 78) g (mm_pI g 78 j v) := fun g j v => mk_ch.pI (D := fun c => c = 78) rfl
  have tr : ∀ {g g1 g2 : mm_H}, mk_ch (fun c => c = 78) g g1 → mk_ch (fun c => c = 78) g1 g2 → mk_ch (fun c => c = 78) g g2 := fun a b => a.tr b (fun _ z => z) (fun _ z => z)
  refine mk_ok.bind (mk_ok.for (ρ := mm_H) (2 ^ A 263 0) (fun i (s : Int32 × mm_H) => s.1 = Int32.ofNat i ∧ mk_ch (fun c => c = 78) h s.2 ∧ mk_lks (mk_lk r u i) (s.2.1 78 0) (s.2.1 78 1) (s.2.1 78 2) (s.2.1 78 3)) (Q := fun v : mm_H => mk_ch (fun c => c = 78) h v ∧ mk_lks (mk_lk r u (2 ^ A 263 0)) (v.1 78 0) (v.1 78 1) (v.1 78 2) (v.1 78 3)) ⟨rfl, tr (tr (tr (k1 _ _ _) (k1 _ _ _)) (k1 _ _ _)) (k1 _ _ _), ?_⟩ (fun i s hi ⟨e1, q1, q2⟩ => ?_) (fun s ⟨e1, q1, q2⟩ => ?_)) (fun v q => mk_ok.ret q)
  · refine ⟨?_, ?_, ?_, ?_⟩ <;> simp only [mp_I1] <;> rfl
  · have X' := hXT.ch q1 (fun c z => by omega)
    have S' := hX.2.2.1.1.ch q1 (fun c z => by omega)
    have T' := hX.2.2.2.2.2.1.ch q1 (fun c z => by omega)
    refine mk_ok.bs (mx_gT (by rw [q1.2]; exact hX.1.1) ht) ?_
    rw [X'.2.1.1, mn_pow (by omega), e1, if_neg (fun z => absurd ((mn_le (by omega) (by omega)).mp z) (show ¬ 2 ^ A 263 0 ≤ i by omega))]
    refine mk_ok.bs (mx_explains (E := E) (t := t) hw S' T') ?_
    have LE := mk_lk_le (r := r) (u := u) i
    obtain ⟨a1, a2, a3, a4⟩ := q2
    refine mk_ok.bind (Q := fun v : mm_H => mk_ch (fun c => c = 78) h v ∧ mk_lks (mk_lk r u (i + 1)) (v.1 78 0) (v.1 78 1) (v.1 78 2) (v.1 78 3)) ?_ (fun v q => ?_)
    · unfold mk_lk
      cases c : mk_al (mk_asn r u i) (u 30 1)
      · rw [if_pos (show (if false = true then (1 : Int32) else 0) = 0 by decide), if_neg (show ¬ false = true by decide)]
        exact mk_ok.ret ⟨q1, a1, a2, a3, a4⟩
      · rw [if_pos rfl, if_neg (by decide), if_pos rfl]
        refine mk_ok.let ?_
        refine mk_ok.let ?_
        refine mk_ok.let ?_
        have g0 : (mm_pI s.2 78 0 (s.2.1 78 0 + 1)).1 78 1 = s.2.1 78 1 := by rw [mp_I1, if_neg (by omega)]
        rw [g0, a1, a2]
        generalize hA : mm_pI (mm_pI s.2 78 0 (Int32.ofNat (mk_lk r u i).1 + 1)) 78 1 (Int32.ofNat (mk_lk r u i).2.1 &&& Int32.ofNat i) = hA'
        have b0 : hA'.1 78 0 = Int32.ofNat ((mk_lk r u i).1 + 1) := by rw [← hA, mp_I1, if_neg (by omega), mp_I1, if_pos ⟨rfl, rfl⟩, mn_addl 1]
        have b1 : hA'.1 78 1 = Int32.ofNat ((mk_lk r u i).2.1 &&& i) := by rw [← hA, mp_I1, if_pos ⟨rfl, rfl⟩, mn_and]
        have b2 : hA'.1 78 2 = Int32.ofNat (mk_lk r u i).2.2.1 := by rw [← hA, mp_I1, if_neg (by omega), mp_I1, if_neg (by omega)]; exact a3
        have b3 : hA'.1 78 3 = Int32.ofNat (mk_lk r u i).2.2.2 - 1 := by rw [← hA, mp_I1, if_neg (by omega), mp_I1, if_neg (by omega)]; exact a4
        have kA : mk_ch (fun c => c = 78) h hA' := by rw [← hA]; exact tr (tr q1 (k1 _ _ _)) (k1 _ _ _)
        rw [b2, mn_or]
        generalize hB : mm_pI hA' 78 2 (Int32.ofNat ((mk_lk r u i).2.2.1 ||| i)) = hB'
        have c0 : hB'.1 78 0 = Int32.ofNat ((mk_lk r u i).1 + 1) := by rw [← hB, mp_I1, if_neg (by omega)]; exact b0
        have c1 : hB'.1 78 1 = Int32.ofNat ((mk_lk r u i).2.1 &&& i) := by rw [← hB, mp_I1, if_neg (by omega)]; exact b1
        have c2 : hB'.1 78 2 = Int32.ofNat ((mk_lk r u i).2.2.1 ||| i) := by rw [← hB, mp_I1, if_pos ⟨rfl, rfl⟩]
        have c3 : hB'.1 78 3 = Int32.ofNat (mk_lk r u i).2.2.2 - 1 := by rw [← hB, mp_I1, if_neg (by omega)]; exact b3
        have kB : mk_ch (fun c => c = 78) h hB' := by rw [← hB]; exact tr kA (k1 _ _ _)
        simp only [mm_jp]
        have new : mk_ok (mm_let (mm_pI hB' 78 3 (Int32.ofNat i)) fun h30 => some h30) (fun v : mm_H => mk_ch (fun c => c = 78) h v ∧ mk_lks ((mk_lk r u i).1 + 1, (mk_lk r u i).2.1 &&& i, (mk_lk r u i).2.2.1 ||| i, i + 1) (v.1 78 0) (v.1 78 1) (v.1 78 2) (v.1 78 3)) := by
          refine mk_ok.let (mk_ok.ret ⟨tr kB (k1 _ _ _), ?_, ?_, ?_, ?_⟩)
          · rw [mp_I1, if_neg (by omega)]; exact c0
          · rw [mp_I1, if_neg (by omega)]; exact c1
          · rw [mp_I1, if_neg (by omega)]; exact c2
          · rw [mp_I1, if_pos ⟨rfl, rfl⟩]
            show Int32.ofNat i = Int32.ofNat (i + 1) - 1
            rw [mn_on1 (by omega)]; rfl
        rw [c3]
        by_cases z : (mk_lk r u i).2.2.2 = 0
        · rw [if_pos ((mn_rm (by omega)).mpr z), if_pos (Or.inl z)]
          exact new
        · rw [if_neg (fun y => z ((mn_rm (by omega)).mp y)), mn_on1 z]
          refine mk_ok.bs (mn_bc (by omega)) ?_
          refine mk_ok.bs (mn_bc (by omega)) ?_
          have p1 := mk_pc_le i
          have p2 := mk_pc_le ((mk_lk r u i).2.2.2 - 1)
          by_cases y : mk_pc i < mk_pc ((mk_lk r u i).2.2.2 - 1)
          · rw [if_neg (fun x => absurd ((mn_le (by omega) (by omega)).mp x) (by omega)), if_pos (Or.inr y)]
            exact new
          · rw [if_pos ((mn_le (by omega) (by omega)).mpr (by omega)), if_neg (fun x => x.elim z y)]
            exact mk_ok.ret ⟨kB, c0, c1, c2, c3⟩
    · refine mk_ok.let ?_
      rw [mn_addl 1]
      exact mk_ok.inl ⟨rfl, q⟩
  · have X' := hXT.ch q1 (fun c z => by omega)
    refine mk_ok.bs (mx_gT (by rw [q1.2]; exact hX.1.1) ht) ?_
    rw [X'.2.1.1, mn_pow (by omega), e1, if_pos (Int32.le_refl _)]
    exact mk_ok.inr ⟨q1, q2⟩
theorem mn_neg {a : Nat} (ha : a < 2000) : (Int32.ofNat a - 1 < 0) ↔ a = 0 := by
  by_cases h : a = 0
  · subst h; decide
  · rw [mn_on1 h]
    exact ⟨fun z => absurd z (Int32.not_lt.mpr ((mn_lle (b := 0) (show a - 1 < 2147483648 by omega) (by decide)).mpr (Nat.zero_le _))), fun z => absurd z h⟩
theorem mc_leaks (x1 : Int32) : mk_call (f_X_leaks x1) (f_M_leaks x1) := by
  refine mk_callof (fun A E t r u hw => ?_)
  have hT := hw.1
  have hP := hT.1.1
  have h64 := mk_pow6 hP
  by_cases hr : 0 ≤ x1 ∧ x1 ≤ 3
  · obtain ⟨x, hx, rfl⟩ := mk_upto (n := 3) (by omega) hr
    have LF := mk_lk_le (r := r) (u := u) (2 ^ A 263 0)
    refine ⟨if x = 0 then Int32.ofNat (mk_lk r u (2 ^ A 263 0)).1 else if (mk_lk r u (2 ^ A 263 0)).1 = 0 then -1 else if x = 1 then Int32.ofNat (mk_lk r u (2 ^ A 263 0)).2.1 else if x = 2 then Int32.ofNat (mk_lk r u (2 ^ A 263 0)).2.2.1 else Int32.ofNat (mk_lk r u (2 ^ A 263 0)).2.2.2 - 1, r, u, t, hw, fun h hX => ?_, fun h hM => ?_⟩
    · unfold f_X_leaks
      rw [if_neg (Int32.not_lt.mpr hr.1), if_pos hr.2]
      refine mk_ok.bind (mx_findLeaks hw hX) (fun v2 ⟨k, a1, a2, a3, a4⟩ => ?_)
      have ht := hX.2.1.1
      have X2 : mk_X A E t r u v2 := hX.ch hw k (fun c z => by unfold mk_sx; omega)
      have f2 : mk_fM h v2 := mk_fM.of k (fun c z => by omega)
      have Z : (v2.1 78 0 = 0) ↔ (mk_lk r u (2 ^ A 263 0)).1 = 0 := by rw [a1]; exact mn_eql (b := 0) (show (mk_lk r u (2 ^ A 263 0)).1 < 4294967296 by omega) (by decide)
      simp only [mm_jp]
      have hx' : x = 0 ∨ x = 1 ∨ x = 2 ∨ x = 3 := by omega
      rcases hx' with rfl | rfl | rfl | rfl
      · rw [if_pos (show Int32.ofNat 0 ≤ 0 by decide), if_pos rfl]
        refine mk_ok.bs (mn_ix (show 0 < 4 by omega) (by omega)) ?_
        exact mk_ok.ret ⟨a1, X2, f2⟩
      all_goals
        rw [if_neg (by decide), if_neg (show ¬ _ = 0 by decide)]
        by_cases z : (mk_lk r u (2 ^ A 263 0)).1 = 0
        · rw [if_pos (Z.mpr z), if_pos z]
          exact mk_ok.ret ⟨rfl, X2, f2⟩
        · rw [if_neg (fun y => z (Z.mp y)), if_neg z]
          refine mk_ok.bs (mn_ix (by decide) (by decide)) ?_
          refine mk_ok.ret ⟨?_, X2, f2⟩
          first
            | exact a2
            | exact a3
            | exact a4
    · unfold f_M_leaks
      refine mk_ok.let ?_
      have p0 : mk_s2m h (mm_pI h 261 0 0) := mk_s2m.pI ⟨by decide, by decide⟩
      have hM1 := hM.s2 p0
      revert p0 hM1
      generalize mm_pI h 261 0 0 = h1
      intro p0 hM1
      refine mk_ok.bs (mp_within _ _ _) ?_
      rw [if_pos hr, if_neg (show ¬ (1 : Int32) = 0 by decide)]
      have eP : h1.1 263 0 = Int32.ofNat (A 263 0) := hM1.1.1 0 (by omega)
      refine mk_ok.bind (mk_ok.for (ρ := Int32 × Int32 × Int32 × Int32) (2 ^ A 263 0) (fun i (s : Int32 × Int32 × Int32 × Int32 × Int32) => s.2.2.2.2 = Int32.ofNat i ∧ mk_lks (mk_lk r u i) s.1 s.2.1 s.2.2.1 s.2.2.2.1) (Q := fun v : Int32 × Int32 × Int32 × Int32 => mk_lks (mk_lk r u (2 ^ A 263 0)) v.1 v.2.1 v.2.2.1 v.2.2.2) ⟨rfl, rfl, rfl, rfl, rfl⟩ (fun i s hi ⟨e1, a1, a2, a3, a4⟩ => ?_) (fun s ⟨e1, q⟩ => ?_)) (fun v8 ⟨a1, a2, a3, a4⟩ => ?_)
      · rw [eP, mn_pow (by omega), e1, if_neg (fun z => absurd ((mn_le (by omega) (by omega)).mp z) (show ¬ 2 ^ A 263 0 ≤ i by omega))]
        refine mk_ok.bs (mi_isAsSeen hw hM1.2.1 hM1.2.2.2.2.1) ?_
        have LE := mk_lk_le (r := r) (u := u) i
        refine mk_ok.bind (Q := fun v : Int32 × Int32 × Int32 × Int32 => mk_lks (mk_lk r u (i + 1)) v.1 v.2.1 v.2.2.1 v.2.2.2) ?_ (fun v q => ?_)
        · unfold mk_lk
          cases c : mk_al (mk_asn r u i) (u 30 1)
          · rw [if_pos (show (if false = true then (1 : Int32) else 0) = 0 by decide), if_neg (show ¬ false = true by decide)]
            exact mk_ok.ret ⟨a1, a2, a3, a4⟩
          · rw [if_pos rfl, if_neg (by decide), if_pos rfl, a1, a2, a3, a4, mn_addl 1, mn_and, mn_or]
            refine mk_ok.let ?_
            refine mk_ok.let ?_
            refine mk_ok.let ?_
            simp only [mm_jp]
            by_cases z : (mk_lk r u i).2.2.2 = 0
            · rw [if_pos ((mn_neg (by omega)).mpr z), if_pos (Or.inl z)]
              exact mk_ok.ret ⟨rfl, rfl, rfl, by show Int32.ofNat i = Int32.ofNat (i + 1) - 1; rw [mn_on1 (by omega)]; rfl⟩
            · rw [if_neg (fun y => z ((mn_neg (by omega)).mp y)), mn_on1 z]
              refine mk_ok.bs (mn_mbits (by omega)) ?_
              refine mk_ok.bs (mn_mbits (by omega)) ?_
              have p1 := mk_pc_le i
              have p2 := mk_pc_le ((mk_lk r u i).2.2.2 - 1)
              by_cases y : mk_pc i < mk_pc ((mk_lk r u i).2.2.2 - 1)
              · rw [if_neg (fun x => absurd ((mn_le (by omega) (by omega)).mp x) (by omega)), if_pos (Or.inr y)]
                exact mk_ok.ret ⟨rfl, rfl, rfl, by show Int32.ofNat i = Int32.ofNat (i + 1) - 1; rw [mn_on1 (by omega)]; rfl⟩
              · rw [if_pos ((mn_le (by omega) (by omega)).mpr (by omega)), if_neg (fun x => x.elim z y)]
                exact mk_ok.ret ⟨rfl, rfl, rfl, (mn_on1 z).symm⟩
        · refine mk_ok.let ?_
          rw [mn_addl 1]
          exact mk_ok.inl ⟨rfl, q⟩
      · rw [eP, mn_pow (by omega), e1, if_pos (Int32.le_refl _)]
        exact mk_ok.inr q
      have Z : (v8.1 = 0) ↔ (mk_lk r u (2 ^ A 263 0)).1 = 0 := by rw [a1]; exact mn_eql (b := 0) (show (mk_lk r u (2 ^ A 263 0)).1 < 4294967296 by omega) (by decide)
      have hx' : x = 0 ∨ x = 1 ∨ x = 2 ∨ x = 3 := by omega
      rcases hx' with rfl | rfl | rfl | rfl
      · rw [if_pos (show Int32.ofNat 0 = 0 by decide), if_pos rfl]
        exact mk_ok.ret ⟨a1, hM1, mk_fX.s2 p0⟩
      all_goals
        rw [if_neg (by decide), if_neg (show ¬ _ = 0 by decide)]
        by_cases z : (mk_lk r u (2 ^ A 263 0)).1 = 0
        · rw [if_pos (Z.mpr z), if_pos z]
          exact mk_ok.ret ⟨rfl, hM1, mk_fX.s2 p0⟩
        · rw [if_neg (fun y => z (Z.mp y)), if_neg z]
          first
            | exact mk_ok.ret ⟨a2, hM1, mk_fX.s2 p0⟩
            | (rw [if_neg (by decide), if_pos (by decide)]; exact mk_ok.ret ⟨a3, hM1, mk_fX.s2 p0⟩)
            | (rw [if_neg (by decide), if_neg (by decide)]; exact mk_ok.ret ⟨a4, hM1, mk_fX.s2 p0⟩)
  · refine ⟨-1, r, u, t, hw, fun h hX => ?_, fun h hM => ?_⟩
    · unfold f_X_leaks
      by_cases h0 : x1 < 0
      · rw [if_pos h0]
        exact mk_ok.ret ⟨rfl, hX, mk_fM.rf⟩
      · rw [if_neg h0, if_neg (fun z => hr ⟨Int32.not_lt.mp h0, z⟩)]
        exact mk_ok.ret ⟨rfl, hX, mk_fM.rf⟩
    · unfold f_M_leaks
      refine mk_ok.let ?_
      have p0 : mk_s2m h (mm_pI h 261 0 0) := mk_s2m.pI ⟨by decide, by decide⟩
      refine mk_ok.bs (mp_within _ _ _) ?_
      rw [if_neg hr, if_pos (by decide)]
      exact mk_ok.ret ⟨rfl, hM.s2 p0, mk_fX.s2 p0⟩
