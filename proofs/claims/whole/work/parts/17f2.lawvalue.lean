/-! the class's value is its steps' -/
theorem mv_m1 {n : Nat} (h : 0 < n) : Int32.ofNat n + (-1) = Int32.ofNat (n - 1) := by
  rw [← mn_on1 (x := n) (by omega)]; grind
theorem mv_m1s {n : Nat} : Int32.ofNat (n + 1) + (-1) = Int32.ofNat n := by
  have e := mv_m1 (n := n + 1) (by omega)
  rw [Nat.add_sub_cancel] at e
  exact e
theorem mv_s1s {n : Nat} : Int32.ofNat (n + 1) - 1 = Int32.ofNat n := by
  have e := mn_on1 (x := n + 1) (by omega)
  rw [Nat.add_sub_cancel] at e
  exact e
def mv_sk : List Int32 → (Nat → Int32) → Prop
  | [], _ => True
  | x :: r, f => f r.length = x ∧ mv_sk r f
theorem mv_sk.cg {f f' : Nat → Int32} : ∀ {st : List Int32}, mv_sk st f → (∀ k, k < st.length → f' k = f k) → mv_sk st f'
  | [], _, _ => trivial
  | x :: r, h, k => ⟨(k r.length (by rw [List.length_cons]; omega)).trans h.1, h.2.cg (fun j hj => k j (by rw [List.length_cons]; omega))⟩
def mv_at (f : Nat → Int32) (i : Nat) (P : List Int32) : Prop := ∀ k, (hk : k < P.length) → f (i + k) = P[k]
theorem mv_at.tl {f : Nat → Int32} {i : Nat} {y : Int32} {P : List Int32} (h : mv_at f i (y :: P)) : mv_at f (i + 1) P := fun k hk => by
  have := h (k + 1) (by rw [List.length_cons]; omega)
  rw [show i + 1 + k = i + (k + 1) by omega, this]; rfl
theorem mv_at.hd {f : Nat → Int32} {i : Nat} {y : Int32} {P : List Int32} (h : mv_at f i (y :: P)) : f i = y := h 0 (by rw [List.length_cons]; omega)
theorem mv_at.app {f : Nat → Int32} {i : Nat} {P Q : List Int32} (h : mv_at f i P) (k : mv_at f (i + P.length) Q) : mv_at f i (P ++ Q) := fun j hj => by
  rw [List.length_append] at hj
  by_cases c : j < P.length
  · rw [List.getElem_append_left c]; exact h j c
  · rw [List.getElem_append_right (by omega)]
    have := k (j - P.length) (by omega)
    rw [← this]
    congr 1
    omega
theorem mv_at.one {f : Nat → Int32} {i : Nat} {y : Int32} (h : f i = y) : mv_at f i [y] := fun k hk => by
  have k0 : k = 0 := by rw [List.length_singleton] at hk; omega
  subst k0
  exact h
theorem mv_at.cg {f f' : Nat → Int32} {i : Nat} {P : List Int32} (h : mv_at f i P) (k : ∀ j, i ≤ j → j < i + P.length → f' j = f j) : mv_at f' i P := fun j hj => (k (i + j) (by omega) (by omega)).trans (h j hj)
def mv_en (c n a hi : Int32) : mv_e := fun k => if k = 1 then c else if k = 2 then n else if k = 3 then a else hi
def mv_t1 (st : List Int32) : Int32 := match st with | [x] => x | _ => 0
theorem mv_joined {y l r : Int32} : f_La_joined y l r = some (mv_op y l r) := by
  unfold f_La_joined mv_op
  by_cases h1 : y = -11
  · rw [if_pos h1, if_pos h1]
    by_cases a : l = 0
    · rw [if_pos a, if_pos a]
    · rw [if_neg a, if_neg a]
      by_cases b : r = 0
      · rw [if_pos b, if_pos b]
      · rw [if_neg b, if_neg b]
  · rw [if_neg h1, if_neg h1]
    by_cases h2 : y = -10
    · rw [if_pos h2, if_pos h2]
      by_cases a : l = r
      · rw [if_pos a, if_pos a]
      · rw [if_neg a, if_neg a]
    · rw [if_neg h2, if_neg h2]
      by_cases h3 : y = -9
      · rw [if_pos h3, if_pos h3]
        by_cases a : r ≤ l
        · rw [if_pos a, if_pos a]
        · rw [if_neg a, if_neg a]
      · rw [if_neg h3, if_neg h3]
        by_cases h4 : y = -8
        · rw [if_pos h4, if_pos h4]
        · rw [if_neg h4, if_neg h4]
          by_cases h5 : y = -7
          · rw [if_pos h5, if_pos h5]
          · rw [if_neg h5, if_neg h5]
            by_cases h6 : y = -6
            · rw [if_pos h6, if_pos h6]
            · rw [if_neg h6, if_neg h6]
              by_cases a : l = 0
              · rw [if_pos a, if_pos a]
                by_cases b : r = 0
                · rw [if_pos b, if_pos b]
                · rw [if_neg b, if_neg b]
              · rw [if_neg a, if_neg a]
theorem mv_operand {y c n a hi : Int32} : f_La_operand y c n a hi = some (mv_arg (mv_en c n a hi) y) := by
  unfold f_La_operand mv_arg
  by_cases h1 : y = -4
  · rw [if_pos h1, if_pos h1]; rfl
  · rw [if_neg h1, if_neg h1]
    by_cases h2 : y = -3
    · rw [if_pos h2, if_pos h2]; rfl
    · rw [if_neg h2, if_neg h2]
      by_cases h3 : y = -2
      · rw [if_pos h3, if_pos h3]; rfl
      · rw [if_neg h3, if_neg h3]
        by_cases h4 : y = -1
        · rw [if_pos h4, if_pos h4]; rfl
        · rw [if_neg h4, if_neg h4]
theorem mv_s_len {e : mv_e} {y : Int32} {st : List Int32} (h : st.length ≤ 24) : (mv_s e y st).length ≤ 24 := by
  unfold mv_s
  split
  · split
    · cases st with
      | nil => exact h
      | cons x r => exact h
    · cases st with
      | nil => exact h
      | cons x r =>
        cases r with
        | nil => exact h
        | cons z t =>
          show (mv_op y z x :: t).length ≤ 24
          rw [List.length_cons] at h ⊢
          rw [List.length_cons] at h
          omega
  · split
    · exact h
    · rw [List.length_cons]; omega
def mv_sn : List Int32 → List Int32
  | [] => []
  | x :: r => mv_n1 x :: r
def mv_so (y : Int32) : List Int32 → List Int32
  | [] => []
  | [a] => [a]
  | r :: l :: t => mv_op y l r :: t
theorem mv_s_n {e : mv_e} {y : Int32} {st : List Int32} (h1 : y < -4) (h2 : y = -5) : mv_s e y st = mv_sn st := by
  unfold mv_s
  rw [if_pos h1, if_pos h2]
  cases st <;> rfl
theorem mv_s_o {e : mv_e} {y : Int32} {st : List Int32} (h1 : y < -4) (h2 : ¬ y = -5) : mv_s e y st = mv_so y st := by
  unfold mv_s
  rw [if_pos h1, if_neg h2]
  cases st with
  | nil => rfl
  | cons x r => cases r <;> rfl
theorem mv_stepn {a0 : Nat} {st : List Int32} {h : mm_H} (hl : st.length ≤ 24) (hst : mv_sk st (h.1 (a0 + 2))) (h1 : ¬ Int32.ofNat st.length < 1) : mk_ok ((mm_ix (Int32.ofNat st.length - 1) 24).bind fun k31 => (if (h.1 (a0 + 2) k31) = 0 then (some 1) else (some 0) : Option Int32).bind fun j33 => (mm_ix (Int32.ofNat st.length - 1) 24).bind fun k38 => mm_let (mm_pI h (a0 + 2) k38 j33) fun h40 => some (Int32.ofNat st.length, h40)) (fun v => v.1 = Int32.ofNat (mv_sn st).length ∧ mv_sk (mv_sn st) (v.2.1 (a0 + 2)) ∧ mk_ch (fun z => z = a0 + 2) h v.2) := by
  cases st with
  | nil => exact absurd (show Int32.ofNat ([] : List Int32).length < 1 by decide) h1
  | cons x r =>
    rw [List.length_cons] at hl
    rw [show (x :: r).length = r.length + 1 from rfl]
    have ix : mm_ix (Int32.ofNat r.length) 24 = some r.length := mn_ix (by omega) (by omega)
    rw [mv_s1s, mk_bs ix, hst.1]
    refine mk_ok.bs (v := mv_n1 x) ?_ (mk_ok.bs ix (mk_ok.let (mk_ok.ret ⟨?_, ⟨?_, ?_⟩, mk_ch.pI rfl⟩)))
    · unfold mv_n1
      by_cases z : x = 0
      · rw [if_pos z, if_pos z]
      · rw [if_neg z, if_neg z]
    · rfl
    · rw [mp_I1, if_pos ⟨rfl, rfl⟩]
    · exact hst.2.cg (fun k hk => by rw [mp_I1, if_neg (fun q => absurd q.2 (by omega))])
theorem mv_stepo {a0 : Nat} {y : Int32} {st : List Int32} {h : mm_H} (hl : st.length ≤ 24) (hst : mv_sk st (h.1 (a0 + 2))) : mk_ok (if Int32.ofNat st.length < 2 then (some (Int32.ofNat st.length, h)) else (mm_let (Int32.ofNat st.length + (-1)) fun y16 => (mm_ix (y16 - 1) 24).bind fun k18 => (mm_ix y16 24).bind fun k20 => (f_La_joined y (h.1 (a0 + 2) k18) (h.1 (a0 + 2) k20)).bind fun v23 => (mm_ix (y16 - 1) 24).bind fun k24 => mm_let (mm_pI h (a0 + 2) k24 v23) fun h26 => some (y16, h26))) (fun v => v.1 = Int32.ofNat (mv_so y st).length ∧ mv_sk (mv_so y st) (v.2.1 (a0 + 2)) ∧ mk_ch (fun z => z = a0 + 2) h v.2) := by
  cases st with
  | nil =>
    rw [if_pos (show Int32.ofNat ([] : List Int32).length < 2 by decide)]
    exact mk_ok.ret ⟨rfl, trivial, mk_ch.rf⟩
  | cons x r =>
    cases r with
    | nil =>
      rw [if_pos (show Int32.ofNat [x].length < 2 from (by decide : Int32.ofNat 1 < 2))]
      exact mk_ok.ret ⟨rfl, hst, mk_ch.rf⟩
    | cons l t =>
      rw [List.length_cons, List.length_cons] at hl
      rw [show (x :: l :: t).length = t.length + 1 + 1 from rfl]
      have ix : mm_ix (Int32.ofNat t.length) 24 = some t.length := mn_ix (by omega) (by omega)
      have ix1 : mm_ix (Int32.ofNat (t.length + 1)) 24 = some (t.length + 1) := mn_ix (by omega) (by omega)
      have v1 : h.1 (a0 + 2) t.length = l := hst.2.1
      have v2 : h.1 (a0 + 2) (t.length + 1) = x := hst.1
      rw [if_neg (fun z => absurd ((mn_ltl (b := 2) (show t.length + 1 + 1 < 2147483648 by omega) (by decide)).mp z) (show ¬ t.length + 1 + 1 < 2 by omega))]
      refine mk_ok.let ?_
      rw [mv_m1s, mv_s1s, mk_bs ix, mk_bs ix1, v1, v2, mk_bs mv_joined, mk_bs ix]
      refine mk_ok.let (mk_ok.ret ⟨?_, ⟨?_, ?_⟩, mk_ch.pI rfl⟩)
      · rfl
      · rw [mp_I1, if_pos ⟨rfl, rfl⟩]
      · exact hst.2.2.cg (fun k hk => by rw [mp_I1, if_neg (fun q => absurd q.2 (by omega))])
theorem mv_okjp {σ β : Type} {k : σ → Option β} {b : (σ → Option β) → Option β} {R : β → Prop} (h : mk_ok (b k) R) : mk_ok (mm_jp k b) R := h
/-- one step of the class's loop -/
theorem mv_step {a0 : Nat} {e : mv_e} {y x1 x2 x3 x4 : Int32} {st : List Int32} {h : mm_H} (he : e = mv_en x1 x2 x3 x4) (hl : st.length ≤ 24) (hst : mv_sk st (h.1 (a0 + 2))) : mk_ok (if y < (-4) then (mm_jp (fun (j13 : Unit) => (if Int32.ofNat st.length < 2 then (some (Int32.ofNat st.length, h)) else (mm_let (Int32.ofNat st.length + (-1)) fun y16 => (mm_ix (y16 - 1) 24).bind fun k18 => (mm_ix y16 24).bind fun k20 => (f_La_joined y (h.1 (a0 + 2) k18) (h.1 (a0 + 2) k20)).bind fun v23 => (mm_ix (y16 - 1) 24).bind fun k24 => mm_let (mm_pI h (a0 + 2) k24 v23) fun h26 => some (y16, h26)))) fun k15 => if y = (-5) then (if Int32.ofNat st.length < 1 then (k15 ()) else ((mm_ix (Int32.ofNat st.length - 1) 24).bind fun k31 => (if (h.1 (a0 + 2) k31) = 0 then (some 1) else (some 0) : Option Int32).bind fun j33 => (mm_ix (Int32.ofNat st.length - 1) 24).bind fun k38 => mm_let (mm_pI h (a0 + 2) k38 j33) fun h40 => some (Int32.ofNat st.length, h40))) else (k15 ())) else (if 24 ≤ Int32.ofNat st.length then (some (Int32.ofNat st.length, h)) else ((f_La_operand y x1 x2 x3 x4).bind fun v51 => (mm_ix (Int32.ofNat st.length) 24).bind fun k52 => mm_let (mm_pI h (a0 + 2) k52 v51) fun h54 => mm_let (Int32.ofNat st.length + 1) fun y56 => some (y56, h54))) : Option (Int32 × mm_H)) (fun v => v.1 = Int32.ofNat (mv_s e y st).length ∧ mv_sk (mv_s e y st) (v.2.1 (a0 + 2)) ∧ mk_ch (fun z => z = a0 + 2) h v.2) := by
  by_cases c1 : y < -4
  · rw [if_pos c1]
    refine mv_okjp ?_
    by_cases c2 : y = -5
    · have q : mv_s e y st = mv_sn st := mv_s_n c1 c2
      rw [if_pos c2, q]
      by_cases c3 : Int32.ofNat st.length < 1
      · rw [if_pos c3]
        have st0 : st = [] := by
          have := (mn_ltl (b := 1) (show st.length < 2147483648 by omega) (by decide)).mp c3
          exact List.length_eq_zero_iff.mp (show st.length = 0 by have : st.length < 1 := this; omega)
        subst st0
        rw [if_pos (show Int32.ofNat ([] : List Int32).length < 2 by decide)]
        exact mk_ok.ret ⟨rfl, trivial, mk_ch.rf⟩
      · rw [if_neg c3]
        exact mv_stepn hl hst c3
    · have q : mv_s e y st = mv_so y st := mv_s_o c1 c2
      rw [if_neg c2, q]
      exact mv_stepo hl hst
  · rw [if_neg c1]
    have f24 : (24 ≤ Int32.ofNat st.length) ↔ 24 ≤ st.length := mn_lle (b := 24) (show st.length < 2147483648 by omega) (by decide)
    by_cases c2 : 24 ≤ st.length
    · have q : mv_s e y st = st := (if_neg c1).trans (if_pos c2)
      rw [if_pos (f24.mpr c2), q]
      exact mk_ok.ret ⟨rfl, hst, mk_ch.rf⟩
    · have q : mv_s e y st = mv_arg e y :: st := (if_neg c1).trans (if_neg c2)
      rw [if_neg (fun z => c2 (f24.mp z)), q, mk_bs mv_operand, mk_bs (mn_ix (show st.length < 24 by omega) (by omega)), ← he]
      refine mk_ok.ret ⟨?_, ⟨?_, ?_⟩, mk_ch.pI rfl⟩
      · rw [List.length_cons]; exact mn_addl 1 _
      · rw [mp_I1, if_pos ⟨rfl, rfl⟩]
      · exact hst.cg (fun k hk => by rw [mp_I1, if_neg (fun q => absurd q.2 (by omega))])
theorem mx_value {a0 : Nat} {P : List Int32} {x1 x2 x3 x4 : Int32} {h : mm_H} (ht : mm_tg a0 = 2) (hs : h.1 a0 2 = Int32.ofNat P.length) (hl : P.length ≤ 1000) (hP : mv_at (h.1 (a0 + 1)) 0 P) : mk_ok (f_La_value a0 x1 x2 x3 x4 h) (fun v => v.1 = mv_t1 (mv_r (mv_en x1 x2 x3 x4) P []) ∧ mk_ch (fun z => z = a0 + 2) h v.2) := by
  unfold f_La_value
  rw [if_pos ht]
  have key : ∀ (Q : List Int32) (i : Nat) (st : List Int32) (g : mm_H), i + Q.length = P.length → mv_at (h.1 (a0 + 1)) i Q → st.length ≤ 24 → mv_sk st (g.1 (a0 + 2)) → mk_ch (fun z => z = a0 + 2) h g → mk_ok (mm_while (σ := (Int32 × Int32 × mm_H)) (ρ := (Int32 × mm_H)) (fun s1 => if (s1.2.2.1 a0 2) ≤ s1.2.1 then (some (Sum.inr (s1.1, s1.2.2))) else ((mm_ix s1.2.1 1000).bind fun k7 => mm_let (s1.2.2.1 (a0 + 1) k7) fun y9 => (if y9 < (-4) then (mm_jp (fun (j13 : Unit) => (if s1.1 < 2 then (some (s1.1, s1.2.2)) else (mm_let (s1.1 + (-1)) fun y16 => (mm_ix (y16 - 1) 24).bind fun k18 => (mm_ix y16 24).bind fun k20 => (f_La_joined y9 (s1.2.2.1 (a0 + 2) k18) (s1.2.2.1 (a0 + 2) k20)).bind fun v23 => (mm_ix (y16 - 1) 24).bind fun k24 => mm_let (mm_pI s1.2.2 (a0 + 2) k24 v23) fun h26 => some (y16, h26)))) fun k15 => if y9 = (-5) then (if s1.1 < 1 then (k15 ()) else ((mm_ix (s1.1 - 1) 24).bind fun k31 => (if (s1.2.2.1 (a0 + 2) k31) = 0 then (some 1) else (some 0) : Option Int32).bind fun j33 => (mm_ix (s1.1 - 1) 24).bind fun k38 => mm_let (mm_pI s1.2.2 (a0 + 2) k38 j33) fun h40 => some (s1.1, h40))) else (k15 ())) else (if 24 ≤ s1.1 then (some (s1.1, s1.2.2)) else ((f_La_operand y9 x1 x2 x3 x4).bind fun v51 => (mm_ix s1.1 24).bind fun k52 => mm_let (mm_pI s1.2.2 (a0 + 2) k52 v51) fun h54 => mm_let (s1.1 + 1) fun y56 => some (y56, h54))) : Option (Int32 × mm_H)).bind fun j11 => mm_let (s1.2.1 + 1) fun y64 => some (Sum.inl (j11.1, y64, j11.2)))) (Int32.ofNat st.length, Int32.ofNat i, g)) (fun v => v.1 = Int32.ofNat (mv_r (mv_en x1 x2 x3 x4) Q st).length ∧ (mv_r (mv_en x1 x2 x3 x4) Q st).length ≤ 24 ∧ mv_sk (mv_r (mv_en x1 x2 x3 x4) Q st) (v.2.1 (a0 + 2)) ∧ mk_ch (fun z => z = a0 + 2) h v.2) := by
    intro Q
    induction Q with
    | nil =>
      intro i st g hi hQ hst sk k
      rw [List.length_nil, Nat.add_zero] at hi
      refine ⟨_, mm_while_inr (r := (Int32.ofNat st.length, g)) ?_, rfl, hst, sk, k⟩
      show (if g.1 a0 2 ≤ Int32.ofNat i then _ else _) = _
      rw [k.e1 (by omega), hs, if_pos (by rw [hi]; exact Int32.le_refl _)]
    | cons y Q ih =>
      intro i st g hi hQ hst sk k
      rw [List.length_cons] at hi
      obtain ⟨v, e1, v1, v2, v3⟩ := mv_step (a0 := a0) (e := mv_en x1 x2 x3 x4) (y := y) (x1 := x1) (x2 := x2) (x3 := x3) (x4 := x4) rfl hst sk
      obtain ⟨w, e2, w1⟩ := ih (i + 1) (mv_s (mv_en x1 x2 x3 x4) y st) v.2 (by omega) hQ.tl (mv_s_len hst) v2 (k.tr v3 (fun _ z => z) (fun _ z => z))
      refine ⟨w, (mm_while_inl ?_).trans e2, w1⟩
      show (if g.1 a0 2 ≤ Int32.ofNat i then _ else _) = _
      rw [k.e1 (c := a0) (by omega), hs, if_neg (fun z => absurd ((mn_le (by omega) (by omega)).mp z) (by omega)), mk_bs (mn_ix (show i < 1000 by omega) (by omega))]
      show ((_ : Option (Int32 × mm_H)).bind _) = _
      rw [k.e1 (c := a0 + 1) (by omega), hQ.hd]
      rw [mk_bs e1]
      show some (Sum.inl (v.1, Int32.ofNat i + 1, v.2)) = _
      rw [v1, show Int32.ofNat i + 1 = Int32.ofNat (i + 1) from mn_addl 1 i]
  refine mk_ok.bind (key P 0 [] h (by omega) hP (by decide) trivial mk_ch.rf) (fun v ⟨v1, v2, v3, v4⟩ => ?_)
  rw [v1]
  generalize mv_r (mv_en x1 x2 x3 x4) P [] = st at *
  cases st with
  | nil => rw [if_neg (by decide)]; exact mk_ok.ret ⟨rfl, v4⟩
  | cons x r =>
    cases r with
    | nil =>
      rw [List.length_cons, List.length_nil, if_pos (show Int32.ofNat (0 + 1) = 1 by decide)]
      exact mk_ok.ret ⟨v3.1, v4⟩
    | cons z t =>
      rw [if_neg (fun q => absurd ((mn_eql (b := 1) (show (x :: z :: t).length < 4294967296 by omega) (by decide)).mp q) (show ¬ t.length + 2 = 1 by omega))]
      exact mk_ok.ret ⟨rfl, v4⟩
