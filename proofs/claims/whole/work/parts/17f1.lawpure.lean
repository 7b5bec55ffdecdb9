/-! THE LAW OF WORTH, pure: the class's steps on a stack, the reference's codes at a depth -/
abbrev mv_e := Nat → Int32
def mv_op (y l r : Int32) : Int32 := if y = -11 then (if l = 0 then 0 else if r = 0 then 0 else 1) else if y = -10 then (if l = r then 1 else 0) else if y = -9 then (if r ≤ l then 0 else 1) else if y = -8 then l - r else if y = -7 then l + r else if y = -6 then l * r else (if l = 0 then (if r = 0 then 0 else 1) else 1)
def mv_arg (e : mv_e) (y : Int32) : Int32 := if y = -4 then e 4 else if y = -3 then e 3 else if y = -2 then e 2 else if y = -1 then e 1 else y
def mv_n1 (x : Int32) : Int32 := if x = 0 then 1 else 0
def mv_s (e : mv_e) (y : Int32) (st : List Int32) : List Int32 := if y < -4 then (if y = -5 then (match st with | [] => [] | x :: r => mv_n1 x :: r) else (match st with | [] => [] | [a] => [a] | r :: l :: t => mv_op y l r :: t)) else if 24 ≤ st.length then st else mv_arg e y :: st
def mv_r (e : mv_e) : List Int32 → List Int32 → List Int32
  | [], st => st
  | y :: P, st => mv_r e P (mv_s e y st)
theorem mv_r_app {e : mv_e} : ∀ (P Q st : List Int32), mv_r e (P ++ Q) st = mv_r e Q (mv_r e P st)
  | [], _, _ => rfl
  | y :: P, Q, st => mv_r_app P Q (mv_s e y st)
def mv_X (P : List Int32) (v : mv_e → Int32) (n : Nat) : Prop := ∀ e st, st.length + n ≤ 24 → mv_r e P st = v e :: st
theorem mv_X.mono {P : List Int32} {v : mv_e → Int32} {n m : Nat} (h : mv_X P v n) (hm : n ≤ m) : mv_X P v m := fun e st hs => h e st (by omega)
theorem mv_X.arg {y : Int32} (hy : ¬ y < -4) : mv_X [y] (fun e => mv_arg e y) 1 := fun e st hs => by
  show mv_s e y st = _
  unfold mv_s
  rw [if_neg hy, if_neg (by omega)]
theorem mv_X.not {P : List Int32} {v : mv_e → Int32} {n : Nat} (h : mv_X P v n) : mv_X (P ++ [-5]) (fun e => mv_n1 (v e)) n := fun e st hs => by
  rw [mv_r_app, h e st hs]
  show mv_s e (-5) (v e :: st) = _
  unfold mv_s
  rw [if_pos (by decide), if_pos rfl]
theorem mv_X.op {P Q : List Int32} {v w : mv_e → Int32} {n m : Nat} {y : Int32} (h : mv_X P v n) (k : mv_X Q w m) (hn : m < n) (h1 : y < -4) (h2 : ¬ y = -5) : mv_X (P ++ (Q ++ [y])) (fun e => mv_op y (v e) (w e)) n := fun e st hs => by
  rw [mv_r_app, h e st hs, mv_r_app, k e (v e :: st) (by rw [List.length_cons]; omega)]
  show mv_s e y (w e :: v e :: st) = _
  unfold mv_s
  rw [if_pos h1, if_neg h2]
abbrev mv_G := Nat → Nat → Int32
def mv_u (g : mv_G) (c d : Nat) (v : Int32) : mv_G := fun c' j => if c' = c ∧ j = d then v else g c' j
def mv_opn (d : Nat) (g : mv_G) : mv_G := mv_u (mv_u (mv_u (mv_u (mv_u g 284 d 0) 286 d 0) 287 d 0) 288 d 20) 290 d 0
def mv_sv (d : Nat) (g : mv_G) : Int32 := if g 288 d = 21 then g 287 d - g 289 d else g 287 d + g 289 d
def mv_sum (d : Nat) (g : mv_G) : mv_G := mv_u (mv_u g 287 d (mv_sv d g)) 290 d 0
def mv_cv (a ah v : Int32) : Int32 := if a = 24 then (if v ≤ ah then 0 else 1) else if a = 25 then (if ah = v then 1 else 0) else v
def mv_kv (kb k v : Int32) : Int32 := if kb = 26 then (if k = 0 then 0 else if v = 0 then 0 else 1) else if kb = 27 then (if k = 0 then (if v = 0 then 0 else 1) else 1) else v
def mv_av (d : Nat) (g : mv_G) : Int32 := mv_kv (g 284 d) (g 283 d) (mv_cv (g 286 d) (g 285 d) (mv_sv d g))
def mv_tst (d : Nat) (g : mv_G) : mv_G := mv_u (mv_u (mv_u (mv_u (mv_sum d g) 283 d (mv_av d g)) 286 d 0) 287 d 0) 288 d 20
def mv_st (d : Nat) (v : Int32) (g : mv_G) : mv_G := mv_u g 289 d (if g 290 d = 0 then v else g 289 d * v)
def mv_gv : Nat → Int32 → mv_G → Nat × mv_G
  | 0, v, g => (0, mv_st 0 v g)
  | d + 1, v, g => if g 291 (d + 1) = 1 then mv_gv d (mv_n1 v) g else (d + 1, mv_st (d + 1) v g)
def mv_nn (d : Nat) (g : mv_G) : Prop := d = 0 ∨ ¬ g 291 d = 1
theorem mv_gv_nn {d : Nat} {v : Int32} {g : mv_G} (h : mv_nn d g) : mv_gv d v g = (d, mv_st d v g) := by
  cases d with
  | zero => rfl
  | succ d => exact if_neg (h.resolve_left (by omega))
def mv_c (e : mv_e) (c : Int32) (d : Nat) (g : mv_G) : Option (Nat × mv_G) :=
  if c = 28 ∨ c = 30 then (if d < 6 then some (d + 1, mv_opn (d + 1) (mv_u g 291 (d + 1) (if c = 30 then 1 else 0))) else none)
  else if c = 20 ∨ c = 21 then some (d, mv_u (mv_sum d g) 288 d c)
  else if c = 22 then some (d, mv_u g 290 d c)
  else if c = 24 ∨ c = 25 then some (d, mv_u (mv_u (mv_u (mv_u (mv_sum d g) 285 d (mv_sv d g)) 286 d c) 287 d 0) 288 d 20)
  else if c = 26 ∨ c = 27 then some (d, mv_u (mv_tst d g) 284 d c)
  else if c = 29 then (match d with | 0 => none | d1 + 1 => some (mv_gv d1 (mv_av (d1 + 1) g) (mv_tst (d1 + 1) g)))
  else if 100 ≤ c then some (mv_gv d (c - 100) g)
  else if c = 1 then some (mv_gv d (e 1) g) else if c = 2 then some (mv_gv d (e 2) g) else if c = 3 then some (mv_gv d (e 3) g) else if c = 4 then some (mv_gv d (e 4) g)
  else none
def mv_w (e : mv_e) : List Int32 → Nat → mv_G → Option (Nat × mv_G)
  | [], d, g => some (d, g)
  | c :: C, d, g => (mv_c e c d g).bind fun x => mv_w e C x.1 x.2
theorem mv_w_app {e : mv_e} : ∀ (C D : List Int32) (d : Nat) (g : mv_G), mv_w e (C ++ D) d g = (mv_w e C d g).bind fun x => mv_w e D x.1 x.2
  | [], _, _, _ => rfl
  | c :: C, D, d, g => by
    show (mv_c e c d g).bind (fun x => mv_w e (C ++ D) x.1 x.2) = ((mv_c e c d g).bind (fun x => mv_w e C x.1 x.2)).bind _
    rw [Option.bind_assoc]
    congr 1
    funext x
    exact mv_w_app C D x.1 x.2
def mv_q (d : Nat) (g g' : mv_G) : Prop := ∀ c j, j < d → g' c j = g c j
theorem mv_q.tr {d : Nat} {g g1 g2 : mv_G} (a : mv_q d g g1) (b : mv_q d g1 g2) : mv_q d g g2 := fun c j hj => (b c j hj).trans (a c j hj)
theorem mv_q.u {d c : Nat} {v : Int32} {g g1 : mv_G} (a : mv_q d g g1) : mv_q d g (mv_u g1 c d v) := fun c' j hj => by
  show (if c' = c ∧ j = d then v else g1 c' j) = _
  rw [if_neg (by omega)]; exact a c' j hj
theorem mv_q.rf {d : Nat} {g : mv_G} : mv_q d g g := fun _ _ _ => rfl
theorem mv_q.sum {d : Nat} {g : mv_G} : mv_q d g (mv_sum d g) := mv_q.rf.u.u
theorem mv_q.tst {d : Nat} {g : mv_G} : mv_q d g (mv_tst d g) := mv_q.sum.u.u.u.u
/-- a part: it gives its value at its depth -/
def mv_P (C : List Int32) (d : Nat) (v : mv_e → Int32) : Prop := ∀ e g, ∃ g', mv_w e C d g = some (mv_gv d (v e) g') ∧ ∀ c j, j ≤ d → g' c j = g c j
def mv_D (C : List Int32) (d : Nat) (v : mv_e → Int32) : Prop := ∀ e g, mv_nn d g → g 290 d = 0 → ∃ g', mv_w e C d g = some (d, g') ∧ mv_q d g g' ∧ (∀ c, ¬ c = 289 → ¬ c = 290 → g' c d = g c d) ∧ g' 289 d = v e
def mv_S (C : List Int32) (d : Nat) (v : mv_e → Int32) : Prop := ∀ e g, mv_nn d g → g 290 d = 0 → g 287 d = 0 → g 288 d = 20 → ∃ g', mv_w e C d g = some (d, g') ∧ mv_q d g g' ∧ (∀ c, ¬ (287 ≤ c ∧ c ≤ 290) → g' c d = g c d) ∧ mv_sv d g' = v e
def mv_T (C : List Int32) (d : Nat) (v : mv_e → Int32) : Prop := ∀ e g, mv_nn d g → g 290 d = 0 → g 287 d = 0 → g 288 d = 20 → g 286 d = 0 → ∃ g', mv_w e C d g = some (d, g') ∧ mv_q d g g' ∧ (∀ c, ¬ (285 ≤ c ∧ c ≤ 290) → g' c d = g c d) ∧ mv_cv (g' 286 d) (g' 285 d) (mv_sv d g') = v e
def mv_A (C : List Int32) (d : Nat) (v : mv_e → Int32) : Prop := ∀ e g, mv_nn d g → g 290 d = 0 → g 287 d = 0 → g 288 d = 20 → g 286 d = 0 → g 284 d = 0 → ∃ g', mv_w e C d g = some (d, g') ∧ mv_q d g g' ∧ (∀ c, ¬ (283 ≤ c ∧ c ≤ 290) → g' c d = g c d) ∧ mv_av d g' = v e
theorem mv_nn.cg {d : Nat} {g g' : mv_G} (h : mv_nn d g) (e : g' 291 d = g 291 d) : mv_nn d g' := by
  unfold mv_nn
  rw [e]; exact h
theorem mv_P.one {c : Int32} {d : Nat} {v : mv_e → Int32} (h : ∀ e g, mv_c e c d g = some (mv_gv d (v e) g)) : mv_P [c] d v := fun e g => ⟨g, by
  show (mv_c e c d g).bind _ = _
  rw [h]; rfl, fun _ _ _ => rfl⟩
theorem mv_P.num {c : Int32} {d : Nat} (h : 100 ≤ c) : mv_P [c] d (fun _ => c - 100) := mv_P.one (fun e g => by
  unfold mv_c
  have n : ∀ k : Int32, k < 100 → ¬ c = k := fun k hk z => by rw [z] at h; exact absurd hk (Int32.not_lt.mpr h)
  rw [if_neg (fun z => z.elim (n 28 (by decide)) (n 30 (by decide))), if_neg (fun z => z.elim (n 20 (by decide)) (n 21 (by decide))), if_neg (n 22 (by decide)), if_neg (fun z => z.elim (n 24 (by decide)) (n 25 (by decide))), if_neg (fun z => z.elim (n 26 (by decide)) (n 27 (by decide))), if_neg (n 29 (by decide)), if_pos h])
theorem mv_P.f1 {d : Nat} : mv_P [1] d (fun e => e 1) := mv_P.one (fun e g => rfl)
theorem mv_P.f2 {d : Nat} : mv_P [2] d (fun e => e 2) := mv_P.one (fun e g => rfl)
theorem mv_P.f3 {d : Nat} : mv_P [3] d (fun e => e 3) := mv_P.one (fun e g => rfl)
theorem mv_P.f4 {d : Nat} : mv_P [4] d (fun e => e 4) := mv_P.one (fun e g => rfl)
theorem mv_P.not {C : List Int32} {d : Nat} {v : mv_e → Int32} (hd : d < 6) (h : mv_P C (d + 1) v) : mv_P (30 :: C) d (fun e => mv_n1 (v e)) := fun e g => by
  obtain ⟨g', e1, e2⟩ := h e (mv_opn (d + 1) (mv_u g 291 (d + 1) 1))
  refine ⟨g', ?_, fun c j hj => ?_⟩
  · show (mv_c e 30 d g).bind _ = _
    have : mv_c e 30 d g = some (d + 1, mv_opn (d + 1) (mv_u g 291 (d + 1) 1)) := by
      unfold mv_c
      rw [if_pos (Or.inr rfl), if_pos hd, if_pos rfl]
    rw [this]
    refine e1.trans ?_
    have k : g' 291 (d + 1) = 1 := by
      rw [e2 291 (d + 1) (Nat.le_refl _)]
      unfold mv_opn mv_u
      simp
    show some (if g' 291 (d + 1) = 1 then mv_gv d (mv_n1 (v e)) g' else _) = _
    rw [if_pos k]
  · rw [e2 c j (by omega)]
    unfold mv_opn mv_u
    have n : ¬ j = d + 1 := by omega
    simp [n]
theorem mv_P.opn {C : List Int32} {d : Nat} {v : mv_e → Int32} (hd : d < 6) (h : mv_A C (d + 1) v) : mv_P (28 :: (C ++ [29])) d v := fun e g => by
  obtain ⟨g', e1, e2, e3, e4⟩ := h e (mv_opn (d + 1) (mv_u g 291 (d + 1) 0)) (Or.inr (by unfold mv_opn mv_u; simp)) (by unfold mv_opn mv_u; simp) (by unfold mv_opn mv_u; simp) (by unfold mv_opn mv_u; simp) (by unfold mv_opn mv_u; simp) (by unfold mv_opn mv_u; simp)
  refine ⟨mv_tst (d + 1) g', ?_, fun c j hj => ?_⟩
  · show (mv_c e 28 d g).bind _ = _
    have : mv_c e 28 d g = some (d + 1, mv_opn (d + 1) (mv_u g 291 (d + 1) 0)) := by
      unfold mv_c
      rw [if_pos (Or.inl rfl), if_pos hd, if_neg (by decide)]
    rw [this]
    show mv_w e (C ++ [29]) (d + 1) (mv_opn (d + 1) (mv_u g 291 (d + 1) 0)) = _
    rw [mv_w_app, e1]
    show (some (mv_gv d (mv_av (d + 1) g') (mv_tst (d + 1) g'))).bind _ = _
    rw [e4]; rfl
  · rw [mv_q.tst c j (by omega), e2 c j (by omega)]
    unfold mv_opn mv_u
    have n : ¬ j = d + 1 := by omega
    simp [n]
theorem mv_D.one {C : List Int32} {d : Nat} {v : mv_e → Int32} (h : mv_P C d v) : mv_D C d v := fun e g n t => by
  obtain ⟨g', e1, e2⟩ := h e g
  have n' : mv_nn d g' := n.cg (e2 291 d (Nat.le_refl _))
  rw [mv_gv_nn n'] at e1
  refine ⟨mv_st d (v e) g', e1, fun c j hj => ?_, fun c c1 c2 => ?_, ?_⟩
  · unfold mv_st mv_u
    rw [if_neg (by omega)]; exact e2 c j (by omega)
  · unfold mv_st mv_u
    rw [if_neg (fun z => c1 z.1)]; exact e2 c d (Nat.le_refl _)
  · unfold mv_st mv_u
    rw [if_pos ⟨rfl, rfl⟩, if_pos (by rw [e2 290 d (Nat.le_refl _)]; exact t)]
theorem mv_D.more {C D : List Int32} {d : Nat} {v w : mv_e → Int32} (h : mv_D C d v) (k : mv_P D d w) : mv_D (C ++ (22 :: D)) d (fun e => v e * w e) := fun e g n t => by
  obtain ⟨g1, a1, a2, a3, a4⟩ := h e g n t
  obtain ⟨g2, b1, b2⟩ := k e (mv_u g1 290 d 22)
  have n1 : mv_nn d g2 := n.cg (by rw [b2 291 d (Nat.le_refl _)]; show (if 291 = 290 ∧ d = d then _ else g1 291 d) = _; rw [if_neg (by omega)]; exact a3 291 (by omega) (by omega))
  rw [mv_gv_nn n1] at b1
  refine ⟨mv_st d (w e) g2, ?_, fun c j hj => ?_, fun c c1 c2 => ?_, ?_⟩
  · rw [mv_w_app, a1]
    have c22 : mv_c e 22 d g1 = some (d, mv_u g1 290 d 22) := rfl
    refine Eq.trans (b := (mv_c e 22 d g1).bind fun x => mv_w e D x.1 x.2) rfl ?_
    rw [c22]; exact b1
  · unfold mv_st mv_u
    rw [if_neg (by omega), b2 c j (by omega)]
    unfold mv_u
    rw [if_neg (by omega)]; exact a2 c j hj
  · unfold mv_st mv_u
    rw [if_neg (fun z => c1 z.1), b2 c d (Nat.le_refl _)]
    unfold mv_u
    rw [if_neg (fun z => c2 z.1)]; exact a3 c c1 c2
  · unfold mv_st mv_u
    have u0 : mv_u g1 290 d 22 290 d = 22 := if_pos ⟨rfl, rfl⟩
    have u9 : mv_u g1 290 d 22 289 d = g1 289 d := if_neg (by omega)
    rw [if_pos ⟨rfl, rfl⟩, b2 290 d (Nat.le_refl _), b2 289 d (Nat.le_refl _), u0, u9, if_neg (by decide), a4]
theorem mv_S.one {C : List Int32} {d : Nat} {v : mv_e → Int32} (h : mv_D C d v) : mv_S C d v := fun e g n t s1 s2 => by
  obtain ⟨g1, a1, a2, a3, a4⟩ := h e g n t
  refine ⟨g1, a1, a2, fun c hc => a3 c (by omega) (by omega), ?_⟩
  unfold mv_sv
  rw [a3 288 (by omega) (by omega), a3 287 (by omega) (by omega), s1, s2, if_neg (by decide), a4, Int32.zero_add]
theorem mv_S.more {C D : List Int32} {d : Nat} {v w : mv_e → Int32} {c : Int32} (hc : c = 20 ∨ c = 21) (h : mv_S C d v) (k : mv_D D d w) : mv_S (C ++ (c :: D)) d (fun e => if c = 21 then v e - w e else v e + w e) := fun e g n t s1 s2 => by
  obtain ⟨g1, a1, a2, a3, a4⟩ := h e g n t s1 s2
  have p : ∀ z, ¬ (287 ≤ z ∧ z ≤ 290) → mv_u (mv_sum d g1) 288 d c z d = g1 z d := fun z hz => by
    unfold mv_sum mv_u
    rw [if_neg (by omega), if_neg (by omega), if_neg (by omega)]
  have p7 : mv_u (mv_sum d g1) 288 d c 287 d = v e := by
    unfold mv_sum mv_u
    rw [if_neg (by omega), if_neg (by omega), if_pos ⟨rfl, rfl⟩]; exact a4
  have p8 : mv_u (mv_sum d g1) 288 d c 288 d = c := by
    unfold mv_u
    rw [if_pos ⟨rfl, rfl⟩]
  have p0 : mv_u (mv_sum d g1) 288 d c 290 d = 0 := by
    unfold mv_sum mv_u
    rw [if_neg (by omega), if_pos ⟨rfl, rfl⟩]
  obtain ⟨g2, b1, b2, b3, b4⟩ := k e (mv_u (mv_sum d g1) 288 d c) (n.cg (by rw [p 291 (by omega)]; exact a3 291 (by omega))) p0
  refine ⟨g2, ?_, (a2.tr mv_q.sum.u).tr b2, fun z hz => ?_, ?_⟩
  · rw [mv_w_app, a1]
    show (mv_c e c d g1).bind _ = _
    have : mv_c e c d g1 = some (d, mv_u (mv_sum d g1) 288 d c) := by
      unfold mv_c
      rcases hc with rfl | rfl
      · rw [if_neg (by decide), if_pos (Or.inl rfl)]
      · rw [if_neg (by decide), if_pos (Or.inr rfl)]
    rw [this]
    exact b1
  · rw [b3 z (by omega) (by omega), p z hz]; exact a3 z hz
  · unfold mv_sv
    rw [b3 288 (by omega) (by omega), b3 287 (by omega) (by omega), p7, p8, b4]
theorem mv_T.one {C : List Int32} {d : Nat} {v : mv_e → Int32} (h : mv_S C d v) : mv_T C d v := fun e g n t s1 s2 s3 => by
  obtain ⟨g1, a1, a2, a3, a4⟩ := h e g n t s1 s2
  refine ⟨g1, a1, a2, fun c hc => a3 c (by omega), ?_⟩
  rw [a3 286 (by omega), s3, a4]
  unfold mv_cv
  rw [if_neg (by decide), if_neg (by decide)]
theorem mv_T.two {C D : List Int32} {d : Nat} {v w : mv_e → Int32} {c : Int32} (hc : c = 24 ∨ c = 25) (h : mv_S C d v) (k : mv_S D d w) : mv_T (C ++ (c :: D)) d (fun e => mv_cv c (v e) (w e)) := fun e g n t s1 s2 s3 => by
  obtain ⟨g1, a1, a2, a3, a4⟩ := h e g n t s1 s2
  generalize hG : mv_u (mv_u (mv_u (mv_u (mv_sum d g1) 285 d (mv_sv d g1)) 286 d c) 287 d 0) 288 d 20 = G
  have p : ∀ z, G z d = if z = 288 then 20 else if z = 287 then 0 else if z = 286 then c else if z = 285 then v e else if z = 290 then 0 else g1 z d := fun z => by
    rw [← hG, a4]
    unfold mv_sum mv_u
    simp only [and_true]
    by_cases z7 : z = 287
    · rw [if_neg (by omega), if_pos z7, if_neg (by omega), if_pos z7]
    · simp only [if_neg z7]
  obtain ⟨g2, b1, b2, b3, b4⟩ := k e G (n.cg (by rw [p 291, if_neg (by omega), if_neg (by omega), if_neg (by omega), if_neg (by omega), if_neg (by omega)]; exact a3 291 (by omega))) (by rw [p]; rfl) (by rw [p]; rfl) (by rw [p]; rfl)
  refine ⟨g2, ?_, (a2.tr (hG ▸ mv_q.sum.u.u.u.u)).tr b2, fun z hz => ?_, ?_⟩
  · rw [mv_w_app, a1]
    show (mv_c e c d g1).bind _ = _
    have : mv_c e c d g1 = some (d, G) := by
      unfold mv_c
      rw [hG]
      rcases hc with rfl | rfl
      · rw [if_neg (by decide), if_neg (by decide), if_neg (by decide), if_pos (Or.inl rfl)]
      · rw [if_neg (by decide), if_neg (by decide), if_neg (by decide), if_pos (Or.inr rfl)]
    rw [this]
    exact b1
  · rw [b3 z (by omega), p, if_neg (by omega), if_neg (by omega), if_neg (by omega), if_neg (by omega), if_neg (by omega)]; exact a3 z (by omega)
  · rw [b3 286 (by omega), b3 285 (by omega), b4, p, p]; rfl
theorem mv_A.one {C : List Int32} {d : Nat} {v : mv_e → Int32} (h : mv_T C d v) : mv_A C d v := fun e g n t s1 s2 s3 s4 => by
  obtain ⟨g1, a1, a2, a3, a4⟩ := h e g n t s1 s2 s3
  refine ⟨g1, a1, a2, fun c hc => a3 c (by omega), ?_⟩
  unfold mv_av
  rw [a4, a3 284 (by omega), s4]
  unfold mv_kv
  rw [if_neg (by decide), if_neg (by decide)]
theorem mv_A.more {C D : List Int32} {d : Nat} {v w : mv_e → Int32} {c : Int32} (hc : c = 26 ∨ c = 27) (h : mv_A C d v) (k : mv_T D d w) : mv_A (C ++ (c :: D)) d (fun e => mv_kv c (v e) (w e)) := fun e g n t s1 s2 s3 s4 => by
  obtain ⟨g1, a1, a2, a3, a4⟩ := h e g n t s1 s2 s3 s4
  generalize hG : mv_u (mv_tst d g1) 284 d c = G
  have p : ∀ z, G z d = if z = 284 then c else if z = 288 then 20 else if z = 287 then 0 else if z = 286 then 0 else if z = 283 then v e else if z = 290 then 0 else g1 z d := fun z => by
    rw [← hG]
    unfold mv_tst
    rw [a4]
    unfold mv_sum mv_u
    simp only [and_true]
    by_cases z7 : z = 287
    · rw [if_neg (by omega), if_neg (by omega), if_pos z7, if_neg (by omega), if_neg (by omega), if_pos z7]
    · simp only [if_neg z7]
  obtain ⟨g2, b1, b2, b3, b4⟩ := k e G (n.cg (by rw [p 291, if_neg (by omega), if_neg (by omega), if_neg (by omega), if_neg (by omega), if_neg (by omega), if_neg (by omega)]; exact a3 291 (by omega))) (by rw [p]; rfl) (by rw [p]; rfl) (by rw [p]; rfl) (by rw [p]; rfl)
  refine ⟨g2, ?_, (a2.tr (hG ▸ mv_q.tst.u)).tr b2, fun z hz => ?_, ?_⟩
  · rw [mv_w_app, a1]
    show (mv_c e c d g1).bind _ = _
    have : mv_c e c d g1 = some (d, G) := by
      unfold mv_c
      rw [hG]
      rcases hc with rfl | rfl
      · rw [if_neg (by decide), if_neg (by decide), if_neg (by decide), if_neg (by decide), if_pos (Or.inl rfl)]
      · rw [if_neg (by decide), if_neg (by decide), if_neg (by decide), if_neg (by decide), if_pos (Or.inr rfl)]
    rw [this]
    exact b1
  · rw [b3 z (by omega), p, if_neg (by omega), if_neg (by omega), if_neg (by omega), if_neg (by omega), if_neg (by omega), if_neg (by omega)]; exact a3 z (by omega)
  · unfold mv_av
    rw [b4, b3 284 (by omega), b3 283 (by omega), p, p]; rfl
