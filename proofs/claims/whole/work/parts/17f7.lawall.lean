/-! the law of worth read: product, sum, test, all, from parts -/
def mv_mP (k : Nat) (P C : List Int32) : Prop := k ≤ 4 ∧ ∃ v, mv_X P v (17 - 4 * k) ∧ mv_P C k v
def mv_mD (k : Nat) (P C : List Int32) : Prop := k ≤ 4 ∧ ∃ v, mv_X P v (18 - 4 * k) ∧ mv_D C k v
def mv_mS (k : Nat) (P C : List Int32) : Prop := k ≤ 4 ∧ ∃ v, mv_X P v (19 - 4 * k) ∧ mv_S C k v
def mv_mT (k : Nat) (P C : List Int32) : Prop := k ≤ 4 ∧ ∃ v, mv_X P v (20 - 4 * k) ∧ mv_T C k v
def mv_mA (k : Nat) (P C : List Int32) : Prop := k ≤ 4 ∧ ∃ v, mv_X P v (21 - 4 * k) ∧ mv_A C k v
theorem mv_opv {l r : Int32} : mv_op (-6) l r = l * r ∧ mv_op (-7) l r = l + r ∧ mv_op (-8) l r = l - r ∧ mv_op (-9) l r = mv_cv 24 l r ∧ mv_op (-10) l r = mv_cv 25 l r ∧ mv_op (-11) l r = mv_kv 26 l r ∧ mv_op (-12) l r = mv_kv 27 l r := ⟨rfl, rfl, rfl, rfl, rfl, rfl, rfl⟩
def mv_SPp (s : mk_S) (d k : Nat) (B : mm_H → Option (Int32 × mm_H)) : Prop := ∀ b n m hX hM, mv_Z s d b n m hX hM → mv_res d hX hM (Int32.ofNat k, 1, hM) (B hX) (mv_Q (mv_mP k) (fun _ _ => True) s d b n m (k + 1) (k + 1) (mv_po (hM.1 281) k) hX hM)
theorem mv_SPp.SP {s : mk_S} {d k : Nat} {B : mm_H → Option (Int32 × mm_H)} (h : mv_SPp s d k B) : mv_SP s d k (k + 1) (fun _ => True) (mv_mP k) (fun _ _ => True) B := fun b n m hX hM Z po _ => by
  have := h b n m hX hM Z
  rw [po] at this
  exact this
theorem mv_iss_b {s : mk_S} {b c : Nat} (h : mk_iss s b c = true) : b < s.1 := mk_kd_3 (mk_iss_3 h).1
theorem mv_nt {x : Bool} (h : ¬ x = true) : x = false := by cases x <;> trivial
section AL
variable {s : mk_S} {d k : Nat} {rp : Nat → Int32 → mm_H → Option (Int32 × mm_H)}
theorem mv_xs42 {b : Nat} {g : mm_H} (hs : mk_sgs s) (T : mk_TKX s b g) : f_Ta_isSign 42 g = some (Int32.ofNat (mk_iss s b 42).toNat) := mx_isSign (c := 42) hs T (by decide)
theorem mv_xs43 {b : Nat} {g : mm_H} (hs : mk_sgs s) (T : mk_TKX s b g) : f_Ta_isSign 43 g = some (Int32.ofNat (mk_iss s b 43).toNat) := mx_isSign (c := 43) hs T (by decide)
theorem mv_xs45 {b : Nat} {g : mm_H} (hs : mk_sgs s) (T : mk_TKX s b g) : f_Ta_isSign 45 g = some (Int32.ofNat (mk_iss s b 45).toNat) := mx_isSign (c := 45) hs T (by decide)
theorem mv_xs60 {b : Nat} {g : mm_H} (hs : mk_sgs s) (T : mk_TKX s b g) : f_Ta_isSign 60 g = some (Int32.ofNat (mk_iss s b 60).toNat) := mx_isSign (c := 60) hs T (by decide)
theorem mv_xs61 {b : Nat} {g : mm_H} (hs : mk_sgs s) (T : mk_TKX s b g) : f_Ta_isSign 61 g = some (Int32.ofNat (mk_iss s b 61).toNat) := mx_isSign (c := 61) hs T (by decide)
theorem mv_xs40 {b : Nat} {g : mm_H} (hs : mk_sgs s) (T : mk_TKX s b g) : f_Ta_isSign 40 g = some (Int32.ofNat (mk_iss s b 40).toNat) := mx_isSign (c := 40) hs T (by decide)
theorem mv_i1000 {i : Nat} (hi : i < 1000) : ¬ (1000 : Int32) ≤ Int32.ofNat i := fun z => absurd ((mn_lle (b := 1000) (show i < 2147483648 by omega) (by decide)).mp z) (show ¬ 1000 ≤ i by omega)
theorem mv_i1 {i : Nat} : Int32.ofNat i + 1 = Int32.ofNat (i + 1) := mn_addl 1 i
theorem mv_prod (hs : mk_sgs s) (hd : d = 79 ∨ d = 96) (hk : k < 7) (h : mv_SPp s d k (rp (d + 14) (Int32.ofNat k))) : mv_SP s d k (k + 1) (fun _ => True) (mv_mD k) (fun b _ => mk_iss s b 42 = false) (f_La_readProduct_b rp (d + 14) (Int32.ofNat k)) := by
  have ht := (mk_tt hd).2
  have H := mv_chain (s := s) (d := d) (k := k) (K2 := k + 1) (Pre := fun _ => True) (SemA := mv_mD k) (SemB := mv_mP k) (Post := fun _ _ => True) (T := fun b => mk_iss s b 42 = true) (B := rp (d + 14) (Int32.ofNat k)) (yc := fun _ => -6) (stepX := fun s3 => if 1000 ≤ s3.1 then (some (Sum.inr (1, s3.2))) else ((f_Ta_isSign 42 s3.2).bind fun v7 => if v7 = 0 then (some (Sum.inr (1, s3.2))) else ((f_Ta_next s3.2).bind fun v9 => (rp (d + 14) (Int32.ofNat k) v9).bind fun v11 => if v11.1 = 0 then (some (Sum.inr (0, v11.2))) else ((f_La_put (d + 14) (-6) v11.2).bind fun v13 => mm_let (s3.1 + 1) fun y14 => some (Sum.inl (y14, v13)))))) hs hd h.SP ?_ ?_ ?_ ?_ ?_
  · intro b n m hX hM Z po pre
    have r := H b n m hX hM Z po pre
    have e : f_La_readProduct_b rp (d + 14) (Int32.ofNat k) hX = (rp (d + 14) (Int32.ofNat k) hX).bind fun v => if v.1 = 0 then (some (0, v.2)) else mm_while (σ := (Int32 × mm_H)) (ρ := (Int32 × mm_H)) (fun s3 => if 1000 ≤ s3.1 then (some (Sum.inr (1, s3.2))) else ((f_Ta_isSign 42 s3.2).bind fun v7 => if v7 = 0 then (some (Sum.inr (1, s3.2))) else ((f_Ta_next s3.2).bind fun v9 => (rp (d + 14) (Int32.ofNat k) v9).bind fun v11 => if v11.1 = 0 then (some (Sum.inr (0, v11.2))) else ((f_La_put (d + 14) (-6) v11.2).bind fun v13 => mm_let (s3.1 + 1) fun y14 => some (Sum.inl (y14, v13)))))) (0, v.2) := if_pos ht
    rw [e]
    refine r.cons (fun g y q => ?_)
    obtain ⟨b1, P, C, h1, q1, q2, q3, q4, q5, q6, q7, q8, q9, q10, q11, q12, q13⟩ := q
    exact ⟨b1, P, C, h1, q1, q2, q3, q4, q5, q6, q7, q8, q9, q10, q11, q12, mv_nt q13.1⟩
  · rintro P C ⟨k4, v, x, y⟩
    exact ⟨k4, v, x.mono (by omega), .one y⟩
  · intro b g i hi T nt
    dsimp only
    rw [if_neg (mv_i1000 hi), mk_bs (mv_xs42 hs T), if_pos (mv_ifs.mpr (mv_nt nt))]
  · intro b g i hi T t
    obtain ⟨g2, e2, x2⟩ := mx_ttake hs T
    have st : ∀ a, rp (d + 14) (Int32.ofNat k) g2 = some a → (if 1000 ≤ Int32.ofNat i then (some (Sum.inr (1, g))) else ((f_Ta_isSign 42 g).bind fun v7 => if v7 = 0 then (some (Sum.inr (1, g))) else ((f_Ta_next g).bind fun v9 => (rp (d + 14) (Int32.ofNat k) v9).bind fun v11 => if v11.1 = 0 then (some (Sum.inr (0, v11.2))) else ((f_La_put (d + 14) (-6) v11.2).bind fun v13 => mm_let (Int32.ofNat i + 1) fun y14 => some (Sum.inl (y14, v13))))) : Option ((Int32 × mm_H) ⊕ (Int32 × mm_H))) = if a.1 = 0 then (some (Sum.inr (0, a.2))) else ((f_La_put (d + 14) (-6) a.2).bind fun v13 => mm_let (Int32.ofNat i + 1) fun y14 => some (Sum.inl (y14, v13))) := fun a ea => by
      rw [if_neg (mv_i1000 hi), mk_bs (mv_xs42 hs T), if_neg (fun z => by rw [mv_ifs.mp z] at t; exact absurd t (by decide)), mk_bs e2, mk_bs ea]
    refine ⟨g2, x2, fun a ea => ⟨fun a0 => (st a ea).trans (if_pos a0), fun a1 w ew => (st a ea).trans ?_⟩⟩
    rw [if_neg (by rw [a1]; decide), mk_bs ew, mv_i1]; rfl
  · intro b m h T t _ e hm
    obtain ⟨h', e1, ms⟩ := mv_op15 (x := Int32.ofNat k) (c := 42) (cc := 22) hs T e hm (Or.inr (Or.inr ⟨rfl, rfl⟩)) t
    refine ⟨h', 22, e1, ms.ky' (by omega) (by omega), trivial, ?_⟩
    rintro P C P2 C2 ⟨k4, v, x, y⟩ ⟨_, w, x2, y2⟩
    refine ⟨k4, fun e => v e * w e, ?_, y.more y2⟩
    have := x.op x2 (y := -6) (by omega) (by decide) (by decide)
    simp only [mv_opv.1] at this
    exact this
  · exact fun b t => mv_iss_b t
theorem mv_sums (hs : mk_sgs s) (hd : d = 79 ∨ d = 96) (hk : k < 7) (h : mv_SPp s d k (rp (d + 14) (Int32.ofNat k))) : mv_SP s d k (k + 1) (fun _ => True) (mv_mS k) (fun b _ => mk_iss s b 43 = false ∧ mk_iss s b 45 = false ∧ mk_iss s b 42 = false) (f_La_readSum_b rp (d + 14) (Int32.ofNat k)) := by
  have ht := (mk_tt hd).2
  have H := mv_chain (s := s) (d := d) (k := k) (K2 := k + 1) (Pre := fun _ => True) (SemA := mv_mS k) (SemB := mv_mD k) (Post := fun b _ => mk_iss s b 42 = false) (T := fun b => mk_iss s b 43 = true ∨ mk_iss s b 45 = true) (B := f_La_readProduct_b rp (d + 14) (Int32.ofNat k)) (yc := fun b => if mk_iss s b 43 = true then -7 else -8) (stepX := fun s3 => if 1000 ≤ s3.1 then (some (Sum.inr (1, s3.2))) else ((f_Ta_isSign 43 s3.2).bind fun v7 => mm_jp (fun (j8 : Unit) => ((f_Ta_isSign 43 s3.2).bind fun v12 => (if v12 = 0 then (some (-8)) else (some (-7)) : Option Int32).bind fun j13 => (f_Ta_next s3.2).bind fun v19 => (f_La_readProduct_b rp (d + 14) (Int32.ofNat k) v19).bind fun v21 => if v21.1 = 0 then (some (Sum.inr (0, v21.2))) else ((f_La_put (d + 14) j13 v21.2).bind fun v23 => mm_let (s3.1 + 1) fun y24 => some (Sum.inl (y24, v23))))) fun k10 => if v7 = 0 then ((f_Ta_isSign 45 s3.2).bind fun v31 => if v31 = 0 then (some (Sum.inr (1, s3.2))) else (k10 ())) else (k10 ()))) hs hd (mv_prod hs hd hk h) ?_ ?_ ?_ ?_ ?_
  · intro b n m hX hM Z po pre
    have r := H b n m hX hM Z po pre
    have e : f_La_readSum_b rp (d + 14) (Int32.ofNat k) hX = (f_La_readProduct_b rp (d + 14) (Int32.ofNat k) hX).bind fun v => if v.1 = 0 then (some (0, v.2)) else mm_while (σ := (Int32 × mm_H)) (ρ := (Int32 × mm_H)) (fun s3 => if 1000 ≤ s3.1 then (some (Sum.inr (1, s3.2))) else ((f_Ta_isSign 43 s3.2).bind fun v7 => mm_jp (fun (j8 : Unit) => ((f_Ta_isSign 43 s3.2).bind fun v12 => (if v12 = 0 then (some (-8)) else (some (-7)) : Option Int32).bind fun j13 => (f_Ta_next s3.2).bind fun v19 => (f_La_readProduct_b rp (d + 14) (Int32.ofNat k) v19).bind fun v21 => if v21.1 = 0 then (some (Sum.inr (0, v21.2))) else ((f_La_put (d + 14) j13 v21.2).bind fun v23 => mm_let (s3.1 + 1) fun y24 => some (Sum.inl (y24, v23))))) fun k10 => if v7 = 0 then ((f_Ta_isSign 45 s3.2).bind fun v31 => if v31 = 0 then (some (Sum.inr (1, s3.2))) else (k10 ())) else (k10 ()))) (0, v.2) := if_pos ht
    rw [e]
    refine r.cons (fun g y q => ?_)
    obtain ⟨b1, P, C, h1, q1, q2, q3, q4, q5, q6, q7, q8, q9, q10, q11, q12, q13, q14⟩ := q
    exact ⟨b1, P, C, h1, q1, q2, q3, q4, q5, q6, q7, q8, q9, q10, q11, q12, mv_nt (fun z => q13 (Or.inl z)), mv_nt (fun z => q13 (Or.inr z)), q14⟩
  · rintro P C ⟨k4, v, x, y⟩
    exact ⟨k4, v, x.mono (by omega), .one y⟩
  · intro b g i hi T nt
    dsimp only [mm_jp]
    rw [if_neg (mv_i1000 hi), mk_bs (mv_xs43 hs T), if_pos (mv_ifs.mpr (mv_nt (fun z => nt (Or.inl z)))), mk_bs (mv_xs45 hs T), if_pos (mv_ifs.mpr (mv_nt (fun z => nt (Or.inr z))))]
  · intro b g i hi T t
    obtain ⟨g2, e2, x2⟩ := mx_ttake hs T
    have i43 := mv_xs43 hs T
    have i45 := mv_xs45 hs T
    have body : ∀ a, f_La_readProduct_b rp (d + 14) (Int32.ofNat k) g2 = some a → ((f_Ta_isSign 43 g).bind fun v12 => (if v12 = 0 then (some (-8)) else (some (-7)) : Option Int32).bind fun j13 => (f_Ta_next g).bind fun v19 => (f_La_readProduct_b rp (d + 14) (Int32.ofNat k) v19).bind fun v21 => if v21.1 = 0 then (some (Sum.inr (0, v21.2))) else ((f_La_put (d + 14) j13 v21.2).bind fun v23 => mm_let (Int32.ofNat i + 1) fun y24 => some (Sum.inl (y24, v23))) : Option ((Int32 × mm_H) ⊕ (Int32 × mm_H))) = if a.1 = 0 then (some (Sum.inr (0, a.2))) else ((f_La_put (d + 14) (if mk_iss s b 43 = true then -7 else -8) a.2).bind fun v13 => mm_let (Int32.ofNat i + 1) fun y14 => some (Sum.inl (y14, v13))) := fun a ea => by
      refine (mk_bs i43).trans ?_
      refine (mk_bs (v := if mk_iss s b 43 = true then -7 else -8) ?_).trans ?_
      · cases mk_iss s b 43
        · rw [if_pos (by decide)]; rfl
        · rw [if_neg (by decide)]; rfl
      · rw [mk_bs e2, mk_bs ea]
    have st : ∀ a, f_La_readProduct_b rp (d + 14) (Int32.ofNat k) g2 = some a → (if 1000 ≤ Int32.ofNat i then (some (Sum.inr (1, g))) else ((f_Ta_isSign 43 g).bind fun v7 => mm_jp (fun (j8 : Unit) => ((f_Ta_isSign 43 g).bind fun v12 => (if v12 = 0 then (some (-8)) else (some (-7)) : Option Int32).bind fun j13 => (f_Ta_next g).bind fun v19 => (f_La_readProduct_b rp (d + 14) (Int32.ofNat k) v19).bind fun v21 => if v21.1 = 0 then (some (Sum.inr (0, v21.2))) else ((f_La_put (d + 14) j13 v21.2).bind fun v23 => mm_let (Int32.ofNat i + 1) fun y24 => some (Sum.inl (y24, v23))))) fun k10 => if v7 = 0 then ((f_Ta_isSign 45 g).bind fun v31 => if v31 = 0 then (some (Sum.inr (1, g))) else (k10 ())) else (k10 ())) : Option ((Int32 × mm_H) ⊕ (Int32 × mm_H))) = if a.1 = 0 then (some (Sum.inr (0, a.2))) else ((f_La_put (d + 14) (if mk_iss s b 43 = true then -7 else -8) a.2).bind fun v13 => mm_let (Int32.ofNat i + 1) fun y14 => some (Sum.inl (y14, v13))) := fun a ea => by
      rw [if_neg (mv_i1000 hi)]
      refine (mk_bs i43).trans ?_
      refine Eq.trans ?_ (body a ea)
      dsimp only [mm_jp]
      by_cases c : mk_iss s b 43 = true
      · rw [if_neg (fun z => by rw [mv_ifs.mp z] at c; exact absurd c (by decide))]
      · rw [if_pos (mv_ifs.mpr (mv_nt c)), mk_bs i45, if_neg (fun z => by rw [mv_ifs.mp z] at t; exact absurd (t.resolve_left c) (by decide))]
    refine ⟨g2, x2, fun a ea => ⟨fun a0 => (st a ea).trans (if_pos a0), fun a1 w ew => (st a ea).trans ?_⟩⟩
    rw [if_neg (by rw [a1]; decide), mk_bs ew, mv_i1]; rfl
  · intro b m h T t _ e hm
    by_cases c : mk_iss s b 43 = true
    · obtain ⟨h', e1, ms⟩ := mv_op15 (x := Int32.ofNat k) (c := 43) (cc := 20) hs T e hm (Or.inl ⟨rfl, rfl⟩) c
      refine ⟨h', 20, e1, ms.ky' (by omega) (by omega), trivial, ?_⟩
      rintro P C P2 C2 ⟨k4, v, x, y⟩ ⟨_, w, x2, y2⟩
      refine ⟨k4, fun e => v e + w e, ?_, y.more (Or.inl rfl) y2⟩
      have := x.op x2 (y := -7) (by omega) (by decide) (by decide)
      simp only [mv_opv.2.1] at this
      rw [if_pos c]; exact this
    · obtain ⟨h', e1, ms⟩ := mv_op15 (x := Int32.ofNat k) (c := 45) (cc := 21) hs T e hm (Or.inr (Or.inl ⟨rfl, rfl⟩)) (t.resolve_left c)
      refine ⟨h', 21, e1, ms.ky' (by omega) (by omega), trivial, ?_⟩
      rintro P C P2 C2 ⟨k4, v, x, y⟩ ⟨_, w, x2, y2⟩
      refine ⟨k4, fun e => v e - w e, ?_, y.more (Or.inr rfl) y2⟩
      have := x.op x2 (y := -8) (by omega) (by decide) (by decide)
      simp only [mv_opv.2.2.1] at this
      rw [if_neg c]; exact this
  · exact fun b t => t.elim mv_iss_b mv_iss_b
/-- behind a test -/
def mv_pT (s : mk_S) (k b : Nat) (h : mm_H) : Prop := mk_iss s b 43 = false ∧ mk_iss s b 45 = false ∧ mk_iss s b 42 = false ∧ ((mk_iss s b 60 = false ∧ mk_iss s b 61 = false) ∨ ¬ h.1 282 k = 0)
theorem mv_tests (hs : mk_sgs s) (hd : d = 79 ∨ d = 96) (hk : k < 7) (h : mv_SPp s d k (rp (d + 14) (Int32.ofNat k))) : mv_SP s d k k (fun h => h.1 282 k = 0) (mv_mT k) (mv_pT s k) (f_La_readTest_b rp (d + 14) (Int32.ofNat k)) := by
  have ht := (mk_tt hd).2
  have SS := mv_sums hs hd hk h
  intro b n m hX hM Z po pre
  have s1 := hs.1
  unfold f_La_readTest_b
  rw [if_pos ht]
  refine mv_res.bind (SS b n m hX hM Z po trivial) (fun g y q => ?_)
  obtain ⟨b1, P, C, h1, bb, rfl, Z1, lP, lC, pP, pC, kx, ky, aP, aC, ⟨k4, v, x, y⟩, q43, q45, q42⟩ := q
  have T1 := Z1.1
  have i60 := mv_xs60 hs T1
  have i61 := mv_xs61 hs T1
  have c0 : h1.1 282 k = 0 := (ky.2.2.2.2 k (by omega)).trans pre
  have kyk : mv_ky (k + 1) k m hM h1 := ky.dn (Nat.le_refl _) (by omega) (Nat.le_refl _)
  refine mv_res.xs i60 ?_
  by_cases c : mk_iss s b1 60 = true ∨ mk_iss s b1 61 = true
  · -- a comparison
    have c' : (mk_iss s b1 60 = true ∧ ∃ cc yy : Int32, cc = 24 ∧ yy = -9 ∧ (if Int32.ofNat (mk_iss s b1 60).toNat = 0 then (some (-10)) else (some (-9)) : Option Int32) = some yy) ∨ (mk_iss s b1 60 = false ∧ mk_iss s b1 61 = true ∧ ∃ cc yy : Int32, cc = 25 ∧ yy = -10 ∧ (if Int32.ofNat (mk_iss s b1 60).toNat = 0 then (some (-10)) else (some (-9)) : Option Int32) = some yy) := by
      cases c6 : mk_iss s b1 60
      · refine Or.inr ⟨rfl, c.resolve_left (by rw [c6]; decide), 25, -10, rfl, rfl, if_pos (by decide)⟩
      · exact Or.inl ⟨rfl, 24, -9, rfl, rfl, if_neg (by decide)⟩
    have bs : b1 < s.1 := c.elim mv_iss_b mv_iss_b
    obtain ⟨cc, yy, hcc, hyy, hsem⟩ : ∃ cc yy : Int32, (∃ h', mm_while mv_R (Int32.ofNat k, 0, h1) = mm_while mv_R (Int32.ofNat k, 1, h') ∧ mv_MS s b1 (m + C.length) 7 k cc h1 h' ∧ h'.1 282 k = 1) ∧ (if Int32.ofNat (mk_iss s b1 60).toNat = 0 then (some (-10)) else (some (-9)) : Option Int32) = some yy ∧ ∀ P2 C2, mv_mS k P2 C2 → mv_mT k (P ++ (P2 ++ [yy])) (C ++ (cc :: C2)) := by
      have z7 := Z1.2.2.2.2.2.2
      rcases c' with ⟨a, cc, yy, rfl, rfl, e⟩ | ⟨_, a, cc, yy, rfl, rfl, e⟩
      · refine ⟨24, -9, mv_op120 (c := 60) hs hk Z1.2.2.1 Z1.2.2.2.2.2.1 (by omega) c0 (Or.inl ⟨rfl, rfl⟩) a, e, ?_⟩
        rintro P2 C2 ⟨_, w, x2, y2⟩
        refine ⟨k4, fun e => mv_cv 24 (v e) (w e), ?_, mv_T.two (Or.inl rfl) y y2⟩
        have := (x.mono (m := 20 - 4 * k) (by omega)).op x2 (y := -9) (by omega) (by decide) (by decide)
        simp only [mv_opv.2.2.2.1] at this
        exact this
      · refine ⟨25, -10, mv_op120 (c := 61) hs hk Z1.2.2.1 Z1.2.2.2.2.2.1 (by omega) c0 (Or.inr ⟨rfl, rfl⟩) a, e, ?_⟩
        rintro P2 C2 ⟨_, w, x2, y2⟩
        refine ⟨k4, fun e => mv_cv 25 (v e) (w e), ?_, mv_T.two (Or.inr rfl) y y2⟩
        have := (x.mono (m := 20 - 4 * k) (by omega)).op x2 (y := -10) (by omega) (by decide) (by decide)
        simp only [mv_opv.2.2.2.2.1] at this
        exact this
    obtain ⟨h2, eM, MS, c1⟩ := hcc
    obtain ⟨g2, e2, x2⟩ := mx_ttake hs T1
    obtain ⟨lt, Z2⟩ := Z1.nx hd bs x2 MS
    generalize mk_ntk s b1 = b2 at *
    have po2 : mv_po (h2.1 281) k = k := ((mv_po.cg k (fun j hj => MS.2.2.2.2.2.2.1 j (by omega))).trans (mv_po.cg k (fun j hj => ky.2.2.2.1 j hj))).trans po
    have kx2 : mv_kx d (n + P.length) g g2 := x2.1.kx (by omega)
    have MS' := MS.2.2.2.dn (K1' := k + 1) (K2' := k) (m' := m + C.length) (by omega) (Nat.le_refl _) (Nat.le_refl _)
    have body : mv_res d hX hM (Int32.ofNat k, 0, h1) ((f_Ta_isSign 60 g).bind fun v9 => (if v9 = 0 then (some (-10)) else (some (-9)) : Option Int32).bind fun j10 => (f_Ta_next g).bind fun v16 => (f_La_readSum_b rp (d + 14) (Int32.ofNat k) v16).bind fun v18 => if v18.1 = 0 then (some (0, v18.2)) else ((f_La_put (d + 14) j10 v18.2).bind fun v20 => some (1, v20))) (mv_Q (mv_mT k) (mv_pT s k) s d b n m (k + 1) k k hX hM) := by
      refine mv_res.xs i60 (mv_res.xs hyy (mv_res.xs e2 (mv_res.m eM ?_)))
      refine mv_res.bind ((SS b2 (n + P.length) (m + C.length + 1) g2 h2 Z2 po2 trivial).up ((kx.dn (Nat.zero_le _)).tr (kx2.dn (Nat.zero_le _))) ((ky.dn (Nat.zero_le _) (Nat.zero_le _) (Nat.zero_le _)).tr (MS'.dn (Nat.zero_le _) (Nat.zero_le _) (Nat.zero_le _)))) (fun g3 y3 q => ?_)
      obtain ⟨b3, P2, C2, h3, lt3, rfl, Z3, lP2, lC2, pP2, pC2, kx3, ky3, aP2, aC2, sem2, p43, p45, p42⟩ := q
      have n1 := Z1.2.2.2.2.1
      obtain ⟨g4, e4, Z4, kx4, v4⟩ := Z3.put (y := yy) hs hd (by omega)
      refine mv_res.xs e4 (mv_res.ret ?_)
      have F : mv_kx d (n + P.length) g g4 := (kx2.tr kx3).tr (kx4.dn (by omega))
      have FM : mv_ky (k + 1) k (m + C.length) h1 h3 := MS'.tr (ky3.dn (Nat.le_refl _) (by omega) (by omega))
      have lenP : (P ++ (P2 ++ [yy])).length = P.length + P2.length + 1 := by
        rw [List.length_append, List.length_append, List.length_singleton]; omega
      have lenC : (C ++ (cc :: C2)).length = C.length + 1 + C2.length := by
        rw [List.length_append, List.length_cons]; omega
      refine ⟨b3, P ++ (P2 ++ [yy]), C ++ (cc :: C2), h3, by omega, rfl, ?_, by rw [lenP]; omega, by rw [lenC]; omega, by rw [lenP]; omega, by rw [lenC]; omega, kx.tr (F.dn (by omega)), kyk.tr (FM.dn (Nat.le_refl _) (Nat.le_refl _) (by omega)), ?_, ?_, hsem P2 C2 sem2, p43, p45, p42, Or.inr ?_⟩
      · rw [lenP, lenC, show n + (P.length + P2.length + 1) = n + P.length + P2.length + 1 by omega, show m + (C.length + 1 + C2.length) = m + C.length + 1 + C2.length by omega]
        exact Z4
      · exact (aP.cg (fun j j1 j2 => F.2.2 j (by omega))).app ((aP2.cg (fun j j1 j2 => kx4.2.2 j (by omega))).app (mv_at.one v4))
      · refine (aC.cg (fun j j1 j2 => FM.2.2.1 j (by omega))).app ?_
        have o : mv_at (h3.1 280) (1000 + m + C.length) [cc] := mv_at.one (by
          rw [show 1000 + m + C.length = 1000 + (m + C.length) by omega, ky3.2.2.1 _ (by omega)]
          exact MS.2.2.1)
        refine o.app (Q := C2) ?_
        rw [List.length_singleton, show 1000 + m + C.length + 1 = 1000 + (m + C.length + 1) by omega]
        exact aC2
      · rw [ky3.2.2.2.2 k (by omega), c1]; decide
    dsimp only [mm_jp]
    rcases c' with ⟨a, _⟩ | ⟨a, a', _⟩
    · rw [a]
      rw [if_neg (show ¬ Int32.ofNat true.toNat = 0 by decide)]
      exact body
    · rw [a]
      rw [if_pos (show Int32.ofNat false.toNat = 0 by decide)]
      refine mv_res.xs i61 ?_
      rw [a', if_neg (show ¬ Int32.ofNat true.toNat = 0 by decide)]
      exact body
  · have n60 := mv_nt (fun z => c (Or.inl z))
    have n61 := mv_nt (fun z => c (Or.inr z))
    dsimp only [mm_jp]
    rw [n60, if_pos (show Int32.ofNat false.toNat = 0 by decide)]
    refine mv_res.xs i61 ?_
    rw [n61, if_pos (show Int32.ofNat false.toNat = 0 by decide)]
    exact mv_res.ret ⟨b1, P, C, h1, bb, rfl, Z1, lP, lC, pP, pC, kx, kyk, aP, aC, ⟨k4, v, x.mono (by omega), .one y⟩, q43, q45, q42, Or.inl ⟨n60, n61⟩⟩
theorem mv_alls (hs : mk_sgs s) (hd : d = 79 ∨ d = 96) (hk : k < 7) (h : mv_SPp s d k (rp (d + 14) (Int32.ofNat k))) : mv_SP s d k k (fun h => h.1 282 k = 0) (mv_mA k) (fun b h => mv_end s b k h) (f_La_readAll_b rp (d + 14) (Int32.ofNat k)) := by
  have ht := (mk_tt hd).2
  have H := mv_chain (s := s) (d := d) (k := k) (K2 := k) (Pre := fun h => h.1 282 k = 0) (SemA := mv_mA k) (SemB := mv_mT k) (Post := mv_pT s k) (T := fun b => mk_isw s b 22 ∨ mk_isw s b 23) (B := f_La_readTest_b rp (d + 14) (Int32.ofNat k)) (yc := fun b => if mk_wo s b = some 22 then -11 else -12) (stepX := fun s3 => if 1000 ≤ s3.1 then (some (Sum.inr (1, s3.2))) else ((mm_gW s3.2).bind fun wd6 => mm_jp (fun (j8 : Unit) => ((mm_gW s3.2).bind fun wd11 => (if wd11 = (some 22) then (some (-11)) else (some (-12)) : Option Int32).bind fun j13 => (f_Ta_next s3.2).bind fun v19 => (f_La_readTest_b rp (d + 14) (Int32.ofNat k) v19).bind fun v21 => if v21.1 = 0 then (some (Sum.inr (0, v21.2))) else ((f_La_put (d + 14) j13 v21.2).bind fun v23 => mm_let (s3.1 + 1) fun y24 => some (Sum.inl (y24, v23))))) fun k10 => if wd6 = (some 22) then (k10 ()) else ((mm_gW s3.2).bind fun wd30 => if wd30 = (some 23) then (k10 ()) else (some (Sum.inr (1, s3.2)))))) hs hd (mv_tests hs hd hk h) ?_ ?_ ?_ ?_ ?_
  · intro b n m hX hM Z po pre
    have r := H b n m hX hM Z po pre
    have e : f_La_readAll_b rp (d + 14) (Int32.ofNat k) hX = (f_La_readTest_b rp (d + 14) (Int32.ofNat k) hX).bind fun v => if v.1 = 0 then (some (0, v.2)) else mm_while (σ := (Int32 × mm_H)) (ρ := (Int32 × mm_H)) (fun s3 => if 1000 ≤ s3.1 then (some (Sum.inr (1, s3.2))) else ((mm_gW s3.2).bind fun wd6 => mm_jp (fun (j8 : Unit) => ((mm_gW s3.2).bind fun wd11 => (if wd11 = (some 22) then (some (-11)) else (some (-12)) : Option Int32).bind fun j13 => (f_Ta_next s3.2).bind fun v19 => (f_La_readTest_b rp (d + 14) (Int32.ofNat k) v19).bind fun v21 => if v21.1 = 0 then (some (Sum.inr (0, v21.2))) else ((f_La_put (d + 14) j13 v21.2).bind fun v23 => mm_let (s3.1 + 1) fun y24 => some (Sum.inl (y24, v23))))) fun k10 => if wd6 = (some 22) then (k10 ()) else ((mm_gW s3.2).bind fun wd30 => if wd30 = (some 23) then (k10 ()) else (some (Sum.inr (1, s3.2)))))) (0, v.2) := if_pos ht
    rw [e]
    refine r.cons (fun g y q => ?_)
    obtain ⟨b1, P, C, h1, q1, q2, q3, q4, q5, q6, q7, q8, q9, q10, q11, q12, q13, q14, q15, q16, q17⟩ := q
    exact ⟨b1, P, C, h1, q1, q2, q3, q4, q5, q6, q7, q8, q9, q10, q11, q12, q14, q15, q16, q17, fun z => q13 (Or.inl z), fun z => q13 (Or.inr z)⟩
  · rintro P C ⟨k4, v, x, y⟩
    exact ⟨k4, v, x.mono (by omega), .one y⟩
  · intro b g i hi T nt
    dsimp only [mm_jp]
    rw [if_neg (mv_i1000 hi), mk_bs (mx_gW T), if_neg (fun z => nt (Or.inl ((mk_wo_iff (by omega)).mp z))), mk_bs (mx_gW T), if_neg (fun z => nt (Or.inr ((mk_wo_iff (by omega)).mp z)))]
  · intro b g i hi T t
    obtain ⟨g2, e2, x2⟩ := mx_ttake hs T
    have gw := mx_gW T
    have body : ∀ a, f_La_readTest_b rp (d + 14) (Int32.ofNat k) g2 = some a → ((mm_gW g).bind fun wd11 => (if wd11 = (some 22) then (some (-11)) else (some (-12)) : Option Int32).bind fun j13 => (f_Ta_next g).bind fun v19 => (f_La_readTest_b rp (d + 14) (Int32.ofNat k) v19).bind fun v21 => if v21.1 = 0 then (some (Sum.inr (0, v21.2))) else ((f_La_put (d + 14) j13 v21.2).bind fun v23 => mm_let (Int32.ofNat i + 1) fun y24 => some (Sum.inl (y24, v23))) : Option ((Int32 × mm_H) ⊕ (Int32 × mm_H))) = if a.1 = 0 then (some (Sum.inr (0, a.2))) else ((f_La_put (d + 14) (if mk_wo s b = some 22 then -11 else -12) a.2).bind fun v13 => mm_let (Int32.ofNat i + 1) fun y14 => some (Sum.inl (y14, v13))) := fun a ea => by
      refine (mk_bs gw).trans ?_
      refine (mk_bs (v := if mk_wo s b = some 22 then -11 else -12) ?_).trans ?_
      · by_cases z : mk_wo s b = some 22
        · rw [if_pos z, if_pos z]
        · rw [if_neg z, if_neg z]
      · rw [mk_bs e2, mk_bs ea]
    have st : ∀ a, f_La_readTest_b rp (d + 14) (Int32.ofNat k) g2 = some a → (if 1000 ≤ Int32.ofNat i then (some (Sum.inr (1, g))) else ((mm_gW g).bind fun wd6 => mm_jp (fun (j8 : Unit) => ((mm_gW g).bind fun wd11 => (if wd11 = (some 22) then (some (-11)) else (some (-12)) : Option Int32).bind fun j13 => (f_Ta_next g).bind fun v19 => (f_La_readTest_b rp (d + 14) (Int32.ofNat k) v19).bind fun v21 => if v21.1 = 0 then (some (Sum.inr (0, v21.2))) else ((f_La_put (d + 14) j13 v21.2).bind fun v23 => mm_let (Int32.ofNat i + 1) fun y24 => some (Sum.inl (y24, v23))))) fun k10 => if wd6 = (some 22) then (k10 ()) else ((mm_gW g).bind fun wd30 => if wd30 = (some 23) then (k10 ()) else (some (Sum.inr (1, g))))) : Option ((Int32 × mm_H) ⊕ (Int32 × mm_H))) = if a.1 = 0 then (some (Sum.inr (0, a.2))) else ((f_La_put (d + 14) (if mk_wo s b = some 22 then -11 else -12) a.2).bind fun v13 => mm_let (Int32.ofNat i + 1) fun y14 => some (Sum.inl (y14, v13))) := fun a ea => by
      rw [if_neg (mv_i1000 hi)]
      refine (mk_bs gw).trans ?_
      refine Eq.trans ?_ (body a ea)
      dsimp only [mm_jp]
      by_cases c : mk_wo s b = some 22
      · rw [if_pos c]
      · rw [if_neg c, mk_bs gw, if_pos ((mk_wo_iff (by omega)).mpr (t.resolve_left (fun z => c ((mk_wo_iff (by omega)).mpr z))))]
    refine ⟨g2, x2, fun a ea => ⟨fun a0 => (st a ea).trans (if_pos a0), fun a1 w ew => (st a ea).trans ?_⟩⟩
    rw [if_neg (by rw [a1]; decide), mk_bs ew, mv_i1]; rfl
  · intro b m h T t post e hm
    by_cases c : mk_isw s b 22
    · obtain ⟨h', e1, ms, c1⟩ := mv_op44 (i := 22) (cc := 26) hs hk T e hm post.2.2.2 (Or.inl ⟨rfl, rfl⟩) c
      refine ⟨h', 26, e1, ms.ky' (by omega) (by omega), c1, ?_⟩
      rintro P C P2 C2 ⟨k4, v, x, y⟩ ⟨_, w, x2, y2⟩
      refine ⟨k4, fun e => mv_kv 26 (v e) (w e), ?_, y.more (Or.inl rfl) y2⟩
      have := x.op x2 (y := -11) (by omega) (by decide) (by decide)
      simp only [mv_opv.2.2.2.2.2.1] at this
      rw [if_pos ((mk_wo_iff (by omega)).mpr c)]; exact this
    · obtain ⟨h', e1, ms, c1⟩ := mv_op44 (i := 23) (cc := 27) hs hk T e hm post.2.2.2 (Or.inr ⟨rfl, rfl⟩) (t.resolve_left c)
      refine ⟨h', 27, e1, ms.ky' (by omega) (by omega), c1, ?_⟩
      rintro P C P2 C2 ⟨k4, v, x, y⟩ ⟨_, w, x2, y2⟩
      refine ⟨k4, fun e => mv_kv 27 (v e) (w e), ?_, y.more (Or.inr rfl) y2⟩
      have := x.op x2 (y := -12) (by omega) (by decide) (by decide)
      simp only [mv_opv.2.2.2.2.2.2] at this
      rw [if_neg (fun z => c ((mk_wo_iff (by omega)).mp z))]; exact this
  · exact fun b t => t.elim (fun z => (mk_kd_1 z.1).1) (fun z => (mk_kd_1 z.1).1)
end AL
