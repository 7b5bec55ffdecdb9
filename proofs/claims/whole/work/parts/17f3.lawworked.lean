/-! the reference's worked is its codes' -/
theorem mv_ix7 {d : Nat} (hd : d < 7) : mm_ix (Int32.ofNat d) 7 = some d := mn_ix hd (by omega)
theorem mi_opens {d : Nat} {h : mm_H} (hd : d < 7) : f_M_opens (Int32.ofNat d) h = some (mv_opn d h.1, h.2) := by
  unfold f_M_opens
  simp only [mv_ix7 hd, Option.bind_some, mm_let]
  rfl
theorem mi_sums {d : Nat} {h : mm_H} (hd : d < 7) : f_M_sums (Int32.ofNat d) h = some (mv_sum d h.1, h.2) := by
  unfold f_M_sums
  simp only [mv_ix7 hd, Option.bind_some, mm_let]
  refine (mk_bs (v := mv_sv d h.1) ?_).trans rfl
  unfold mv_sv
  by_cases c : h.1 288 d = 21
  · rw [if_pos c, if_pos c]
  · rw [if_neg c, if_neg c]
theorem mv_sum_at {d : Nat} {g : mv_G} : mv_sum d g 287 d = mv_sv d g ∧ mv_sum d g 283 d = g 283 d ∧ mv_sum d g 284 d = g 284 d ∧ mv_sum d g 285 d = g 285 d ∧ mv_sum d g 286 d = g 286 d := by
  unfold mv_sum mv_u
  refine ⟨?_, ?_, ?_, ?_, ?_⟩
  · rw [if_neg (by omega), if_pos ⟨rfl, rfl⟩]
  · rw [if_neg (by omega), if_neg (by omega)]
  · rw [if_neg (by omega), if_neg (by omega)]
  · rw [if_neg (by omega), if_neg (by omega)]
  · rw [if_neg (by omega), if_neg (by omega)]
theorem mi_tests {d : Nat} {h : mm_H} (hd : d < 7) : f_M_tests (Int32.ofNat d) h = some (mv_tst d h.1, h.2) := by
  obtain ⟨e7, e3, e4, e5, e6⟩ := mv_sum_at (d := d) (g := h.1)
  unfold f_M_tests
  rw [mk_bs (mi_sums hd)]
  simp only [mv_ix7 hd, Option.bind_some, mm_let, e7, e3, e4, e5, e6]
  have q : mv_tst d h.1 = mv_u (mv_u (mv_u (mv_u (mv_sum d h.1) 283 d (mv_av d h.1)) 286 d 0) 287 d 0) 288 d 20 := rfl
  rw [q]
  unfold mv_av
  generalize mv_sv d h.1 = S
  generalize h.1 286 d = a
  generalize h.1 285 d = H
  generalize h.1 284 d = B
  generalize h.1 283 d = K
  refine (mk_bs (v := if a = 24 then (if S ≤ H then 0 else 1) else S) ?_).trans ?_
  · by_cases c : a = 24
    · rw [if_pos c, if_pos c]
      by_cases z : S ≤ H
      · rw [if_pos z, if_pos z]; rfl
      · rw [if_neg z, if_neg z]; rfl
    · rw [if_neg c, if_neg c]
  refine (mk_bs (v := mv_cv a H S) ?_).trans ?_
  · unfold mv_cv
    by_cases c : a = 25
    · have c4 : ¬ a = 24 := by rw [c]; decide
      rw [if_pos c, if_neg c4, if_pos c]
      by_cases z : H = S
      · rw [if_pos z, if_pos z]; rfl
      · rw [if_neg z, if_neg z]; rfl
    · rw [if_neg c, if_neg c]
  generalize mv_cv a H S = V
  refine (mk_bs (v := if B = 26 then (if K = 0 then 0 else if V = 0 then 0 else 1) else V) ?_).trans ?_
  · by_cases c : B = 26
    · rw [if_pos c, if_pos c]
      by_cases z : K = 0
      · rw [if_pos z, if_pos z]; rfl
      · rw [if_neg z, if_neg z]
        by_cases y : V = 0
        · rw [if_pos y, if_pos y]; rfl
        · rw [if_neg y, if_neg y]; rfl
    · rw [if_neg c, if_neg c]
  refine (mk_bs (v := mv_kv B K V) ?_).trans ?_
  · unfold mv_kv
    by_cases c : B = 27
    · have c4 : ¬ B = 26 := by rw [c]; decide
      rw [if_pos c, if_neg c4, if_neg c4, if_pos c]
      by_cases z : K = 0
      · rw [if_pos z, if_pos z]
        by_cases y : V = 0
        · rw [if_pos y, if_pos y]; rfl
        · rw [if_neg y, if_neg y]; rfl
      · rw [if_neg z, if_neg z]; rfl
    · rw [if_neg c, if_neg c]
  rfl
noncomputable def mv_give (j : Int32 × Int32 × mm_H) : Option (Int32 × mm_H) := (mm_while (σ := (Int32 × Int32)) (ρ := (Int32 × Int32)) (fun s102 => if s102.1 ≤ 0 then (some (Sum.inr (s102.1, s102.2))) else ((mm_ix s102.1 7).bind fun k108 => if (j.2.2.1 291 k108) = 1 then ((if s102.2 = 0 then (some 1) else (some 0) : Option Int32).bind fun j110 => mm_let (s102.1 + (-1)) fun y115 => some (Sum.inl (y115, j110))) else (some (Sum.inr (s102.1, s102.2))))) (j.1, j.2.1)).bind fun v105 => (mm_ix v105.1 7).bind fun k124 => (if (j.2.2.1 290 k124) = 0 then (some v105.2) else ((mm_ix v105.1 7).bind fun k128 => some ((j.2.2.1 289 k128) * v105.2)) : Option Int32).bind fun j126 => (mm_ix v105.1 7).bind fun k133 => mm_let (mm_pI j.2.2 289 k133 j126) fun h135 => some (v105.1, h135)
noncomputable def mv_one (y17 x : Int32) (h : mm_H) : Option (Int32 × mm_H) := (mm_jp (fun (j21 : Unit) => (mm_let (x + 1) fun y24 => (if y17 = 30 then (some 1) else (some 0) : Option Int32).bind fun j26 => (mm_ix y24 7).bind fun k31 => mm_let (mm_pI h 291 k31 j26) fun h33 => (f_M_opens y24 h33).bind fun v36 => some (y24, v36))) fun k23 => if y17 = 28 then (k23 ()) else (if y17 = 30 then (k23 ()) else (mm_jp (fun (j38 : Unit) => ((f_M_sums x h).bind fun v42 => (mm_ix x 7).bind fun k43 => mm_let (mm_pI v42 288 k43 y17) fun h45 => some (x, h45))) fun k40 => if y17 = 20 then (k40 ()) else (if y17 = 21 then (k40 ()) else (if y17 = 22 then ((mm_ix x 7).bind fun k154 => mm_let (mm_pI h 290 k154 y17) fun h156 => some (x, h156)) else (mm_jp (fun (j47 : Unit) => ((f_M_sums x h).bind fun v51 => (mm_ix x 7).bind fun k52 => (mm_ix x 7).bind fun k54 => mm_let (mm_pI v51 285 k54 (v51.1 287 k52)) fun h56 => (mm_ix x 7).bind fun k58 => mm_let (mm_pI h56 286 k58 y17) fun h60 => (mm_ix x 7).bind fun k62 => mm_let (mm_pI h60 287 k62 0) fun h64 => (mm_ix x 7).bind fun k66 => mm_let (mm_pI h64 288 k66 20) fun h68 => some (x, h68))) fun k49 => if y17 = 24 then (k49 ()) else (if y17 = 25 then (k49 ()) else (mm_jp (fun (j70 : Unit) => ((f_M_tests x h).bind fun v74 => (mm_ix x 7).bind fun k75 => mm_let (mm_pI v74 284 k75 y17) fun h77 => some (x, h77))) fun k72 => if y17 = 26 then (k72 ()) else (if y17 = 27 then (k72 ()) else ((if y17 < 100 then (if 20 ≤ y17 then (some 0) else ((mm_ix y17 20).bind fun k81 => some (h.1 292 k81))) else (some (y17 - 100)) : Option Int32).bind fun j79 => (if y17 = 29 then ((f_M_tests x h).bind fun v92 => (mm_ix x 7).bind fun k93 => mm_let (v92.1 283 k93) fun y95 => mm_let (x + (-1)) fun y97 => some (y97, y95, v92)) else (some (x, j79, h)) : Option (Int32 × Int32 × mm_H)).bind fun j89 => mv_give j89))))))))))
def mv_pp : Nat → Int32 → mv_G → Nat × Int32
  | 0, v, _ => (0, v)
  | d + 1, v, g => if g 291 (d + 1) = 1 then mv_pp d (mv_n1 v) g else (d + 1, v)
theorem mv_gv_pp {g : mv_G} : ∀ d v, mv_gv d v g = ((mv_pp d v g).1, mv_st (mv_pp d v g).1 (mv_pp d v g).2 g)
  | 0, v => rfl
  | d + 1, v => by
    show (if g 291 (d + 1) = 1 then mv_gv d (mv_n1 v) g else (d + 1, mv_st (d + 1) v g)) = ((if g 291 (d + 1) = 1 then mv_pp d (mv_n1 v) g else (d + 1, v)).1, mv_st (if g 291 (d + 1) = 1 then mv_pp d (mv_n1 v) g else (d + 1, v)).1 (if g 291 (d + 1) = 1 then mv_pp d (mv_n1 v) g else (d + 1, v)).2 g)
    by_cases c : g 291 (d + 1) = 1
    · rw [if_pos c, if_pos c]; exact mv_gv_pp d (mv_n1 v)
    · rw [if_neg c, if_neg c]
theorem mv_pp_le {g : mv_G} : ∀ d v, (mv_pp d v g).1 ≤ d
  | 0, v => Nat.le_refl _
  | d + 1, v => by
    show (if g 291 (d + 1) = 1 then mv_pp d (mv_n1 v) g else (d + 1, v)).1 ≤ d + 1
    by_cases c : g 291 (d + 1) = 1
    · rw [if_pos c]; have := mv_pp_le (g := g) d (mv_n1 v); omega
    · rw [if_neg c]; exact Nat.le_refl _
theorem mv_pop {h : mm_H} : ∀ d v, d < 7 → mm_while (σ := (Int32 × Int32)) (ρ := (Int32 × Int32)) (fun s102 => if s102.1 ≤ 0 then (some (Sum.inr (s102.1, s102.2))) else ((mm_ix s102.1 7).bind fun k108 => if (h.1 291 k108) = 1 then ((if s102.2 = 0 then (some 1) else (some 0) : Option Int32).bind fun j110 => mm_let (s102.1 + (-1)) fun y115 => some (Sum.inl (y115, j110))) else (some (Sum.inr (s102.1, s102.2))))) (Int32.ofNat d, v) = some (Int32.ofNat (mv_pp d v h.1).1, (mv_pp d v h.1).2)
  | 0, v, _ => mm_while_inr (by dsimp only; rw [if_pos (by decide)]; rfl)
  | d + 1, v, hd => by
    have ix := mv_ix7 hd
    have pos : ¬ Int32.ofNat (d + 1) ≤ 0 := fun z => absurd ((mn_lel (b := 0) (show d + 1 < 2147483648 by omega) (by decide)).mp z) (show ¬ d + 1 ≤ 0 by omega)
    have q : mv_pp (d + 1) v h.1 = if h.1 291 (d + 1) = 1 then mv_pp d (mv_n1 v) h.1 else (d + 1, v) := rfl
    rw [q]
    by_cases c : h.1 291 (d + 1) = 1
    · rw [if_pos c]
      refine (mm_while_inl ?_).trans (mv_pop d (mv_n1 v) (by omega))
      dsimp only
      rw [if_neg pos, mk_bs ix, if_pos c, mv_m1s]
      refine (mk_bs (v := mv_n1 v) ?_).trans rfl
      unfold mv_n1
      by_cases z : v = 0
      · rw [if_pos z, if_pos z]
      · rw [if_neg z, if_neg z]
    · rw [if_neg c]
      refine mm_while_inr ?_
      dsimp only
      rw [if_neg pos, mk_bs ix, if_neg c]
theorem mv_given {d : Nat} {v : Int32} {h : mm_H} (hd : d < 7) : mv_give (Int32.ofNat d, v, h) = some (Int32.ofNat (mv_gv d v h.1).1, (mv_gv d v h.1).2, h.2) := by
  unfold mv_give
  rw [mk_bs (mv_pop d v hd), mv_gv_pp]
  have le := mv_pp_le (g := h.1) d v
  have ix := mv_ix7 (d := (mv_pp d v h.1).1) (by omega)
  generalize mv_pp d v h.1 = p at *
  obtain ⟨p1, p2⟩ := p
  dsimp only at ix ⊢
  rw [mk_bs ix]
  refine (mk_bs (v := if h.1 290 p1 = 0 then p2 else h.1 289 p1 * p2) ?_).trans ?_
  · by_cases c : h.1 290 p1 = 0
    · rw [if_pos c, if_pos c]
    · rw [if_neg c, if_neg c, mk_bs ix]
  · rw [mk_bs ix]; rfl
/-- one code -/
theorem mv_ones {e : mv_e} {c : Int32} {d d' : Nat} {g' : mv_G} {h : mm_H} (hd : d < 7) (he : ∀ k, 1 ≤ k → k ≤ 4 → e k = h.1 292 k) (q : mv_c e c d h.1 = some (d', g')) : mv_one c (Int32.ofNat d) h = some (Int32.ofNat d', g', h.2) ∧ d' < 7 := by
  have ix := mv_ix7 hd
  unfold mv_c at q
  unfold mv_one
  simp only [mm_jp, mm_let]
  by_cases a1 : c = 28 ∨ c = 30
  · rw [if_pos a1] at q
    by_cases d6 : d < 6
    · rw [if_pos d6] at q
      obtain ⟨rfl, rfl⟩ := Prod.mk.inj (Option.some.inj q)
      have body : ((if c = 30 then (some 1) else (some 0) : Option Int32).bind fun j26 => (mm_ix (Int32.ofNat d + 1) 7).bind fun k31 => (f_M_opens (Int32.ofNat d + 1) (mm_pI h 291 k31 j26)).bind fun v36 => some (Int32.ofNat d + 1, v36)) = some (Int32.ofNat (d + 1), mv_opn (d + 1) (mv_u h.1 291 (d + 1) (if c = 30 then 1 else 0)), h.2) := by
        rw [show Int32.ofNat d + 1 = Int32.ofNat (d + 1) from mn_addl 1 d]
        refine (mk_bs (v := if c = 30 then 1 else 0) ?_).trans ?_
        · by_cases z : c = 30
          · rw [if_pos z, if_pos z]
          · rw [if_neg z, if_neg z]
        · rw [mk_bs (mv_ix7 (d := d + 1) (by omega)), mk_bs (mi_opens (by omega))]; rfl
      refine ⟨?_, by omega⟩
      rcases a1 with z | z
      · rw [if_pos z]; exact body
      · rw [if_neg (by rw [z]; decide), if_pos z]; exact body
    · rw [if_neg d6] at q; nomatch q
  · rw [if_neg a1] at q
    rw [if_neg (fun z => a1 (Or.inl z)), if_neg (fun z => a1 (Or.inr z))]
    by_cases a2 : c = 20 ∨ c = 21
    · rw [if_pos a2] at q
      obtain ⟨rfl, rfl⟩ := Prod.mk.inj (Option.some.inj q)
      have body : ((f_M_sums (Int32.ofNat d) h).bind fun v42 => (mm_ix (Int32.ofNat d) 7).bind fun k43 => some (Int32.ofNat d, mm_pI v42 288 k43 c)) = some (Int32.ofNat d, mv_u (mv_sum d h.1) 288 d c, h.2) := by
        rw [mk_bs (mi_sums hd), mk_bs ix]; rfl
      refine ⟨?_, hd⟩
      rcases a2 with z | z
      · rw [if_pos z]; exact body
      · rw [if_neg (by rw [z]; decide), if_pos z]; exact body
    · rw [if_neg a2] at q
      rw [if_neg (fun z => a2 (Or.inl z)), if_neg (fun z => a2 (Or.inr z))]
      by_cases a3 : c = 22
      · rw [if_pos a3] at q
        obtain ⟨rfl, rfl⟩ := Prod.mk.inj (Option.some.inj q)
        rw [if_pos a3, mk_bs ix]
        exact ⟨rfl, hd⟩
      · rw [if_neg a3] at q
        rw [if_neg a3]
        by_cases a4 : c = 24 ∨ c = 25
        · rw [if_pos a4] at q
          obtain ⟨rfl, rfl⟩ := Prod.mk.inj (Option.some.inj q)
          have body : ((f_M_sums (Int32.ofNat d) h).bind fun v51 => (mm_ix (Int32.ofNat d) 7).bind fun k52 => (mm_ix (Int32.ofNat d) 7).bind fun k54 => (mm_ix (Int32.ofNat d) 7).bind fun k58 => (mm_ix (Int32.ofNat d) 7).bind fun k62 => (mm_ix (Int32.ofNat d) 7).bind fun k66 => some (Int32.ofNat d, mm_pI (mm_pI (mm_pI (mm_pI v51 285 k54 (v51.1 287 k52)) 286 k58 c) 287 k62 0) 288 k66 20)) = some (Int32.ofNat d, mv_u (mv_u (mv_u (mv_u (mv_sum d h.1) 285 d (mv_sv d h.1)) 286 d c) 287 d 0) 288 d 20, h.2) := by
            rw [mk_bs (mi_sums hd), mk_bs ix, mk_bs ix, mk_bs ix, mk_bs ix, mk_bs ix]
            dsimp only
            rw [(mv_sum_at (d := d) (g := h.1)).1]; rfl
          refine ⟨?_, hd⟩
          rcases a4 with z | z
          · rw [if_pos z]; exact body
          · rw [if_neg (by rw [z]; decide), if_pos z]; exact body
        · rw [if_neg a4] at q
          rw [if_neg (fun z => a4 (Or.inl z)), if_neg (fun z => a4 (Or.inr z))]
          by_cases a5 : c = 26 ∨ c = 27
          · rw [if_pos a5] at q
            obtain ⟨rfl, rfl⟩ := Prod.mk.inj (Option.some.inj q)
            have body : ((f_M_tests (Int32.ofNat d) h).bind fun v74 => (mm_ix (Int32.ofNat d) 7).bind fun k75 => some (Int32.ofNat d, mm_pI v74 284 k75 c)) = some (Int32.ofNat d, mv_u (mv_tst d h.1) 284 d c, h.2) := by
              rw [mk_bs (mi_tests hd), mk_bs ix]; rfl
            refine ⟨?_, hd⟩
            rcases a5 with z | z
            · rw [if_pos z]; exact body
            · rw [if_neg (by rw [z]; decide), if_pos z]; exact body
          · rw [if_neg a5] at q
            rw [if_neg (fun z => a5 (Or.inl z)), if_neg (fun z => a5 (Or.inr z))]
            have fin : ∀ d0 v (g : mm_H), d0 < 7 → g.2 = h.2 → some (mv_gv d0 v g.1) = some (d', g') → mv_give (Int32.ofNat d0, v, g) = some (Int32.ofNat d', g', h.2) ∧ d' < 7 := fun d0 v g hd0 hg z => by
              have z' := Option.some.inj z
              have l := mv_pp_le (g := g.1) d0 v
              have pe := mv_gv_pp (g := g.1) d0 v
              rw [z'] at pe
              have p1 := (Prod.mk.inj pe).1
              refine ⟨?_, by omega⟩
              rw [mv_given hd0, z', hg]
            by_cases a6 : c = 29
            · rw [if_pos a6] at q
              cases d with
              | zero => nomatch q
              | succ d1 =>
                have v1 : ((if c < 100 then (if 20 ≤ c then (some 0) else ((mm_ix c 20).bind fun k81 => some (h.1 292 k81))) else (some (c - 100)) : Option Int32)) = some 0 := by
                  rw [if_pos (by rw [a6]; decide), if_pos (by rw [a6]; decide)]
                rw [mk_bs v1, if_pos a6]
                have v2 : ((f_M_tests (Int32.ofNat (d1 + 1)) h).bind fun v92 => (mm_ix (Int32.ofNat (d1 + 1)) 7).bind fun k93 => some (Int32.ofNat (d1 + 1) + (-1), v92.1 283 k93, v92)) = some (Int32.ofNat d1, mv_av (d1 + 1) h.1, (mv_tst (d1 + 1) h.1, h.2)) := by
                  rw [mk_bs (mi_tests hd), mk_bs ix, mv_m1s]
                  have : mv_tst (d1 + 1) h.1 283 (d1 + 1) = mv_av (d1 + 1) h.1 := by
                    unfold mv_tst mv_u
                    rw [if_neg (by omega), if_neg (by omega), if_neg (by omega), if_pos ⟨rfl, rfl⟩]
                  dsimp only
                  rw [this]
                rw [mk_bs v2]
                exact fin d1 _ (mv_tst (d1 + 1) h.1, h.2) (by omega) rfl q
            · rw [if_neg a6] at q
              have go : ∀ v, ((if c < 100 then (if 20 ≤ c then (some 0) else ((mm_ix c 20).bind fun k81 => some (h.1 292 k81))) else (some (c - 100)) : Option Int32)) = some v → some (mv_gv d v h.1) = some (d', g') → ((if c < 100 then (if 20 ≤ c then (some 0) else ((mm_ix c 20).bind fun k81 => some (h.1 292 k81))) else (some (c - 100)) : Option Int32).bind fun j79 => (if c = 29 then ((f_M_tests (Int32.ofNat d) h).bind fun v92 => (mm_ix (Int32.ofNat d) 7).bind fun k93 => some (Int32.ofNat d + (-1), v92.1 283 k93, v92)) else (some (Int32.ofNat d, j79, h)) : Option (Int32 × Int32 × mm_H)).bind fun j89 => mv_give j89) = some (Int32.ofNat d', g', h.2) ∧ d' < 7 := fun v hv z => by
                rw [mk_bs hv, if_neg a6]
                exact fin d v h hd rfl z
              by_cases a7 : 100 ≤ c
              · rw [if_pos a7] at q
                exact go (c - 100) (if_neg (Int32.not_lt.mpr a7)) q
              · rw [if_neg a7] at q
                have lt : c < 100 := Int32.not_le.mp a7
                by_cases b1 : c = 1
                · rw [if_pos b1, he 1 (by omega) (by omega)] at q
                  exact go _ (by rw [if_pos lt, b1]; rfl) q
                · rw [if_neg b1] at q
                  by_cases b2 : c = 2
                  · rw [if_pos b2, he 2 (by omega) (by omega)] at q
                    exact go _ (by rw [if_pos lt, b2]; rfl) q
                  · rw [if_neg b2] at q
                    by_cases b3 : c = 3
                    · rw [if_pos b3, he 3 (by omega) (by omega)] at q
                      exact go _ (by rw [if_pos lt, b3]; rfl) q
                    · rw [if_neg b3] at q
                      by_cases b4 : c = 4
                      · rw [if_pos b4, he 4 (by omega) (by omega)] at q
                        exact go _ (by rw [if_pos lt, b4]; rfl) q
                      · rw [if_neg b4] at q; nomatch q
/-- what the codes leave alone -/
def mv_fr (g g' : mv_G) : Prop := ∀ c, ¬ (283 ≤ c ∧ c ≤ 291) → g' c = g c
theorem mv_fr.u {g g1 : mv_G} {c d : Nat} {v : Int32} (a : mv_fr g g1) (hc : 283 ≤ c ∧ c ≤ 291) : mv_fr g (mv_u g1 c d v) := fun z hz => by
  funext j
  show (if z = c ∧ j = d then v else g1 z j) = g z j
  rw [if_neg (fun (y : z = c ∧ j = d) => hz (by rw [y.1]; exact hc)), a z hz]
theorem mv_fr.rf {g : mv_G} : mv_fr g g := fun _ _ => rfl
theorem mv_fr.tr {g g1 g2 : mv_G} (a : mv_fr g g1) (b : mv_fr g1 g2) : mv_fr g g2 := fun c hc => (b c hc).trans (a c hc)
theorem mv_fr.sum {d : Nat} {g : mv_G} : mv_fr g (mv_sum d g) := (mv_fr.rf.u (by omega)).u (by omega)
theorem mv_fr.tst {d : Nat} {g : mv_G} : mv_fr g (mv_tst d g) := (((mv_fr.sum.u (by omega)).u (by omega)).u (by omega)).u (by omega)
theorem mv_fr.opn {d : Nat} {g g0 : mv_G} (a : mv_fr g0 g) : mv_fr g0 (mv_opn d g) := ((((a.u (by omega)).u (by omega)).u (by omega)).u (by omega)).u (by omega)
theorem mv_fr.gv {d : Nat} {v : Int32} {g : mv_G} : mv_fr g (mv_gv d v g).2 := by
  rw [mv_gv_pp]
  exact mv_fr.rf.u (by omega)
theorem mv_c_fr {e : mv_e} {c : Int32} {d d' : Nat} {g g' : mv_G} (q : mv_c e c d g = some (d', g')) : mv_fr g g' := by
  have gv : ∀ d0 v (g0 : mv_G), mv_fr g g0 → some (mv_gv d0 v g0) = some (d', g') → mv_fr g g' := fun d0 v g0 hg z => by
    have := mv_fr.gv (d := d0) (v := v) (g := g0)
    rw [Option.some.inj z] at this
    exact hg.tr this
  unfold mv_c at q
  by_cases a1 : c = 28 ∨ c = 30
  · rw [if_pos a1] at q
    by_cases d6 : d < 6
    · rw [if_pos d6] at q
      obtain ⟨_, rfl⟩ := Prod.mk.inj (Option.some.inj q)
      exact (mv_fr.rf.u (by omega)).opn
    · rw [if_neg d6] at q; nomatch q
  rw [if_neg a1] at q
  by_cases a2 : c = 20 ∨ c = 21
  · rw [if_pos a2] at q
    obtain ⟨_, rfl⟩ := Prod.mk.inj (Option.some.inj q)
    exact mv_fr.sum.u (by omega)
  rw [if_neg a2] at q
  by_cases a3 : c = 22
  · rw [if_pos a3] at q
    obtain ⟨_, rfl⟩ := Prod.mk.inj (Option.some.inj q)
    exact mv_fr.rf.u (by omega)
  rw [if_neg a3] at q
  by_cases a4 : c = 24 ∨ c = 25
  · rw [if_pos a4] at q
    obtain ⟨_, rfl⟩ := Prod.mk.inj (Option.some.inj q)
    exact (((mv_fr.sum.u (by omega)).u (by omega)).u (by omega)).u (by omega)
  rw [if_neg a4] at q
  by_cases a5 : c = 26 ∨ c = 27
  · rw [if_pos a5] at q
    obtain ⟨_, rfl⟩ := Prod.mk.inj (Option.some.inj q)
    exact mv_fr.tst.u (by omega)
  rw [if_neg a5] at q
  by_cases a6 : c = 29
  · rw [if_pos a6] at q
    cases d with
    | zero => nomatch q
    | succ d1 => exact gv _ _ _ mv_fr.tst q
  rw [if_neg a6] at q
  by_cases a7 : 100 ≤ c
  · rw [if_pos a7] at q; exact gv _ _ _ mv_fr.rf q
  rw [if_neg a7] at q
  by_cases b1 : c = 1
  · rw [if_pos b1] at q; exact gv _ _ _ mv_fr.rf q
  rw [if_neg b1] at q
  by_cases b2 : c = 2
  · rw [if_pos b2] at q; exact gv _ _ _ mv_fr.rf q
  rw [if_neg b2] at q
  by_cases b3 : c = 3
  · rw [if_pos b3] at q; exact gv _ _ _ mv_fr.rf q
  rw [if_neg b3] at q
  by_cases b4 : c = 4
  · rw [if_pos b4] at q; exact gv _ _ _ mv_fr.rf q
  rw [if_neg b4] at q; nomatch q
def mv_ew (h : mm_H) : mv_e := mv_en (h.1 292 1) (h.1 292 2) (h.1 292 3) (h.1 292 4)
theorem mv_ew_at {h : mm_H} {k : Nat} (h1 : 1 ≤ k) (h2 : k ≤ 4) : mv_ew h k = h.1 292 k := by
  have : k = 1 ∨ k = 2 ∨ k = 3 ∨ k = 4 := by omega
  rcases this with rfl | rfl | rfl | rfl <;> rfl
theorem mi_worked {C : List Int32} {v : mv_e → Int32} {h : mm_H} (e8 : h.1 278 0 = 0) (e9 : h.1 279 0 = Int32.ofNat C.length) (hl : C.length ≤ 1000) (hC : mv_at (h.1 280) 0 C) (hv : mv_A C 0 v) : mk_ok (f_M_worked 0 h) (fun w => w.1 = v (mv_ew h) ∧ mk_ch mk_DM h w.2) := by
  unfold f_M_worked
  have op : f_M_opens 0 h = some (mv_opn 0 h.1, h.2) := mi_opens (d := 0) (by omega)
  have f0 : mv_fr h.1 (mv_opn 0 h.1) := mv_fr.rf.opn
  have i2 : mm_ix (0 : Int32) 2 = some 0 := rfl
  rw [mk_bs op, mk_bs i2]
  refine mk_ok.let ?_
  show mk_ok ((mm_while _ (0, (mv_opn 0 h.1) 278 0, (mv_opn 0 h.1, h.2))).bind _) _
  rw [f0 278 (by omega), e8]
  obtain ⟨g', r1, r2, r3, r4⟩ := hv (mv_ew h) (mv_opn 0 h.1) (Or.inl rfl) (by unfold mv_opn mv_u; simp) (by unfold mv_opn mv_u; simp) (by unfold mv_opn mv_u; simp) (by unfold mv_opn mv_u; simp) (by unfold mv_opn mv_u; simp)
  have key : ∀ (D : List Int32) (i d : Nat) (g : mv_G) (g2 : mv_G), i + D.length = C.length → mv_at (h.1 280) i D → d < 7 → mv_fr h.1 g → mv_w (mv_ew h) D d g = some (0, g2) → mm_while (σ := (Int32 × Int32 × mm_H)) (ρ := mm_H) (fun s7 => (mm_ix (0 : Int32) 2).bind fun k13 => if (s7.2.2.1 279 k13) ≤ s7.2.1 then (some (Sum.inr s7.2.2)) else ((mm_ix s7.2.1 2000).bind fun k15 => mm_let (s7.2.2.1 280 k15) fun y17 => (mv_one y17 s7.1 s7.2.2).bind fun j19 => mm_let (s7.2.1 + 1) fun y175 => some (Sum.inl (j19.1, y175, j19.2)))) (Int32.ofNat d, Int32.ofNat i, (g, h.2)) = some (g2, h.2) ∧ mv_fr h.1 g2 := by
    intro D
    induction D with
    | nil =>
      intro i d g g2 hi hD hd hg q
      rw [List.length_nil, Nat.add_zero] at hi
      obtain ⟨rfl, rfl⟩ := Prod.mk.inj (Option.some.inj q)
      refine ⟨mm_while_inr ?_, hg⟩
      rw [mk_bs i2]
      dsimp only
      rw [if_pos (show g 279 0 ≤ Int32.ofNat i by rw [hg 279 (by omega), e9, hi]; exact Int32.le_refl _)]
    | cons c D ih =>
      intro i d g g2 hi hD hd hg q
      rw [List.length_cons] at hi
      have q' : (mv_c (mv_ew h) c d g).bind (fun x => mv_w (mv_ew h) D x.1 x.2) = some (0, g2) := q
      obtain ⟨⟨d1, g1⟩, p1, p2⟩ := mj_bk q'
      obtain ⟨o1, o2⟩ := mv_ones (h := (g, h.2)) hd (fun k k1 k4 => by rw [mv_ew_at k1 k4]; show h.1 292 k = g 292 k; rw [hg 292 (by omega)]) p1
      obtain ⟨w1, w2⟩ := ih (i + 1) d1 g1 g2 (by omega) hD.tl o2 (hg.tr (mv_c_fr p1)) p2
      refine ⟨(mm_while_inl ?_).trans w1, w2⟩
      rw [mk_bs i2]
      dsimp only
      rw [if_neg (show ¬ g 279 0 ≤ Int32.ofNat i by rw [hg 279 (by omega), e9]; exact fun z => absurd ((mn_le (by omega) (by omega)).mp z) (by omega)), mk_bs (mn_ix (show i < 2000 by omega) (by omega))]
      refine Eq.trans (mk_bs (v := (Int32.ofNat d1, g1, h.2)) ?_) ?_
      · rw [hg 280 (by omega), hD.hd]; exact o1
      · dsimp only [mm_let]
        rw [show Int32.ofNat i + 1 = Int32.ofNat (i + 1) from mn_addl 1 i]
  obtain ⟨w1, w2⟩ := key C 0 0 (mv_opn 0 h.1) g' (by omega) hC (by omega) f0 r1
  refine mk_ok.bs (show mm_while _ _ = some (g', h.2) from w1) ?_
  have ts : f_M_tests 0 (g', h.2) = some (mv_tst 0 g', h.2) := mi_tests (d := 0) (by omega)
  refine mk_ok.bs ts ?_
  have av : mv_tst 0 g' 283 0 = mv_av 0 g' := by
    unfold mv_tst mv_u
    rw [if_neg (by omega), if_neg (by omega), if_neg (by omega), if_pos ⟨rfl, rfl⟩]
  refine mk_ok.ret ⟨by dsimp only; rw [av, r4], ?_⟩
  have fin := w2.tr (mv_fr.tst (d := 0) (g := g'))
  refine ⟨fun c hc => ⟨?_, rfl⟩, rfl⟩
  exact fin c (fun z => hc (by unfold mk_DM; omega))
