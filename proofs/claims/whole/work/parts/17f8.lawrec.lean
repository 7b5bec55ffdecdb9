/-! the law of worth read: a part, then all of it -/
noncomputable def mv_kp (rp : Nat → Int32 → mm_H → Option (Int32 × mm_H)) (a0 : Nat) (x2 j3 v9 j12 : Int32) (h : mm_H) : Option (Int32 × mm_H) := if x2 < 5 then (if j3 = 0 then (if v9 = 0 then ((if j12 = 0 then (some (h.1 33 5)) else ((mm_gW h).bind fun wd29 => (wd29).bind fun k31 => some (mm_wf k31)) : Option Int32).bind fun j27 => (f_La_put a0 j27 h).bind fun v37 => (f_Ta_next v37).bind fun v39 => some (1, v39)) else ((f_Ta_next h).bind fun v42 => (f_La_readAll_b rp a0 (x2 + 1) v42).bind fun v44 => if v44.1 = 0 then (some (0, v44.2)) else ((f_Ta_takeSign 41 v44.2).bind fun v46 => if v46.1 = 0 then (some (0, v46.2)) else (some (1, v46.2))))) else ((f_Ta_next h).bind fun v57 => (rp a0 (x2 + 1) v57).bind fun v59 => if v59.1 = 0 then (some (0, v59.2)) else ((f_La_put a0 (-5) v59.2).bind fun v61 => some (1, v61)))) else ((f_Ta_wrong 5 h).bind fun v69 => (mm_bo v69.1).bind fun b70 => some (b70, v69.2))
theorem mv_part0 {rp : Nat → Int32 → mm_H → Option (Int32 × mm_H)} {a0 : Nat} {x2 : Int32} {h : mm_H} (ht : mm_tg a0 = 2) : f_La_readPart_b rp a0 x2 h = ((mm_gW h).bind fun wd1 => (if wd1 = (some 21) then (some 1) else (some 0) : Option Int32).bind fun j3 => (f_Ta_isSign 40 h).bind fun v9 => (mm_gW h).bind fun wd10 => (if wd10 = none then (some 0) else ((mm_gW h).bind fun wd14 => (wd14).bind fun k16 => if (mm_wf k16) = 0 then (some 0) else (some 1)) : Option Int32).bind fun j12 => if j3 = 0 then (if v9 = 0 then (if j12 = 0 then (if (h.1 33 4) = 3 then mv_kp rp a0 x2 j3 v9 j12 h else ((f_Ta_wrong 1 h).bind fun v76 => (mm_bo v76.1).bind fun b77 => some (b77, v76.2))) else mv_kp rp a0 x2 j3 v9 j12 h) else mv_kp rp a0 x2 j3 v9 j12 h) else mv_kp rp a0 x2 j3 v9 j12 h) := if_pos ht
section RC
variable {s : mk_S} {b k d : Nat} {h : mm_H} {rp : Nat → Int32 → mm_H → Option (Int32 × mm_H)}
theorem mv_wo0 (k : ¬ mk_kd s b = 1) : mk_wo s b = none := if_neg k
/-- the class's questions at a part's begin -/
theorem mv_askx {q : Nat} (hs : mk_sgs s) (T : mk_TKX s b h) (p : mv_pk s b q) : (if mk_wo s b = (some 21) then (some 1) else (some 0) : Option Int32) = some (if q = 5 then 1 else 0) ∧ f_Ta_isSign 40 h = some (if q = 6 then 1 else 0) ∧ (if mk_wo s b = none then (some 0) else ((mm_gW h).bind fun wd14 => (wd14).bind fun k16 => if (mm_wf k16) = 0 then (some 0) else (some 1)) : Option Int32) = some (if 1 ≤ q ∧ q ≤ 4 then 1 else 0) ∧ (q = 0 → h.1 33 4 = 3) := by
  have i40 := mv_xs40 hs T
  have gw := mx_gW T
  have w4 := T.2.2.2.2.1
  rcases p with ⟨rfl, p⟩ | ⟨p1, p2, p⟩ | ⟨rfl, p⟩ | ⟨rfl, p⟩
  · have n := mv_wo0 (s := s) (b := b) (by omega)
    rw [n]
    rw [mk_iss_k (c := 40) (by omega)] at i40
    exact ⟨if_neg (fun z => nomatch z), i40, if_pos rfl, fun _ => by rw [w4, p]; rfl⟩
  · have n : mk_wo s b = some (23 + q) := (mk_wo_iff (by omega)).mpr p
    rw [mk_iss_k (c := 40) (by rw [p.1]; omega)] at i40
    refine ⟨?_, ?_, ?_, fun z => by omega⟩
    · rw [n, if_neg (fun z => by have := Option.some.inj z; omega), if_neg (by omega)]
    · rw [if_neg (by omega)]; exact i40
    · rw [n, if_neg (fun z => nomatch z), mk_bs gw, n, if_pos ⟨p1, p2⟩]
      show (if mm_wf (23 + q) = 0 then some 0 else some 1) = _
      rw [if_neg (mv_wf q p1 p2).1]
  · have n : mk_wo s b = some 21 := (mk_wo_iff (by omega)).mpr p
    rw [mk_iss_k (c := 40) (by rw [p.1]; omega)] at i40
    refine ⟨?_, ?_, ?_, fun z => by omega⟩
    · rw [n, if_pos rfl, if_pos rfl]
    · exact i40
    · rw [n, if_neg (fun z => nomatch z), mk_bs gw, n]
      show (if mm_wf 21 = 0 then some 0 else some 1) = _
      rw [if_pos ((mk_wf24 21 (by omega)).mpr (by omega))]; rfl
  · have n := mv_wo0 (s := s) (b := b) (by have := (mk_iss_3 p).1; omega)
    rw [n]
    rw [p] at i40
    exact ⟨if_neg (fun z => nomatch z), i40, if_pos rfl, fun z => by omega⟩
theorem mv_kp1 {q : Nat} {x2 : Int32} (hs : mk_sgs s) (ht : mm_tg (d + 14) = 2) (T : mk_TKX s b h) (p : mv_pk s b q) : f_La_readPart_b rp (d + 14) x2 h = mv_kp rp (d + 14) x2 (if q = 5 then 1 else 0) (if q = 6 then 1 else 0) (if 1 ≤ q ∧ q ≤ 4 then 1 else 0) h := by
  obtain ⟨a1, a2, a3, a4⟩ := mv_askx hs T p
  have gw := mx_gW T
  rw [mv_part0 ht]
  refine (mk_bs gw).trans ((mk_bs a1).trans ((mk_bs a2).trans ((mk_bs gw).trans ((mk_bs a3).trans ?_))))
  by_cases c5 : q = 5
  · rw [if_pos c5, if_neg (by decide)]
  · rw [if_neg c5, if_pos rfl]
    by_cases c6 : q = 6
    · rw [if_pos c6, if_neg (by decide)]
    · rw [if_neg c6, if_pos rfl]
      by_cases c : 1 ≤ q ∧ q ≤ 4
      · rw [if_pos c, if_neg (by decide)]
      · rw [if_neg c, if_pos rfl, if_pos (a4 ?_)]
        have q6 : q ≤ 6 := by
          rcases p with ⟨rfl, _⟩ | ⟨_, _, _⟩ | ⟨rfl, _⟩ | ⟨rfl, _⟩ <;> omega
        omega
theorem mv_kp0 {x2 : Int32} (hs : mk_sgs s) (ht : mm_tg (d + 14) = 2) (T : mk_TKX s b h) (h9 : h.1 33 9 = 0) (p : ∀ q, ¬ mv_pk s b q) : ∃ v, f_La_readPart_b rp (d + 14) x2 h = some v ∧ v.1 = 0 ∧ mk_FX (mk_fv 1 b) h v.2 := by
  obtain ⟨v, e1, e2, e3⟩ := mx_wrong (k := 1) T h9
  have gw := mx_gW T
  have i40 := mv_xs40 hs T
  have n40 : mk_iss s b 40 = false := mv_nt (fun c => p 6 (Or.inr (Or.inr (Or.inr ⟨rfl, c⟩))))
  rw [n40] at i40
  refine ⟨(0, v.2), ?_, rfl, e3⟩
  rw [mv_part0 ht]
  refine (mk_bs gw).trans ?_
  rw [if_neg (fun z => p 5 (Or.inr (Or.inr (Or.inl ⟨rfl, (mk_wo_iff (by omega)).mp z⟩))))]
  refine (mk_bs (v := (0 : Int32)) rfl).trans ((mk_bs i40).trans ((mk_bs gw).trans ((mk_bs (v := (0 : Int32)) ?_).trans ?_)))
  · cases e : mk_wo s b with
    | none => exact if_pos rfl
    | some i =>
      rw [if_neg (fun z => nomatch z), mk_bs gw, e]
      obtain ⟨i1, i2⟩ := mk_wo_some.mp e
      show (if mm_wf i = 0 then some 0 else some 1) = _
      refine if_pos ((mk_wf24 i i1).mpr ?_)
      rcases Nat.lt_or_ge i 24 with l | l
      · exact l
      · exact absurd (Or.inr (Or.inl ⟨by omega, by omega, by rw [show 23 + (i - 23) = i by omega]; exact i2⟩)) (p (i - 23))
  · rw [if_pos rfl, if_pos (show Int32.ofNat false.toNat = 0 from rfl), if_pos rfl, T.2.2.2.2.1, if_neg (fun z => p 0 (Or.inl ⟨rfl, (mk_kX_eq s b).2.2.1.mp z⟩))]
    refine (mk_bs (show f_Ta_wrong 1 h = some v from e1)).trans ?_
    rw [e2]; rfl
theorem mv_part (hs : mk_sgs s) (hd : d = 79 ∨ d = 96) (k5 : k ≤ 5) (rec : k < 5 → mv_SPp s d (k + 1) (rp (d + 14) (Int32.ofNat (k + 1)))) : mv_SPp s d k (f_La_readPart_b rp (d + 14) (Int32.ofNat k)) := by
  have ht := (mk_tt hd).2
  have s1 := hs.1
  have d33 : 33 < d := by omega
  intro b n m hX hM Z
  have TX := Z.1
  have TM := Z.2.2.1
  have bl := TX.1
  by_cases pe : ∃ q, mv_pk s b q
  · obtain ⟨q, p⟩ := pe
    have bs := mv_pk_lt p
    rw [mv_kp1 hs ht TX p]
    unfold mv_kp
    by_cases c5 : k = 5
    · obtain ⟨v, e1, e2, e3⟩ := mx_wrong (k := 5) TX Z.2.1
      obtain ⟨c, c1, c2⟩ := mv_pt5 hs TM p
      rw [c5, if_neg (by decide)]
      refine mv_res.ff (s := s) (b := b) (k := 5) (v := (0, v.2)) d33 (by omega) (by omega) ?_ rfl e3 c1 c2
      refine (mk_bs (show f_Ta_wrong 5 hX = some v from e1)).trans ?_
      rw [e2]; rfl
    · rw [if_pos ((mn_ltl (b := 5) (show k < 2147483648 by omega) (by decide)).mpr (show k < 5 by omega))]
      by_cases q4 : q ≤ 4
      · -- a number, a fact
        rw [if_neg (show ¬ q = 5 by omega), if_pos rfl, if_neg (show ¬ q = 6 by omega), if_pos rfl]
        obtain ⟨h', eM, MS⟩ := mv_ptv hs (show k < 5 by omega) TM Z.2.2.2.2.2.1 (by have := Z.2.2.2.2.2.2; omega) p q4
        have val : ∃ yy : Int32, (if (if 1 ≤ q ∧ q ≤ 4 then (1 : Int32) else 0) = 0 then (some (hX.1 33 5)) else ((mm_gW hX).bind fun wd29 => (wd29).bind fun k31 => some (mm_wf k31)) : Option Int32) = some yy ∧ ∃ v, mv_X [yy] v 1 ∧ mv_P [if 1 ≤ q then Int32.ofNat q else 100 + Int32.ofNat (mk_nu s b)] k v := by
          by_cases c1 : 1 ≤ q
          · have F : (if 1 ≤ q ∧ q ≤ 4 then (1 : Int32) else 0) = 1 := if_pos ⟨c1, q4⟩
            rw [F, if_neg (show ¬ (1 : Int32) = 0 by decide), mk_bs (mx_gW TX), if_pos c1]
            have pw : mk_isw s b (23 + q) := by
              rcases p with ⟨z, _⟩ | ⟨_, _, z⟩ | ⟨z, _⟩ | ⟨z, _⟩
              · omega
              · exact z
              · omega
              · omega
            rw [(mk_wo_iff (by omega)).mpr pw]
            obtain ⟨f1, f2, f3, f4, f5, f6⟩ := mv_wf q c1 q4
            refine ⟨mm_wf (23 + q), rfl, fun e => e q, ?_, ?_⟩
            · have : q = 1 ∨ q = 2 ∨ q = 3 ∨ q = 4 := by omega
              have A := mv_X.arg f2
              rcases this with rfl | rfl | rfl | rfl
              · rw [f3 rfl] at A ⊢; exact A
              · rw [f4 rfl] at A ⊢; exact A
              · rw [f5 rfl] at A ⊢; exact A
              · rw [f6 rfl] at A ⊢; exact A
            · have : q = 1 ∨ q = 2 ∨ q = 3 ∨ q = 4 := by omega
              rcases this with rfl | rfl | rfl | rfl
              · exact mv_P.f1
              · exact mv_P.f2
              · exact mv_P.f3
              · exact mv_P.f4
          · have kd : mk_kd s b = 2 := by
              rcases p with ⟨_, z⟩ | ⟨z, _, _⟩ | ⟨z, _⟩ | ⟨z, _⟩
              · exact z
              · omega
              · omega
              · omega
            have nl := mk_nu_lt kd
            have F : (if 1 ≤ q ∧ q ≤ 4 then (1 : Int32) else 0) = 0 := if_neg (fun z => c1 z.1)
            rw [F, if_pos rfl, if_neg c1, TX.2.2.2.2.2.2.2.1 kd]
            have nn : 0 ≤ Int32.ofNat (mk_nu s b) := (mn_lle (b := 0) (show mk_nu s b < 2147483648 by omega) (by decide)).mpr (Nat.zero_le _)
            have ne : ∀ c : Int32, c < 0 → ¬ Int32.ofNat (mk_nu s b) = c := fun c hc z => by rw [z] at nn; exact absurd hc (Int32.not_lt.mpr nn)
            refine ⟨_, rfl, fun _ => Int32.ofNat (mk_nu s b), ?_, ?_⟩
            · have A := mv_X.arg (y := Int32.ofNat (mk_nu s b)) (fun z => absurd (Int32.lt_of_le_of_lt nn z) (by decide))
              have ev : (fun e => mv_arg e (Int32.ofNat (mk_nu s b))) = fun _ => Int32.ofNat (mk_nu s b) := by
                funext e
                unfold mv_arg
                rw [if_neg (ne _ (by decide)), if_neg (ne _ (by decide)), if_neg (ne _ (by decide)), if_neg (ne _ (by decide))]
              rw [ev] at A
              exact A
            · have h100 : (100 : Int32) + Int32.ofNat (mk_nu s b) = Int32.ofNat (100 + mk_nu s b) := mn_ladd 100 _
              have A := mv_P.num (d := k) (c := 100 + Int32.ofNat (mk_nu s b)) (by rw [h100]; exact (mn_lle (b := 100) (show 100 + mk_nu s b < 2147483648 by omega) (by decide)).mpr (show 100 ≤ 100 + mk_nu s b by omega))
              have ev : (100 : Int32) + Int32.ofNat (mk_nu s b) - 100 = Int32.ofNat (mk_nu s b) := by grind
              rw [ev] at A
              exact A
        obtain ⟨yy, e0, v, sX, sP⟩ := val
        have n0 := Z.2.2.2.2.1
        obtain ⟨z1, z2, z3, z4, z5, z6, z7⟩ := Z
        have pz : f_La_put (d + 14) yy hX = some (mm_pI (mm_pI hX (d + 15) n yy) (d + 14) 2 (Int32.ofNat (n + 1))) := mx_put ht z4 (by omega)
        have T1 : mk_TKX s b (mm_pI (mm_pI hX (d + 15) n yy) (d + 14) 2 (Int32.ofNat (n + 1))) := (z1.cell ⟨by omega, by omega⟩).cell ⟨by omega, by omega⟩
        have kx1 : mv_kx d n hX (mm_pI (mm_pI hX (d + 15) n yy) (d + 14) 2 (Int32.ofNat (n + 1))) := ⟨mk_cr.of ((mk_ch.pI (D := fun c => c = 33 ∨ c = d + 14 ∨ c = d + 15) (Or.inr (Or.inr rfl))).tr (mk_ch.pI (D := fun c => c = 33 ∨ c = d + 14 ∨ c = d + 15) (Or.inr (Or.inl rfl))) (fun _ z => z) (fun _ z => z)), by rw [mp_I1, if_neg (by omega), mp_I1, if_neg (by omega)], fun j hj => by rw [mp_I1, if_neg (by omega), mp_I1, if_neg (by omega)]⟩
        have v1 : (mm_pI (mm_pI hX (d + 15) n yy) (d + 14) 2 (Int32.ofNat (n + 1))).1 (d + 15) n = yy := by rw [mp_I1, if_neg (by omega), mp_I1, if_pos ⟨rfl, rfl⟩]
        have v2 : (mm_pI (mm_pI hX (d + 15) n yy) (d + 14) 2 (Int32.ofNat (n + 1))).1 (d + 14) 2 = Int32.ofNat (n + 1) := by rw [mp_I1, if_pos ⟨rfl, rfl⟩]
        have v9 : (mm_pI (mm_pI hX (d + 15) n yy) (d + 14) 2 (Int32.ofNat (n + 1))).1 33 9 = 0 := by rw [mp_I1, if_neg (by omega), mp_I1, if_neg (by omega)]; exact z2
        revert pz T1 kx1 v1 v2 v9
        generalize mm_pI (mm_pI hX (d + 15) n yy) (d + 14) 2 (Int32.ofNat (n + 1)) = g1
        intro pz T1 kx1 v1 v2 v9
        obtain ⟨g2, e2, x2⟩ := mx_ttake hs T1
        have l1 := mk_en_lt bs
        have l2 := (mk_ntk_le (s := s) (b := b) bl).1
        refine mv_res.xs e0 (mv_res.xs pz (mv_res.xs e2 (mv_res.m eM (mv_res.ret ?_))))
        refine ⟨mk_ntk s b, [yy], [if 1 ≤ q then Int32.ofNat q else 100 + Int32.ofNat (mk_nu s b)], h', by omega, rfl, ⟨x2.2, x2.1.2.2.trans v9, MS.1, ?_, by rw [List.length_singleton]; omega, MS.2.1, by rw [List.length_singleton]; omega⟩, by rw [List.length_singleton]; omega, by rw [List.length_singleton]; omega, by rw [List.length_singleton]; omega, by rw [List.length_singleton]; omega, kx1.tr (x2.1.kx d33), MS.2.2.2.dn (by omega) (by omega) (Nat.le_refl _), mv_at.one ?_, mv_at.one MS.2.2.1, ⟨by omega, v, sX.mono (by omega), sP⟩, trivial⟩
        · rw [x2.1.1.e1 (c := d + 14) (by omega)]; exact v2
        · rw [x2.1.1.e1 (c := d + 15) (by omega)]; exact v1
      · -- not, an opening
        have R := rec (by omega)
        have q56 : q = 5 ∨ q = 6 := by
          rcases p with ⟨rfl, _⟩ | ⟨_, _, _⟩ | ⟨rfl, _⟩ | ⟨rfl, _⟩ <;> omega
        obtain ⟨g1, e1, x1⟩ := mx_ttake hs TX
        have kx1 : mv_kx d n hX g1 := x1.1.kx d33
        rcases q56 with q5 | q6
        · rw [if_pos q5, if_neg (by decide), show Int32.ofNat k + 1 = Int32.ofNat (k + 1) from mn_addl 1 k]
          obtain ⟨h1, eM, MS, o1, o2⟩ := mv_pto (c := 30) (w := 1) hs (show k < 5 by omega) TM Z.2.2.2.2.2.1 (by have := Z.2.2.2.2.2.2; omega) p (Or.inl ⟨q5, rfl, rfl⟩)
          obtain ⟨lt, Z1⟩ := Z.nx hd bs x1 MS
          refine mv_res.xs e1 (mv_res.m eM ?_)
          refine mv_res.bind ((R _ n (m + 1) g1 h1 Z1).up (kx1.dn (Nat.zero_le _)) (MS.2.2.2.dn (Nat.zero_le _) (Nat.zero_le _) (Nat.zero_le _))) (fun g3 y3 qq => ?_)
          obtain ⟨b3, P, C, h3, lt3, rfl, Z3, lP, lC, pP, pC, kx3, ky3, aP, aC, ⟨k4, v, x, y⟩, _⟩ := qq
          have n1 := Z.2.2.2.2.1
          obtain ⟨g4, e4, Z4, kx4, v4⟩ := Z3.put (y := -5) hs hd (by omega)
          refine mv_res.xs e4 ?_
          have pe : mv_po (h1.1 281) (k + 1) = mv_po (hM.1 281) k := by
            show (if h1.1 281 (k + 1) = 1 then mv_po (h1.1 281) k else k + 1) = _
            rw [if_pos o1]
            exact mv_po.cg k (fun j hj => MS.2.2.2.2.2.2.1 j hj)
          rw [pe]
          refine mv_res.ret ⟨b3, P ++ [-5], 30 :: C, h3, by omega, rfl, ?_, by rw [List.length_append, List.length_singleton]; omega, by rw [List.length_cons]; omega, by rw [List.length_append, List.length_singleton]; omega, by rw [List.length_cons]; omega, (kx1.tr kx3).tr (kx4.dn (by omega)), MS.2.2.2.tr (ky3.dn (by omega) (by omega) (by omega)), ?_, ?_, ⟨by omega, fun e => mv_n1 (v e), (x.not).mono (by omega), mv_P.not (by omega) y⟩, trivial⟩
          · rw [List.length_append, List.length_singleton, List.length_cons, show m + (C.length + 1) = m + 1 + C.length by omega]
            exact Z4
          · exact (aP.cg (fun j j1 j2 => kx4.2.2 j (by omega))).app (mv_at.one v4)
          · have o : mv_at (h3.1 280) (1000 + m) [30] := mv_at.one (by rw [ky3.2.2.1 _ (by omega)]; exact MS.2.2.1)
            refine o.app (Q := C) ?_
            rw [List.length_singleton, show 1000 + m + 1 = 1000 + (m + 1) by omega]
            exact aC
        · rw [if_neg (show ¬ q = 5 by omega), if_pos rfl, if_pos q6, if_neg (by decide), show Int32.ofNat k + 1 = Int32.ofNat (k + 1) from mn_addl 1 k]
          obtain ⟨h1, eM, MS, o1, o2⟩ := mv_pto (c := 28) (w := 2) hs (show k < 5 by omega) TM Z.2.2.2.2.2.1 (by have := Z.2.2.2.2.2.2; omega) p (Or.inr ⟨q6, rfl, rfl⟩)
          obtain ⟨lt, Z1⟩ := Z.nx hd bs x1 MS
          have po1 : mv_po (h1.1 281) (k + 1) = k + 1 := by
            show (if h1.1 281 (k + 1) = 1 then mv_po (h1.1 281) k else k + 1) = _
            rw [if_neg (by rw [o1]; decide)]
          refine mv_res.xs e1 (mv_res.m eM ?_)
          refine mv_res.bind ((mv_alls hs hd (show k + 1 < 7 by omega) R _ n (m + 1) g1 h1 Z1 po1 o2).up (kx1.dn (Nat.zero_le _)) (MS.2.2.2.dn (Nat.zero_le _) (Nat.zero_le _) (Nat.zero_le _))) (fun g3 y3 qq => ?_)
          obtain ⟨b3, P, C, h3, lt3, rfl, Z3, lP, lC, pP, pC, kx3, ky3, aP, aC, ⟨k4, v, x, y⟩, en⟩ := qq
          have n1 := Z.2.2.2.2.1
          have b3l := Z3.1.1
          have kxt : mv_kx d n hX g3 := kx1.tr kx3
          have kyt : mv_ky (k + 1) (k + 1) m hM h3 := MS.2.2.2.tr (ky3.dn (by omega) (Nat.le_refl _) (by omega))
          cases c41 : mk_iss s b3 41
          · obtain ⟨w, w1, w2, w3⟩ := mx_takeSign0 (c := 41) hs Z3.1 (by decide) Z3.2.1 c41
            obtain ⟨c, c1, c2⟩ := mv_fail hs (show k + 1 < 7 by omega) Z3.2.2.1 en (Or.inr c41) (fun z => by omega)
            refine mv_res.up (mv_res.ff (s := s) (b := b3) (k := 1) (v := (0, w.2)) d33 (by omega) (by omega) ?_ rfl w3 c1 c2) (kxt.dn (Nat.zero_le _)) (kyt.dn (Nat.zero_le _) (Nat.zero_le _) (Nat.zero_le _))
            refine (mk_bs (show f_Ta_takeSign 41 g3 = some w from w1)).trans ?_
            rw [if_pos w2]
          · obtain ⟨w, w1, w2, w3⟩ := mx_takeSign1 (c := 41) hs Z3.1 (by decide) c41
            have z7 := Z3.2.2.2.2.2.2
            have bs3 := mv_iss_b c41
            obtain ⟨h4, eM4, MS4⟩ := mv_op41 hs (show k + 1 < 7 by omega) Z3.2.2.1 Z3.2.2.2.2.2.1 (by omega) en c41
            obtain ⟨lt4, Z4⟩ := Z3.nx hd bs3 w3 MS4
            have pe : mv_po (h3.1 281) k = mv_po (hM.1 281) k := mv_po.cg k (fun j hj => kyt.2.2.2.1 j hj)
            rw [pe] at eM4
            refine mv_res.xs (show f_Ta_takeSign 41 g3 = some w from w1) ?_
            rw [if_neg (by rw [w2]; decide)]
            refine mv_res.m eM4 (mv_res.ret ?_)
            have kx4 : mv_kx d n g3 w.2 := w3.1.kx d33
            have lenC : (28 :: (C ++ [29])).length = C.length + 2 := by
              rw [List.length_cons, List.length_append, List.length_singleton]
            refine ⟨mk_ntk s b3, P, 28 :: (C ++ [29]), h4, by omega, rfl, ?_, by omega, by rw [lenC]; omega, pP, by rw [lenC]; omega, kxt.tr kx4, kyt.tr (MS4.2.2.2.dn (by omega) (by omega) (by omega)), ?_, ?_, ⟨by omega, v, x.mono (by omega), mv_P.opn (by omega) y⟩, trivial⟩
            · rw [lenC, show m + (C.length + 2) = m + 1 + C.length + 1 by omega]
              exact Z4
            · exact aP.cg (fun j j1 j2 => by rw [w3.1.1.e1 (c := d + 15) (by omega)])
            · have F := MS4.2.2.2.2.2.1
              have o : mv_at (h4.1 280) (1000 + m) [28] := mv_at.one (by rw [F _ (by omega), ky3.2.2.1 _ (by omega)]; exact MS.2.2.1)
              refine o.app (Q := C ++ [29]) ?_
              rw [List.length_singleton, show 1000 + m + 1 = 1000 + (m + 1) by omega]
              refine (aC.cg (fun j j1 j2 => F j (by omega))).app (mv_at.one ?_)
              rw [show 1000 + (m + 1) + C.length = 1000 + (m + 1 + C.length) by omega]
              exact MS4.2.2.1
  · have p : ∀ q, ¬ mv_pk s b q := fun q z => pe ⟨q, z⟩
    obtain ⟨v, e1, e2, e3⟩ := mv_kp0 (rp := rp) (x2 := Int32.ofNat k) hs ht TX Z.2.1 p
    obtain ⟨c, c1, c2⟩ := mv_pt0 (x := Int32.ofNat k) hs TM p
    exact mv_res.ff (s := s) (b := b) (k := 1) d33 (by omega) (by omega) e1 e2 e3 c1 c2
theorem mv_parts (hs : mk_sgs s) (hd : d = 79 ∨ d = 96) : ∀ n k, k ≤ 5 → 6 ≤ k + n → mv_SPp s d k (f_La_readPart_n n (d + 14) (Int32.ofNat k))
  | 0, k, h1, h2 => by omega
  | n + 1, k, h1, h2 => mv_part hs hd h1 (fun h => mv_parts hs hd n (k + 1) (by omega) (by omega))
end RC
